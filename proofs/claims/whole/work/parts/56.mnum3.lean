/-! The reference: number, unknown: what is numbered stands for the same labellings. -/
theorem NB.same {z : St} {n N : Nat} {K L R o r d c K' v : Nat → Nat} {as : Nat → Bool} {A B : Nat → Int32} (hn : n ≤ 600) (h : NB z n K L R r as c N K' A B) (has : ∀ s, s < n → as s = true) (h4 : ∀ t, t < n → K t < 4) (hLR : ∀ t, t < n → 2 ≤ K t → L t < n ∧ R t < n) (hf : us_fo n o r d) (hv : us_sol n K L R v) (hrsp : us_rsp n o v) : ∀ (m s t : Nat), s < n → t < n → c s < m → c s = c t → v s = v t := by
  obtain ⟨⟨b1, b2⟩, b3, b4, b5, b6, b7, b8⟩ := h
  have hNn : N ≤ n := Nat.le_trans b2 (ct_le as n)
  have hc : ∀ s, s < n → c s < N := fun s hs => (b4 s hs (has s hs)).1
  intro m
  induction m with
  | zero => intro s t _ _ h; omega
  | succ m ih =>
    intro s t hs ht hm e
    have hsn := (hf s hs).2.1
    have htn := (hf t ht).2.1
    have es := (b4 s hs (has s hs)).2.2
    have et := (b4 t ht (has t ht)).2.2
    obtain ⟨k1, ⟨p1, p2, p3⟩, p4⟩ := b5 _ hsn (hf.rr hs) (has _ hsn)
    obtain ⟨k2, ⟨q1, q2, q3⟩, q4⟩ := b5 _ htn (hf.rr ht) (has _ htn)
    rw [es] at k1 p1 p2 p3 p4
    rw [et, ← e] at k2 q1 q2 q3 q4
    rw [us_rsp.r hf hrsp hs, us_rsp.r hf hrsp ht]
    have hkk : K (r s) = K (r t) := k1.symm.trans k2
    have hk : K (r s) = 0 ∨ K (r s) = 1 ∨ 2 ≤ K (r s) := by omega
    rcases hk with hk | hk | hk
    · have h1 := (p1 hk).1
      rw [(q1 (by omega)).1, neq (by omega) (by omega)] at h1
      rw [h1]
    · rw [(hv _ hsn).1 hk, (hv _ htn).1 (by omega)]
    · have hk' : 2 ≤ K (r t) := by omega
      obtain ⟨l1, l2⟩ := hLR _ hsn hk
      obtain ⟨l3, l4⟩ := hLR _ htn hk'
      obtain ⟨-, -, u1, u2⟩ := p3 hk
      obtain ⟨-, -, u3, u4⟩ := q3 hk'
      obtain ⟨w1, w2⟩ := p4 hk
      have x1 := hc _ l1
      have x2 := hc _ l2
      have x3 := hc _ l3
      have x4 := hc _ l4
      rw [u3, neq (by omega) (by omega)] at u1
      rw [u4, neq (by omega) (by omega)] at u2
      rw [(hv _ hsn).2 hk, (hv _ htn).2 hk', hkk, ih _ _ l1 l3 (by omega) u1.symm, ih _ _ l2 l4 (by omega) u2.symm]
theorem m_numberX {y : St} {n : Nat} {M : (Nat → Nat) → Prop} {K L R o r d : Nat → Nat} (hD : MD y n M K L R o r d) (hN : y.1 3 = 0 ∨ (y.1 3 = 1 ∧ ∃ (N : Nat) (c K' F' S' ls : Nat → Nat), NU y n M N c K' F' S' ls)) :
    ∃ z' N c K' F' S' ls, f_M_number y = some z' ∧ MD z' n M K L R o r d ∧ z'.1 3 = 1 ∧ NU z' n M N c K' F' S' ls ∧ z'.1 0 = y.1 0 := by
  unfold f_M_number
  rcases hN with h3 | ⟨h3, N, c, K', F', S', ls, hNU⟩
  · rw [if_pos h3]
    obtain ⟨⟨a1, a2⟩, a3, a4, a5, a6, a7, a8, a9, a10, v0, a11⟩ := id hD
    have h4 : ∀ t, t < n → K t < 4 := fun t ht => (a5 t ht).1
    have hLR : ∀ t, t < n → 2 ≤ K t → L t < n ∧ R t < n := fun t ht q => ⟨((a5 t ht).2 q).2.2.1, ((a5 t ht).2 q).2.2.2⟩
    have hm : mr y n K L R := ⟨a4, fun t ht q => ⟨((a5 t ht).2 q).1, ((a5 t ht).2 q).2.1⟩⟩
    obtain ⟨z1, c1, c2, c3⟩ := m_l20 a2 FU 0 (wsc (wsc y 3 1) 2 0) (Nat.zero_le _) (by unfold FU; omega) (by rw [wsc_n _ _ (by decide), wsc_n _ _ (by decide)]; exact a3) (fun t ht => by omega)
    rw [nI_0] at c1
    rw [c1]
    have e2 : ∀ k, k ≠ 5 → z1.2 k = y.2 k := fun k hk => by rw [c3.2 k (by simp [hk])]; rfl
    have v1 := ((a10 v0).mp a11).1
    have v2 := ((a10 v0).mp a11).2
    obtain ⟨z', as, c, N, K', A, B, d1, d2, d3, d4, d5, d6⟩ := m_l43 (v := v0) a2 h4 hLR a7 a8 v1 v2 FU 0 z1 (fun _ => false) (fun _ => 0) 0 (fun _ => 0) (fun _ => 0) (fun _ => 0) (Nat.zero_le _) (by unfold FU; omega) (by rw [c3.1, wsc_n _ _ (by decide), wsc_n _ _ (by decide)]; exact a3) (a6.keep (e2 3 (by decide))) (hm.keep (e2 0 (by decide)) (e2 1 (by decide)) (e2 2 (by decide)))
      ⟨⟨by rw [c3.1, wsc_s]; rfl, Nat.zero_le _⟩, fun t ht => by rw [c2 t ht]; rfl, fun _ _ q => by simp at q, fun _ _ _ q => by simp at q, fun j hj => by omega, fun j hj => by omega, fun i j hi => by omega⟩ (fun s hs => by omega) (fun j hj => by omega)
    rw [nI_0] at d1
    obtain ⟨⟨b1, b2⟩, b3, b4, b5, b6, b7, b8⟩ := id d2
    have hNn : N ≤ n := Nat.le_trans b2 (ct_le as n)
    have hc : ∀ s, s < n → c s < N := fun s hs => (b4 s hs (d3 s hs)).1
    have hD' : MD z' n M K L R o r d := hD.keep (by rw [d5 1 (by decide), c3.1, wsc_n _ _ (by decide), wsc_n _ _ (by decide)]) (fun k hk => by rw [d6 k (by omega), e2 k (by omega)])
    -- a root of each number
    obtain ⟨w, hw⟩ := Classical.skolem.mp (show ∀ j, ∃ x, j < N → x < n ∧ r x = x ∧ c x = j from fun j => by
      by_cases q : j < N
      · obtain ⟨t, t1, t2, t3⟩ := b6 j q
        exact ⟨r t, fun _ => ⟨(a7 t t1).2.1, a7.rr t1, by rw [(b4 t t1 t2).2.2]; exact t3⟩⟩
      · exact ⟨0, fun p => absurd p q⟩)
    have hKw : ∀ j, j < N → K' j = K (w j) := fun j hj => by
      obtain ⟨p1, p2, p3⟩ := hw j hj
      have := (b5 _ p1 p2 (d3 _ p1)).1
      rw [p3] at this
      exact this
    have hP : ∀ j, j < N → 2 ≤ K' j → A j = nI (c (L (w j))) ∧ B j = nI (c (R (w j))) ∧ c (L (w j)) < j ∧ c (R (w j)) < j ∧ L (w j) < n ∧ R (w j) < n := fun j hj q => by
      obtain ⟨p1, p2, p3⟩ := hw j hj
      obtain ⟨q1, ⟨q2, q3, q4⟩, q5⟩ := b5 _ p1 p2 (d3 _ p1)
      rw [hKw j hj] at q
      rw [p3] at q4 q5
      obtain ⟨l1, l2⟩ := hLR _ p1 q
      exact ⟨(q4 q).2.2.1, (q4 q).2.2.2, (q5 q).1, (q5 q).2, l1, l2⟩
    obtain ⟨ls, hls⟩ := Classical.skolem.mp (show ∀ j, ∃ l, j < N → l < n ∧ z'.2 9 j = nI l ∧ c l = j ∧ ∀ s, s < l → c s ≠ j from fun j => by
      by_cases q : j < N
      · obtain ⟨t, t1, t2, t3⟩ := b6 j q
        obtain ⟨l, l1⟩ := (d4 j q).1 ⟨t, t1, t3⟩
        exact ⟨l, fun _ => l1⟩
      · exact ⟨0, fun p => absurd p q⟩)
    have hcr : us_rsp n o c := fun t ht => by
      rw [← (b4 t ht (d3 t ht)).2.2, ← (b4 _ (a7 t ht).1 (d3 _ (a7 t ht).1)).2.2, (a7 t ht).2.2.2.1]
    refine ⟨z', N, c, K', fun j => c (L (w j)), fun j => c (R (w j)), ls, d1, hD', by rw [d5 3 (by decide), c3.1, wsc_n _ _ (by decide), wsc_s], ⟨⟨b1, hNn⟩, fun t ht => by rw [b3 t ht, if_pos (d3 t ht)], fun j hj => ?_, ⟨hc, fun j hj => ?_, fun j hj => ?_, fun i j hi hj hij => ⟨fun q => ?_, fun q e1 e2 => ?_⟩⟩, fun v => ?_⟩, by rw [d5 0 (by decide), c3.1, wsc_n _ _ (by decide), wsc_n _ _ (by decide)]⟩
    · obtain ⟨q1, q2, q3, q4⟩ := hls j hj
      obtain ⟨p1, p2, p3⟩ := b7 j hj
      refine ⟨p1, fun q => ?_, q2, q1, q3, q4⟩
      obtain ⟨u1, u2, -⟩ := hP j hj q
      exact ⟨p2.trans u1, p3.trans u2⟩
    · obtain ⟨t, t1, t2, t3⟩ := b6 j hj
      exact ⟨t, t1, t3⟩
    · refine ⟨by rw [hKw j hj]; exact h4 _ (hw j hj).1, fun q => ?_⟩
      obtain ⟨u1, u2, u3, u4, u5, u6⟩ := hP j hj q
      exact ⟨hc _ u5, hc _ u6, u3, u4⟩
    · obtain ⟨p1, p2, p3⟩ := hw i hi
      obtain ⟨q1, q2, q3⟩ := hw j hj
      have t1 := (b5 _ p1 p2 (d3 _ p1)).2.1.2.1 (by rw [← hKw i hi]; exact q)
      have t2 := (b5 _ q1 q2 (d3 _ q1)).2.1.2.1 (by rw [← hKw j hj]; omega)
      rw [p3] at t1
      rw [q3] at t2
      exact b8 i j hi hj hij (t1.1.trans t2.1.symm) (t1.2.trans t2.2.symm)
    · obtain ⟨u1, u2, -⟩ := hP i hi q
      obtain ⟨u3, u4, -⟩ := hP j hj (by omega)
      dsimp only at e1 e2
      exact b8 i j hi hj hij (by rw [u1, u3, e1]) (by rw [u2, u4, e2])
    · rw [a10 v]
      constructor
      · rintro ⟨s1, s2⟩
        have hsame := d2.same a2 d3 h4 hLR a7 s1 s2
        refine ⟨fun j => v (w j), fun t ht => ?_, fun j hj => ?_⟩
        · obtain ⟨p1, p2, p3⟩ := hw _ (hc t ht)
          exact hsame (c t + 1) t _ ht p1 (by omega) p3.symm
        · obtain ⟨p1, p2, p3⟩ := hw j hj
          rw [hKw j hj]
          refine ⟨(s1 _ p1).1, fun q => ?_⟩
          obtain ⟨u1, u2, u3, u4, u5, u6⟩ := hP j hj (by rw [hKw j hj]; exact q)
          obtain ⟨x1, x2, x3⟩ := hw _ (hc _ u5)
          obtain ⟨x4, x5, x6⟩ := hw _ (hc _ u6)
          dsimp only
          rw [(s1 _ p1).2 q, hsame _ _ _ u5 x1 (Nat.lt_succ_self _) x3.symm, hsame _ _ _ u6 x4 (Nat.lt_succ_self _) x6.symm]
      · rintro ⟨u, u1, u2⟩
        have s1 : us_sol n K L R v := fun t ht => by
          have hrt := (a7 t ht).2.1
          have ec := (b4 t ht (d3 t ht)).2.2
          have hK := (b5 _ hrt (a7.rr ht) (d3 _ hrt)).1
          rw [ec] at hK
          have hu := u2 _ (hc t ht)
          rw [u1 t ht]
          refine ⟨fun q => hu.1 (by rw [hK, (a9 t ht).1 (by omega)]; exact q), fun q => ?_⟩
          have hKt : K (r t) = K t := (a9 t ht).1 (by omega)
          have h2 := hu.2 (by rw [hK, hKt]; exact q)
          obtain ⟨x1, x2⟩ := hLR t ht q
          obtain ⟨y1, y2⟩ := (a9 t ht).2 q c hcr (fun q hq => by cases hq)
          obtain ⟨g1, g2, g3, g4, g5, g6⟩ := hP _ (hc t ht) (by rw [hK, hKt]; exact q)
          obtain ⟨-, -, f1, f2⟩ := (b5 _ hrt (a7.rr ht) (d3 _ hrt)).2.1.2.2 (by rw [hKt]; exact q)
          rw [ec] at f1 f2
          obtain ⟨l1, l2⟩ := hLR _ hrt (by rw [hKt]; exact q)
          have m1 := hc _ l1
          have m2 := hc _ l2
          have m3 := hc _ g5
          have m4 := hc _ g6
          rw [g1, neq (by omega) (by omega)] at f1
          rw [g2, neq (by omega) (by omega)] at f2
          dsimp only at h2
          rw [h2, u1 _ x1, u1 _ x2, y1, y2, hK, hKt, f1, f2]
        exact ⟨s1, fun t ht => by rw [u1 t ht, u1 _ (a7 t ht).1, hcr t ht]⟩
  · rw [if_neg (by rw [h3]; decide)]
    exact ⟨y, N, c, K', F', S', ls, rfl, hD, h3, hNU, rfl⟩
theorem m_unknown {y : St} {n t : Nat} {M : (Nat → Nat) → Prop} (h : MI y n M) (ht : t < n) : ∃ z' N c K' F' S' ls, f_M_unknown y (nI t) = some (0, z') ∧ MI z' n M ∧ NU z' n M N c K' F' S' ls ∧ z'.1 0 = 0 := by
  obtain ⟨h1, h2, h6⟩ := h.types
  have h' : MI (wsc y 0 0) n M := h.keep (fun k hk => wsc_n _ _ hk) (fun _ _ _ => rfl)
  obtain ⟨K, L, R, o, r, d, hD, hN⟩ := h'
  unfold f_M_unknown
  rw [m_none_ok h1 h6 ht, Option.bind_some]
  dsimp only
  rw [if_pos rfl]
  obtain ⟨z', N, c, K', F', S', ls, a1, a2, a3, a4, a5⟩ := m_numberX hD hN
  rw [a1, Option.bind_some]
  exact ⟨z', N, c, K', F', S', ls, rfl, ⟨K, L, R, o, r, d, a2, Or.inr ⟨a3, N, c, K', F', S', ls, a4⟩⟩, a4, by rw [a5, wsc_s]⟩
theorem m_unknown_no {y : St} {n : Nat} {a : Int32} {M : (Nat → Nat) → Prop} (h : MI y n M) (ha : noT n a) : ∃ z', f_M_unknown y a = some (1, z') ∧ MI z' n M ∧ z'.1 0 = 1 := by
  obtain ⟨h1, h2, h6⟩ := h.types
  unfold f_M_unknown
  rw [m_none_no h1 ha, Option.bind_some]
  dsimp only
  rw [if_neg (show ¬ (1 : Int32) = 0 by decide)]
  exact ⟨_, rfl, h.keep (fun k hk => by rw [wsc_n _ _ hk, wsc_n _ _ hk]) (fun _ _ _ => rfl), wsc_s _ _ _⟩
