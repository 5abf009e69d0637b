/-! The reference: numbered, number. -/
theorem ct_rank {v : Nat → Nat} {n a b : Nat} (ha : a < n) (h : v a < v b) : ct (fun s => decide (v s < v a)) n + 1 ≤ ct (fun s => decide (v s < v b)) n := by
  have h1 := ct_flip (p := fun s => decide (v s < v a) || decide (s = a)) (p' := fun s => decide (v s < v a)) (x := a) (by simp) (by simp) (fun s hs => by simp [hs]) n ha
  have h2 : ct (fun s => decide (v s < v a) || decide (s = a)) n ≤ ct (fun s => decide (v s < v b)) n := ct_mono n (fun s _ q => by
    simp only [Bool.or_eq_true, decide_eq_true_eq] at q ⊢
    rcases q with q | q
    · omega
    · rw [q]; exact h)
  omega
theorem NR.after {z z1 z2 : St} {n N N1 t : Nat} {K L R r c c1 : Nat → Nat} {as as1 : Nat → Bool} {res : Int32} (hs : ∀ s, as s = true → s < n → as1 s = true ∧ c1 s = c s) (hN : N ≤ N1) (h9 : ∀ j, j < N → z1.2 9 j = z.2 9 j) (h9' : ∀ j, N ≤ j → j < N1 → z1.2 9 j = -1) (h1 : ∀ k, k ≠ 2 → z1.1 k = z.1 k) (h2 : ∀ k, (k < 5 ∨ 10 ≤ k) → z1.2 k = z.2 k) (h : NR z1 z2 n K L R r as1 c1 N1 t res) : NR z z2 n K L R r as c N t res := by
  obtain ⟨as2, c2, N2, K2, A2, B2, e1, e2, e3, e4, e5, e6, e7, e8, e9⟩ := h
  refine ⟨as2, c2, N2, K2, A2, B2, e1, e2, e3, fun s q hsn => ?_, by omega, fun j hj => ?_, fun j q1 q2 => ?_, fun k hk => by rw [e8 k hk, h1 k hk], fun k hk => by rw [e9 k hk, h2 k hk]⟩
  · obtain ⟨p1, p2⟩ := hs s q hsn
    obtain ⟨p3, p4⟩ := e4 s p1 hsn
    exact ⟨p3, by rw [p4, p2]⟩
  · rw [e6 j (by omega), h9 j hj]
  · by_cases q : j < N1
    · rw [e6 j q, h9' j q1 q]
    · exact e7 j (by omega) q2
theorem m_numbered {n : Nat} {K L R o r d v : Nat → Nat} (hn : n ≤ 600) (h4 : ∀ t, t < n → K t < 4) (hLR : ∀ t, t < n → 2 ≤ K t → L t < n ∧ R t < n) (hf : us_fo n o r d) (hd : ∀ t, t < n → d t + rts n o ≤ n) (hv : us_sol n K L R v) (hrsp : us_rsp n o v) : ∀ (k : Nat) (z : St) (as : Nat → Bool) (c : Nat → Nat) (N : Nat) (K' : Nat → Nat) (A B : Nat → Int32) (t : Nat), ro z 3 n o → mr z n K L R → NB z n K L R r as c N K' A B → t < n → ct (fun s => decide (v s < v t)) n < k →
    ∃ z' res, f_M_numbered k z (nI t) = some (res, z') ∧ NR z z' n K L R r as c N t res := by
  have hr : ∀ s, s < n → r s < n ∧ r (r s) = r s := fun s hs => ⟨(hf s hs).2.1, hf.rr hs⟩
  intro k
  induction k with
  | zero => intro z as c N K' A B t _ _ _ _ h; omega
  | succ k ih =>
    intro z as c N K' A B t hz hm hNB ht hk
    obtain ⟨⟨b1, b2⟩, b3, b4, b5, b6, b7, b8⟩ := id hNB
    have hNn : N ≤ n := Nat.le_trans b2 (ct_le as n)
    have hxn : r t < n := (hr t ht).1
    have hrx : r (r t) = r t := (hr t ht).2
    have kx := hm.1 _ hxn
    have h4x := h4 _ hxn
    rw [f_M_numbered, m_is hn hf hd hz ht, Option.bind_some]
    dsimp only
    simp only [ix_f (show r t < 1000 by omega) (show 1000 < 2 ^ 31 by decide), ix_f (show t < 1000 by omega) (show 1000 < 2 ^ 31 by decide), cl_ (show r t < 2 ^ 31 by omega), cl_ (show t < 2 ^ 31 by omega), ix_g (show r t < 1000 by omega) (show 1000 < 2 ^ 31 by decide), ix_g (show t < 1000 by omega) (show 1000 < 2 ^ 31 by decide), kx, b3 _ hxn, n0 (show K (r t) < 2 ^ 31 by omega), n1 (show K (r t) < 2 ^ 31 by omega)]
    by_cases ea : as (r t) = true
    · rw [if_pos ea]
      obtain ⟨q1, q2, q3⟩ := b4 _ hxn ea
      rw [if_pos (by rw [i0, Int32.le_iff_toInt_le, nI_toInt (by omega), nI_toInt (by omega)]; omega), war_s]
      refine ⟨_, _, rfl, ?_⟩
      obtain ⟨as', c', e1, e2, e3, e4⟩ := NB.ext (z' := war z 5 t (nI (c (r t)))) (N1 := N) (j := c (r t)) (K1 := K') (A1 := A) (B1 := B) hn hNB hr hLR hxn hrx ht rfl (b5 _ hxn hrx ea).2.1 (fun s hs => ⟨rfl, rfl, rfl⟩) q1 ⟨(b5 _ hxn hrx ea).1, rfl, rfl⟩ (Or.inl rfl) b1 (fun s hs => by
        by_cases f2 : s = t
        · rw [f2, war_s, if_pos (Or.inr rfl)]
        · rw [war_i _ _ f2]
          by_cases f1 : s = r t
          · rw [if_pos (Or.inl f1), f1, b3 _ hxn, if_pos ea]
          · rw [if_neg (fun q => q.elim f1 f2)]) (fun s hs => by
        rw [war_n _ _ (by decide), war_n _ _ (by decide), war_n _ _ (by decide)]; exact b7 s hs)
      refine ⟨as', c', N, _, _, _, e1, e2, by rw [e3], e4, by omega, fun j hj => ?_, fun j h1 h2 => by omega, fun k hk => rfl, fun k hk => ?_⟩
      · rw [war_n _ _ (by decide)]
      · rw [war_n _ _ (by omega)]
    · rw [if_neg ea, if_neg (by decide)]
      by_cases e0 : K (r t) = 0
      · rw [if_pos e0, if_pos e0, i0]
        exact m_l91 hn hNB hm.1 h4 hr hLR hxn hrx ht rfl ⟨fun _ => ⟨rfl, rfl⟩, fun q => by omega, fun q => by omega⟩ FU 0 (Nat.zero_le _) (by unfold FU; omega) (fun j hj => by omega)
      · rw [if_neg e0]
        by_cases e1 : K (r t) = 1
        · rw [if_pos e1, if_neg e0, if_pos e1, i0]
          exact m_l91 hn hNB hm.1 h4 hr hLR hxn hrx ht rfl ⟨fun q => by omega, fun _ => ⟨rfl, rfl⟩, fun q => by omega⟩ FU 0 (Nat.zero_le _) (by unfold FU; omega) (fun j hj => by omega)
        · rw [if_neg e1]
          have k2 : 2 ≤ K (r t) := by omega
          obtain ⟨pl, pr⟩ := hLR _ hxn k2
          have vt : v t = v (r t) := us_rsp.r hf hrsp ht
          have vx := (hv _ hxn).2 k2
          have vl : v (L (r t)) < v t := by rw [vt, vx]; exact tm_N_fst k2
          have vr : v (R (r t)) < v t := by rw [vt, vx]; exact tm_N_snd k2
          have rl := ct_rank (v := v) pl vl
          have rr := ct_rank (v := v) pr vr
          obtain ⟨z1, res1, c1, d1⟩ := ih z as c N K' A B (L (r t)) hz hm hNB pl (by omega)
          rw [(hm.2 _ hxn k2).1, c1, Option.bind_some]
          dsimp only
          obtain ⟨as1, cc1, N1, K1, A1, B1, f1, f2, f3, f4, f5, f6, f7, f8, f9⟩ := d1
          have hm1 : mr z1 n K L R := hm.keep (f9 0 (by decide)) (f9 1 (by decide)) (f9 2 (by decide))
          rw [hm1.1 _ hxn]
          simp only [n0 (show K (r t) < 2 ^ 31 by omega), n1 (show K (r t) < 2 ^ 31 by omega)]
          rw [if_neg e0, if_neg e1, (hm1.2 _ hxn k2).2]
          obtain ⟨z2, res2, c2, d2⟩ := ih z1 as1 cc1 N1 K1 A1 B1 (R (r t)) (hz.keep (f9 3 (by decide))) hm1 f1 pr (by omega)
          rw [c2, Option.bind_some]
          dsimp only
          obtain ⟨as2, cc2, N2, K2, A2, B2, g1, g2, g3, g4, g5, g6, g7, g8, g9⟩ := d2
          have hm2 : mr z2 n K L R := hm1.keep (g9 0 (by decide)) (g9 1 (by decide)) (g9 2 (by decide))
          have hN2 : N2 ≤ n := Nat.le_trans g1.1.2 (ct_le as2 n)
          obtain ⟨p1, p2⟩ := g4 _ f2 pl
          obtain ⟨z3, res3, w1, w2⟩ := m_l91 (a := res1) (b := res2) hn g1 hm2.1 h4 hr hLR hxn hrx ht rfl ⟨fun q => by omega, fun q => by omega, fun _ => ⟨p1, g2, by rw [f3, p2], g3⟩⟩ FU 0 (Nat.zero_le _) (by unfold FU; omega) (fun j hj => by omega)
          rw [i0, w1]
          exact ⟨z3, res3, rfl, NR.after f4 f5 f6 f7 f8 f9 (NR.after g4 g5 g6 g7 g8 g9 w2)⟩
/-- what is numbered: the least types -/
def LSm (z : St) (n i : Nat) (as : Nat → Bool) (c : Nat → Nat) (N : Nat) : Prop := ∀ j, j < N → ((∃ s, s < i ∧ c s = j) → ∃ l, l < i ∧ z.2 9 j = nI l ∧ c l = j ∧ ∀ s, s < l → c s ≠ j) ∧ ((∀ s, s < i → c s ≠ j) → z.2 9 j = -1)
theorem m_l43 {n : Nat} {K L R o r d v : Nat → Nat} (hn : n ≤ 600) (h4 : ∀ t, t < n → K t < 4) (hLR : ∀ t, t < n → 2 ≤ K t → L t < n ∧ R t < n) (hf : us_fo n o r d) (hd : ∀ t, t < n → d t + rts n o ≤ n) (hv : us_sol n K L R v) (hrsp : us_rsp n o v) : ∀ (k i : Nat) (z : St) (as : Nat → Bool) (c : Nat → Nat) (N : Nat) (K' : Nat → Nat) (A B : Nat → Int32), i ≤ n → n - i < k → z.1 1 = nI n → ro z 3 n o → mr z n K L R → NB z n K L R r as c N K' A B → (∀ s, s < i → as s = true) → LSm z n i as c N →
    ∃ z' as' c' N' K'' A' B', f_M_number_l43 k z (nI i) = some z' ∧ NB z' n K L R r as' c' N' K'' A' B' ∧ (∀ s, s < n → as' s = true) ∧ LSm z' n n as' c' N' ∧ (∀ k, k ≠ 2 → z'.1 k = z.1 k) ∧ ∀ k, (k < 5 ∨ 10 ≤ k) → z'.2 k = z.2 k := by
  intro k
  induction k with
  | zero => intro i z as c N K' A B _ h; omega
  | succ k ih =>
    intro i z as c N K' A B hi hk h1 hz hm hNB has hls
    rw [f_M_number_l43, h1]
    by_cases q : i = n
    · subst q
      rw [if_pos (Int32.le_refl _)]
      exact ⟨z, as, c, N, K', A, B, rfl, hNB, has, hls, fun _ _ => rfl, fun _ _ => rfl⟩
    · rw [if_neg (nI_ge (by omega) (by omega))]
      obtain ⟨z1, res, a1, a2⟩ := m_numbered hn h4 hLR hf hd hv hrsp DP z as c N K' A B i hz hm hNB (by omega) (by have := ct_le (fun s => decide (v s < v i)) n; unfold DP; omega)
      rw [a1, Option.bind_some]
      dsimp only
      obtain ⟨as1, c1, N1, K1, A1, B1, f1, f2, f3, f4, f5, f6, f7, f8, f9⟩ := a2
      have hN1 : N1 ≤ n := Nat.le_trans f1.1.2 (ct_le as1 n)
      have hci := (f1.2.2.1 i (by omega) f2).1
      have hNn : N ≤ n := Nat.le_trans hNB.1.2 (ct_le as n)
      have hag : ∀ s, s < i → c1 s = c s := fun s hs => (f4 s (has s hs) (by omega)).2
      have hls1 : ∀ j, j < N1 → ((∃ s, s < i ∧ c1 s = j) → ∃ l, l < i ∧ z1.2 9 j = nI l ∧ c1 l = j ∧ ∀ s, s < l → c1 s ≠ j) ∧ ((∀ s, s < i → c1 s ≠ j) → z1.2 9 j = -1) := fun j hj => by
        by_cases e : j < N
        · obtain ⟨p1, p2⟩ := hls j e
          rw [f6 j e]
          refine ⟨fun ⟨s, s1, s2⟩ => ?_, fun p => p2 (fun s hs => by rw [← hag s hs]; exact p s hs)⟩
          obtain ⟨l, l1, l2, l3, l4⟩ := p1 ⟨s, s1, by rw [← hag s s1]; exact s2⟩
          exact ⟨l, l1, l2, by rw [hag l l1]; exact l3, fun s hs => by rw [hag s (by omega)]; exact l4 s hs⟩
        · refine ⟨fun ⟨s, s1, s2⟩ => ?_, fun _ => f7 j (by omega) hj⟩
          have := (hNB.2.2.1 s (by omega) (has s s1)).1
          rw [hag s s1] at s2
          omega
      rw [f3, ix_f (by omega) (by decide), cl_ (by omega), nI_1]
      have hm1 : mr z1 n K L R := hm.keep (f9 0 (by decide)) (f9 1 (by decide)) (f9 2 (by decide))
      have has1 : ∀ s, s < i + 1 → as1 s = true := fun s hs => by
        by_cases e : s = i
        · rw [e]; exact f2
        · exact (f4 s (has s (by omega)) (by omega)).1
      by_cases ex : ∃ s, s < i ∧ c1 s = c1 i
      · obtain ⟨l, l1, l2, l3, l4⟩ := (hls1 _ hci).1 ex
        rw [l2, if_pos (by rw [i0, Int32.le_iff_toInt_le, nI_toInt (by omega), nI_toInt (by omega)]; omega)]
        obtain ⟨z', as', c', N', K'', A', B', w1, w2, w3, w4, w5, w6⟩ := ih (i + 1) z1 as1 c1 N1 K1 A1 B1 (by omega) (by omega) (by rw [f8 1 (by decide)]; exact h1) (hz.keep (f9 3 (by decide))) hm1 f1 has1 (fun j hj => by
          obtain ⟨p1, p2⟩ := hls1 j hj
          refine ⟨fun ⟨s, s1, s2⟩ => ?_, fun p => p2 (fun s hs => p s (by omega))⟩
          have : ∃ s, s < i ∧ c1 s = j := by
            by_cases e : s = i
            · rw [e] at s2; obtain ⟨s', u1, u2⟩ := ex; exact ⟨s', u1, u2.trans s2⟩
            · exact ⟨s, by omega, s2⟩
          obtain ⟨m, m1, m2⟩ := p1 this
          exact ⟨m, by omega, m2⟩)
        exact ⟨z', as', c', N', K'', A', B', w1, w2, w3, w4, fun k hk => by rw [w5 k hk, f8 k hk], fun k hk => by rw [w6 k hk, f9 k hk]⟩
      · have hm1' := (hls1 _ hci).2 (fun s hs e => ex ⟨s, hs, e⟩)
        rw [hm1', if_neg (by decide), ix_g (by omega) (by decide)]
        obtain ⟨z', as', c', N', K'', A', B', w1, w2, w3, w4, w5, w6⟩ := ih (i + 1) (war z1 9 (c1 i) (nI i)) as1 c1 N1 K1 A1 B1 (by omega) (by omega) (by rw [war_1, f8 1 (by decide)]; exact h1) (hz.keep (by rw [war_n _ _ (by decide), f9 3 (by decide)])) (hm1.keep (war_n _ _ (by decide)) (war_n _ _ (by decide)) (war_n _ _ (by decide)))
          (by
            obtain ⟨u1, u2, u3, u4, u5, u6, u7⟩ := f1
            exact ⟨u1, fun t ht => by rw [war_n _ _ (by decide)]; exact u2 t ht, u3, u4, u5, fun j hj => by rw [war_n _ _ (by decide), war_n _ _ (by decide), war_n _ _ (by decide)]; exact u6 j hj, u7⟩) has1 (fun j hj => by
          obtain ⟨p1, p2⟩ := hls1 j hj
          by_cases e : j = c1 i
          · rw [e, war_s]
            exact ⟨fun _ => ⟨i, by omega, rfl, rfl, fun s hs q => ex ⟨s, hs, q⟩⟩, fun p => absurd rfl (p i (by omega))⟩
          · rw [war_i _ _ e]
            refine ⟨fun ⟨s, s1, s2⟩ => ?_, fun p => p2 (fun s hs => p s (by omega))⟩
            have hsi : s ≠ i := fun q => e (by rw [← s2, q])
            obtain ⟨m, m1, m2⟩ := p1 ⟨s, by omega, s2⟩
            exact ⟨m, by omega, m2⟩)
        refine ⟨z', as', c', N', K'', A', B', w1, w2, w3, w4, fun k hk => by rw [w5 k hk, war_1, f8 k hk], fun k hk => by rw [w6 k hk, war_n _ _ (by omega), f9 k hk]⟩
theorem m_l20 {n : Nat} (hn : n ≤ 600) : ∀ (k i : Nat) (z : St), i ≤ n → n - i < k → z.1 1 = nI n → (∀ t, t < i → z.2 5 t = -1) → ∃ z', f_M_number_l20 k z (nI i) = f_M_number_l43 FU z' 0 ∧ (∀ t, t < n → z'.2 5 t = -1) ∧ on [5] z z' := by
  intro k
  induction k with
  | zero => intro i z _ h; omega
  | succ k ih =>
    intro i z hi hk h1 h
    rw [f_M_number_l20, h1]
    by_cases q : i = n
    · subst q
      rw [if_pos (Int32.le_refl _)]
      exact ⟨z, rfl, h, on.rf⟩
    · rw [if_neg (nI_ge (by omega) (by omega)), ix_f (by omega) (by decide), cl_ (by omega), nI_1]
      obtain ⟨z', a1, a2, a3⟩ := ih (i + 1) (war z 5 i (-1)) (by omega) (by omega) h1 (fun t ht => by
        by_cases e : t = i
        · rw [e, war_s]
        · rw [war_i _ _ e]; exact h t (by omega))
      exact ⟨z', a1, a2, (on.war (by simp)).tr a3⟩
