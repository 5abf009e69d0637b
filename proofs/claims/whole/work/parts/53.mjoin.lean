/-! The reference: tried, undone, join, alike. -/
theorem m_l27 {n : Nat} {v3 v1 v2 : Int32} (hn : n ≤ 600) : ∀ (k i : Nat) (z : St), i ≤ n → n - i < k → z.1 1 = nI n → (∀ t, t < i → z.2 10 t = 0) → ∃ z', f_M_tried_l27 k z (nI i) v3 v1 v2 = f_M_tried_l53 FU z' 0 v3 v1 v2 ∧ (∀ t, t < n → z'.2 10 t = 0) ∧ on [10] z z' := by
  intro k
  induction k with
  | zero => intro i z _ h; omega
  | succ k ih =>
    intro i z hi hk h1 h
    rw [f_M_tried_l27, h1]
    by_cases q : i = n
    · subst q
      rw [if_pos (Int32.le_refl _)]
      exact ⟨z, rfl, h, on.rf⟩
    · rw [if_neg (nI_ge (by omega) (by omega)), ix_f (by omega) (by decide), cl_ (by omega), nI_1]
      obtain ⟨z', a1, a2, a3⟩ := ih (i + 1) (war z 10 i 0) (by omega) (by omega) h1 (fun t ht => by
        by_cases e : t = i
        · rw [e, war_s]
        · rw [war_i _ _ e]; exact h t (by omega))
      exact ⟨z', a1, a2, (on.war (by simp)).tr a3⟩
theorem m_l53_0 {z : St} {k : Nat} {v4 v1 v2 : Int32} : f_M_tried_l53 (k + 1) z v4 0 v1 v2 = some (0, z) := by
  rw [f_M_tried_l53, if_neg (show ¬¬((0 : Int32) = 0 ∨ (0 : Int32) = 1) by decide), if_pos (rfl : (0 : Int32) = 0)]
  split <;> rfl
theorem m_l53 {n : Nat} {K L R o r d : Nat → Nat} {v1 v2 : Int32} (hn : n ≤ 600) (h4 : ∀ t, t < n → K t < 4) (hLR : ∀ t, t < n → 2 ≤ K t → L t < n ∧ R t < n) (hf : us_fo n o r d) (hd : ∀ t, t < n → d t + rts n o ≤ n) : ∀ (k i : Nat) (z : St) (st fin : Nat → Nat) (cnt : Nat), i ≤ n → n - i < k → z.1 1 = nI n → ro z 3 n o → mr z n K L R → ro z 10 n st → EN n K L R r st fin cnt → (∀ x, x < n → st x ≠ 1) → (∀ s, s < i → K (r s) < 2 ∨ st (r s) = 2) →
    ∃ z' res, f_M_tried_l53 (k + 1) z (nI i) 1 v1 v2 = some (res, z') ∧ on [10] z z' ∧ ((res = 0 ∧ ∀ v, us_sol n K L R v ∧ us_rsp n o v → False) ∨ (res = 1 ∧ ∃ st' fin' cnt', EN n K L R r st' fin' cnt' ∧ ∀ s, s < n → K (r s) < 2 ∨ st' (r s) = 2)) := by
  intro k
  induction k with
  | zero => intro i z st fin cnt _ h; omega
  | succ k ih =>
    intro i z st fin cnt hi hk h1 hz hm hst hE hop hdn
    rw [f_M_tried_l53, h1]
    by_cases q : i = n
    · subst q
      rw [if_pos (Int32.le_refl _), if_neg (by decide)]
      exact ⟨z, 1, rfl, on.rf, Or.inr ⟨rfl, st, fin, cnt, hE, hdn⟩⟩
    · rw [if_neg (nI_ge (by omega) (by omega)), if_neg (by decide)]
      obtain ⟨z1, res, a1, a2, a3⟩ := m_endless hn h4 hLR hf hd DP z st fin cnt i hz hm hst hE (by omega) (by have := ct_le (fun x => decide (st x = 0)) n; unfold DP; omega) (fun v hv x hx p => absurd p (hop x hx))
      rw [a1, Option.bind_some, nI_1]
      dsimp only
      rcases a3 with ⟨rfl, hno⟩ | ⟨rfl, st', fin', cnt', b1, b2, b3, b4, b5, b6⟩
      · rw [if_neg (show ¬ (1 : Int32) = 0 by decide), m_l53_0]
        exact ⟨z1, 0, rfl, a2, Or.inl ⟨rfl, hno⟩⟩
      · rw [if_pos rfl]
        obtain ⟨z', res', c1, c2, c3⟩ := ih (i + 1) z1 st' fin' cnt' (by omega) (by omega) (by rw [a2.1]; exact h1) (hz.keep (a2.2 3 (by simp))) (hm.keep (a2.2 0 (by simp)) (a2.2 1 (by simp)) (a2.2 2 (by simp))) b1 b2 (fun x hx p => hop x hx ((b4 x hx).mp p)) (fun s hs => by
          by_cases e : s = i
          · rw [e]; exact b3
          · rcases hdn s (by omega) with p | p
            · exact Or.inl p
            · exact Or.inr (b5 _ (hf s (by omega)).2.1 p))
        exact ⟨z', res', c1, a2.tr c2, c3⟩
theorem m_tried {y : St} {n s t : Nat} {M : (Nat → Nat) → Prop} {K L R o r d : Nat → Nat} (hD : MD y n M K L R o r d) (hs : s < n) (ht : t < n) :
    ∃ z' res, f_M_tried y (nI s) (nI t) = some (res, z') ∧ z'.1 = y.1 ∧ (∀ k, k ≠ 3 → k ≠ 4 → k ≠ 10 → z'.2 k = y.2 k) ∧ ro z' 4 n o ∧ ((res = 0 ∧ ∀ v, M v → v s = v t → False) ∨ (res = 1 ∧ ∃ o' r' d', MD z' n (fun v => M v ∧ v s = v t) K L R o' r' d')) := by
  obtain ⟨⟨a1, a2⟩, a3, a4, a5, a6, a7, a8, a9, a10, v0, a11⟩ := hD
  have h4 : ∀ t, t < n → K t < 4 := fun t ht => (a5 t ht).1
  have hLR : ∀ t, t < n → 2 ≤ K t → L t < n ∧ R t < n := fun t ht q => ⟨((a5 t ht).2 q).2.2.1, ((a5 t ht).2 q).2.2.2⟩
  have hm : mr y n K L R := ⟨a4, fun t ht q => ⟨((a5 t ht).2 q).1, ((a5 t ht).2 q).2.1⟩⟩
  unfold f_M_tried
  rw [if_neg (by
    rw [a3, cl_ (show n < 2 ^ 31 by omega), show (0 : Int32).toNatClampNeg = 0 by decide]
    rintro ((h | h | h) | (h | h))
    · exact absurd h (by decide)
    · exact absurd h (by decide)
    · exact nI_pos (by omega) h
    · omega
    · omega), a3, cl_ (show n < 2 ^ 31 by omega), show (0 : Int32).toNatClampNeg = 0 by decide]
  have hz0 : ro (wal y 4 (va_cpy (y.2 3) (y.2 4) 0 0 n)) 4 n o := fun t ht => by
    rw [wal_s, pk_cpy_in (Nat.zero_le _) (by omega), show 0 + (t - 0) = t by omega]
    exact a6 t ht
  obtain ⟨z1, res1, b1, b2, b3⟩ := m_one a2 h4 hLR DP (wal y 4 (va_cpy (y.2 3) (y.2 4) 0 0 n)) o r d s t [] a7 a8 (a6.keep (wal_n _ _ (by decide))) (hm.keep (wal_n _ _ (by decide)) (wal_n _ _ (by decide)) (wal_n _ _ (by decide))) (fun t ht => ⟨(a9 t ht).1, fun q f h1 h2 => (a9 t ht).2 q f h1 (fun q hq => by cases hq)⟩) hs ht (by have := rts_le n o; unfold DP; omega)
  rw [b1, Option.bind_some, i0]
  dsimp only
  have e1 : z1.1 = y.1 := b2.1
  have e2 : ∀ k, k ≠ 3 → k ≠ 4 → z1.2 k = y.2 k := fun k q3 q4 => by rw [b2.2 k (by simp [q3]), wal_n _ _ q4]
  obtain ⟨z2, c1, c2, c3⟩ := m_l27 (v3 := res1) (v1 := nI s) (v2 := nI t) a2 FU 0 z1 (Nat.zero_le _) (by unfold FU; omega) (by rw [e1]; exact a3) (fun t ht => by omega)
  rw [c1]
  have f1 : z2.1 = y.1 := c3.1.trans e1
  have f2 : ∀ k, k ≠ 3 → k ≠ 4 → k ≠ 10 → z2.2 k = y.2 k := fun k q3 q4 q10 => by rw [c3.2 k (by simp [q10]), e2 k q3 q4]
  have f4 : ro z2 4 n o := hz0.keep (by rw [c3.2 4 (by simp), b2.2 4 (by simp)])
  rcases b3 with ⟨rfl, hno⟩ | ⟨rfl, o', r', d', g1, g2, g3, g4, g5, g6⟩
  · rw [show FU = 99999 + 1 from rfl, m_l53_0]
    exact ⟨z2, 0, rfl, f1, f2, f4, Or.inl ⟨rfl, fun v hv he => hno v ((a10 v).mp hv).1 ((a10 v).mp hv).2 he⟩⟩
  · have hz2 : ro z2 3 n o' := g3.keep (c3.2 3 (by simp))
    have hm2 : mr z2 n K L R := hm.keep (f2 0 (by decide) (by decide) (by decide)) (f2 1 (by decide) (by decide) (by decide)) (f2 2 (by decide) (by decide) (by decide))
    obtain ⟨z3, res3, p1, p2, p3⟩ := m_l53 (v1 := nI s) (v2 := nI t) a2 h4 hLR g1 g2 99999 0 z2 (fun _ => 0) (fun _ => 0) 0 (Nat.zero_le _) (by omega) (by rw [f1]; exact a3) hz2 hm2 (fun t ht => by rw [c2 t ht]; rfl) ⟨fun _ _ => Nat.zero_le _, fun _ _ q => by simp at q, fun _ _ _ q => by simp at q⟩ (fun _ _ => by simp) (fun s hs => by omega)
    rw [nI_0] at p1
    rw [show FU = 99999 + 1 from rfl, nI_0, p1]
    refine ⟨z3, res3, rfl, p2.1.trans f1, fun k q3 q4 q10 => by rw [p2.2 k (by simp [q10]), f2 k q3 q4 q10], f4.keep (p2.2 4 (by simp)), ?_⟩
    rcases p3 with ⟨rfl, hno⟩ | ⟨rfl, st, fin, cnt, hE, hdn⟩
    · refine Or.inl ⟨rfl, fun v hv he => hno v ⟨((a10 v).mp hv).1, ?_⟩⟩
      exact (g6 v ((a10 v).mp hv).1).mpr ⟨((a10 v).mp hv).2, he⟩
    · refine Or.inr ⟨rfl, o', r', d', ⟨a1, a2⟩, ?_, a4.keep ?_, fun t ht => ?_, hz2.keep (p2.2 3 (by simp)), g1, g2, g4, fun v => ?_, ?_⟩
      · rw [p2.1, f1]; exact a3
      · rw [p2.2 0 (by simp), f2 0 (by decide) (by decide) (by decide)]
      · rw [p2.2 1 (by simp), p2.2 2 (by simp), f2 1 (by decide) (by decide) (by decide), f2 2 (by decide) (by decide) (by decide)]; exact a5 t ht
      · dsimp only
        rw [a10 v]
        exact ⟨fun q => ⟨q.1.1, (g6 v q.1.1).mpr ⟨q.1.2, q.2⟩⟩, fun q => ⟨⟨q.1, ((g6 v q.1).mp q.2).1⟩, ((g6 v q.1).mp q.2).2⟩⟩
      · obtain ⟨v, v1, v2⟩ := us_ex (k := fun x => if K x < 2 then 0 else fin x + 1) g1 g4 hLR (fun x hx hrx q => by
          have hx2 : st x = 2 := by
            have := hdn x hx
            rw [hrx] at this
            omega
          obtain ⟨q1, q2⟩ := hE.2.2 x hx hrx hx2 q
          rw [if_neg (show ¬ K x < 2 by omega)]
          constructor
          · split <;> omega
          · split <;> omega)
        exact ⟨v, (a10 v).mpr ⟨v1, ((g6 v v1).mp v2).1⟩, ((g6 v v1).mp v2).2⟩
theorem m_undone {z : St} {n : Nat} {o : Nat → Nat} (hn : n ≤ 600) (h1 : z.1 1 = nI n) (h4 : ro z 4 n o) : ∃ z', f_M_undone z = some z' ∧ z'.1 = z.1 ∧ (∀ k, k ≠ 3 → z'.2 k = z.2 k) ∧ ro z' 3 n o := by
  unfold f_M_undone
  rw [if_neg (by
    rw [h1, cl_ (show n < 2 ^ 31 by omega), show (0 : Int32).toNatClampNeg = 0 by decide]
    rintro ((h | h | h) | (h | h))
    · exact absurd h (by decide)
    · exact absurd h (by decide)
    · exact nI_pos (by omega) h
    · omega
    · omega), h1, cl_ (show n < 2 ^ 31 by omega), show (0 : Int32).toNatClampNeg = 0 by decide]
  refine ⟨_, rfl, rfl, fun k hk => wal_n _ _ hk, fun t ht => ?_⟩
  rw [wal_s, pk_cpy_in (Nat.zero_le _) (by omega), show 0 + (t - 0) = t by omega]
  exact h4 t ht
theorem MD.keep3 {y y' : St} {n : Nat} {M : (Nat → Nat) → Prop} {K L R o r d : Nat → Nat} (h : MD y n M K L R o r d) (h1 : y'.1 1 = y.1 1) (hk : ∀ k, k < 3 → y'.2 k = y.2 k) (h3 : ro y' 3 n o) : MD y' n M K L R o r d := by
  obtain ⟨a1, a2, a3, a4, a5, a6⟩ := h
  exact ⟨a1, h1.trans a2, a3.keep (hk 0 (by decide)), fun t ht => by rw [hk 1 (by decide), hk 2 (by decide)]; exact a4 t ht, h3, a6⟩
theorem m_join {y : St} {n s t : Nat} {M : (Nat → Nat) → Prop} (h : MI y n M) (hs : s < n) (ht : t < n) : ∃ z' res, f_M_join y (nI s) (nI t) = some (res, z') ∧ z'.1 0 = 0 ∧ ((res = 0 ∧ MI z' n M ∧ ∀ v, M v → v s = v t → False) ∨ (res = 1 ∧ MI z' n (fun v => M v ∧ v s = v t))) := by
  obtain ⟨K, L, R, o, r, d, hD, -⟩ := h
  unfold f_M_join
  have h1 : (wsc y 0 0).1 1 = nI n := by rw [wsc_n _ _ (by decide)]; exact hD.2.1
  rw [m_none_ok hD.2.1 hD.1.2 hs, Option.bind_some]
  dsimp only
  rw [if_pos rfl, m_none_ok h1 hD.1.2 ht, Option.bind_some]
  dsimp only
  rw [if_pos rfl]
  have hD2 := hD.keep (y' := wsc (wsc y 0 0) 0 0) (by rw [wsc_n _ _ (by decide), wsc_n _ _ (by decide)]) (fun _ _ => rfl)
  obtain ⟨z1, res, b1, b2, b3, b4, b5⟩ := m_tried hD2 hs ht
  rw [b1, Option.bind_some]
  dsimp only
  rcases b5 with ⟨rfl, hno⟩ | ⟨rfl, o', r', d', hD3⟩
  · rw [if_pos rfl]
    obtain ⟨z2, c1, c2, c3, c4⟩ := m_undone (z := z1) hD.1.2 (by rw [b2]; exact hD2.2.1) b4
    rw [c1, Option.bind_some, if_neg (by decide)]
    refine ⟨_, 0, rfl, ?_, Or.inl ⟨rfl, ⟨K, L, R, o, r, d, hD2.keep3 ?_ (fun k hk => ?_) (c4.keep (by rw [wsc_2])), Or.inl (wsc_s _ _ _)⟩, hno⟩⟩
    · rw [wsc_n _ _ (by decide), c2, b2, wsc_s]
    · rw [wsc_n _ _ (by decide), c2, b2]
    · rw [wsc_2, c3 k (by omega), b3 k (by omega) (by omega) (by omega)]
  · rw [if_neg (show ¬ (1 : Int32) = 0 by decide), if_neg (by decide)]
    refine ⟨_, 1, rfl, ?_, Or.inr ⟨rfl, K, L, R, o', r', d', hD3.keep (wsc_n _ _ (by decide)) (fun _ _ => rfl), Or.inl (wsc_s _ _ _)⟩⟩
    rw [wsc_n _ _ (by decide), b2, wsc_s]
theorem m_alike {y : St} {n s t : Nat} {M : (Nat → Nat) → Prop} (h : MI y n M) (hs : s < n) (ht : t < n) : ∃ z' res, f_M_alike y (nI s) (nI t) = some (res, z') ∧ z'.1 0 = 0 ∧ MI z' n M ∧ ((res = 0 ∧ ∀ v, M v → v s = v t → False) ∨ (res = 1 ∧ ∃ v, M v ∧ v s = v t)) := by
  obtain ⟨K, L, R, o, r, d, hD, hN⟩ := h
  unfold f_M_alike
  have h1 : (wsc y 0 0).1 1 = nI n := by rw [wsc_n _ _ (by decide)]; exact hD.2.1
  rw [m_none_ok hD.2.1 hD.1.2 hs, Option.bind_some]
  dsimp only
  rw [if_pos rfl, m_none_ok h1 hD.1.2 ht, Option.bind_some]
  dsimp only
  rw [if_pos rfl]
  have hD2 := hD.keep (y' := wsc (wsc y 0 0) 0 0) (by rw [wsc_n _ _ (by decide), wsc_n _ _ (by decide)]) (fun _ _ => rfl)
  obtain ⟨z1, res, b1, b2, b3, b4, b5⟩ := m_tried hD2 hs ht
  rw [b1, Option.bind_some]
  dsimp only
  obtain ⟨z2, c1, c2, c3, c4⟩ := m_undone (z := z1) hD.1.2 (by rw [b2]; exact hD2.2.1) b4
  rw [c1, Option.bind_some]
  have e1 : ∀ k, k ≠ 0 → z2.1 k = y.1 k := fun k hk => by rw [c2, b2, wsc_n _ _ hk, wsc_n _ _ hk]
  have e2 : ∀ k, k ≠ 3 → k ≠ 4 → k ≠ 10 → z2.2 k = y.2 k := fun k q3 q4 q10 => by rw [c3 k q3, b3 k q3 q4 q10]; rfl
  have hMI : MI z2 n M := by
    refine ⟨K, L, R, o, r, d, hD.keep3 (e1 1 (by decide)) (fun k hk => e2 k (by omega) (by omega) (by omega)) c4, ?_⟩
    rw [e1 3 (by decide)]
    rcases hN with hN | ⟨h3, N, c, K', F', S', ls, hN⟩
    · exact Or.inl hN
    · exact Or.inr ⟨h3, N, c, K', F', S', ls, hN.keep (e1 2 (by decide)) (fun k q1 q2 => e2 k (by omega) (by omega) (by omega))⟩
  have e0 : z2.1 0 = 0 := by rw [c2, b2, wsc_s]
  rcases b5 with ⟨rfl, hno⟩ | ⟨rfl, o', r', d', hD3⟩
  · rw [if_neg (by decide)]
    exact ⟨z2, 0, rfl, e0, hMI, Or.inl ⟨rfl, hno⟩⟩
  · rw [if_neg (by decide)]
    exact ⟨z2, 1, rfl, e0, hMI, Or.inr ⟨rfl, hD3.2.2.2.2.2.2.2.2.2⟩⟩
theorem m_join_no {y : St} {n : Nat} {a b : Int32} {M : (Nat → Nat) → Prop} (h : MI y n M) (hab : noT n a ∨ noT n b) : ∃ z', f_M_join y a b = some (0, z') ∧ z'.1 0 = 1 ∧ MI z' n M := by
  unfold f_M_join
  exact m_two_no h hab (g := fun q1 q2 => ((f_M_tried q2.2 a b).bind fun q3 => (if (q3.1) = 0 then ((f_M_undone q3.2).bind fun q5 => (if ¬ ((q3.1) = 0 ∨ (q3.1) = 1) then none else some (q3.1, (wsc q5 3 ((0 : Int32)))))) else (if ¬ ((q3.1) = 0 ∨ (q3.1) = 1) then none else some (q3.1, (wsc q3.2 3 ((0 : Int32))))))))
theorem m_alike_no {y : St} {n : Nat} {a b : Int32} {M : (Nat → Nat) → Prop} (h : MI y n M) (hab : noT n a ∨ noT n b) : ∃ z', f_M_alike y a b = some (0, z') ∧ z'.1 0 = 1 ∧ MI z' n M := by
  unfold f_M_alike
  exact m_two_no h hab (g := fun q1 q2 => ((f_M_tried q2.2 a b).bind fun q3 => ((f_M_undone q3.2).bind fun q4 => (if ¬ ((q3.1) = 0 ∨ (q3.1) = 1) then none else some (q3.1, q4)))))
