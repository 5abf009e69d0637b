/-! The reference: frees, count. -/
theorem m_frees_l {n N : Nat} {M : (Nat → Nat) → Prop} {c K F S ls : Nat → Nat} {w : Nat} {v1 : Int32} (hn : n ≤ 600) (hwN : w < N) : ∀ (i k : Nat) (z : St) (A : Nat → Bool) (m : Nat), NU z n M N c K F S ls → i ≤ w + 1 → i < k → (∀ x, x < N → z.2 10 x = if A x = true then 1 else 0) → A w = true → (∀ j, A j = true → j ≤ w) → (∀ j, i ≤ j → j ≤ w → A j = true → 2 ≤ K j → A (F j) = true ∧ A (S j) = true) →
    (∀ Q : Nat → Prop, Q w → (∀ x, x < N → Q x → 2 ≤ K x → Q (F x) ∧ Q (S x)) → ∀ x, A x = true → Q x) → m + ct (fun j => A j && decide (K j = 0)) i = ct (fun j => A j && decide (K j = 0)) (w + 1) →
    ∃ z' A', f_M_frees_l54 k z (nI i - 1) (nI m) v1 = some (nI (ct (fun j => A' j && decide (K j = 0)) (w + 1)), z') ∧ rch (fun j => j < N) K F S w A' ∧ (∀ j, A' j = true → j ≤ w) ∧ on [10] z z' := by
  intro i
  induction i with
  | zero =>
    intro k z A m hU hi hk hA hw hle hcl hQ hm
    cases k with
    | zero => omega
    | succ k =>
      rw [f_M_frees_l54, if_pos (by decide)]
      refine ⟨z, A, ?_, ⟨hw, fun x hx h1 h2 => hcl x (Nat.zero_le _) (hle x h1) h1 h2, hQ⟩, hle, on.rf⟩
      rw [← hm]; rfl
  | succ i ih =>
    intro k z A m hU hi hk hA hw hle hcl hQ hm
    cases k with
    | zero => omega
    | succ k =>
      have hN := hU.1.2
      have hiN : i < N := by omega
      obtain ⟨r6, r7, -⟩ := hU.2.2.1 i hiN
      have k4 := (hU.2.2.2.1.2.2.1 i hiN).1
      rw [f_M_frees_l54, nI_pred, if_neg (nI_pos (by omega)), ix_f (by omega) (by decide), cl_ (by omega), hA i hiN, nI_dec]
      by_cases hAx : A i = true
      · rw [if_pos hAx, if_neg (show ¬ (1 : Int32) = 0 by decide)]
        simp only [ix_g (show i < 1000 by omega) (show 1000 < 2 ^ 31 by decide), r6, n0 (show K i < 2 ^ 31 by omega), le2 (show K i < 2 ^ 31 by omega)]
        by_cases k0 : K i = 0
        · rw [if_pos k0, if_neg (show ¬ 2 ≤ K i by omega), nI_1]
          refine ih k z A (m + 1) hU (by omega) (by omega) hA hw hle (fun j h1 h2 h3 h4 => ?_) hQ ?_
          · by_cases e1 : j = i
            · rw [e1] at h4; omega
            · exact hcl j (by omega) h2 h3 h4
          · rw [← hm]; simp only [ct]; simp [hAx, k0]; omega
        · rw [if_neg k0]
          by_cases k2 : 2 ≤ K i
          · rw [if_pos k2]
            obtain ⟨p1, p2⟩ := r7 k2
            obtain ⟨q3, q4, q5, q6⟩ := (hU.2.2.2.1.2.2.1 i hiN).2 k2
            dsimp only at q5 q6
            simp only [p1, p2, war_n _ _ (show (8 : Nat) ≠ 10 by decide), ix_f (show F i < 1000 by omega) (show 1000 < 2 ^ 31 by decide), ix_f (show S i < 1000 by omega) (show 1000 < 2 ^ 31 by decide), ix_g (show F i < 1000 by omega) (show 1000 < 2 ^ 31 by decide), ix_g (show S i < 1000 by omega) (show 1000 < 2 ^ 31 by decide), cl_ (show F i < 2 ^ 31 by omega), cl_ (show S i < 2 ^ 31 by omega)]
            have hne : ∀ j, i ≤ j → j ≠ F i ∧ j ≠ S i := fun j h1 => ⟨by omega, by omega⟩
            obtain ⟨z', A', d1, d2, d3, d4⟩ := ih k (war (war z 10 (F i) 1) 10 (S i) 1) (fun x => A x || decide (x = F i) || decide (x = S i)) m (hU.keep rfl (fun k h1 h2 => by rw [war_n _ _ (by omega), war_n _ _ (by omega)])) (by omega) (by omega) (fun x hx => by
              by_cases e2 : x = S i
              · rw [e2, war_s]; simp
              · rw [war_i _ _ e2]
                by_cases e1 : x = F i
                · rw [e1, war_s]; simp
                · rw [war_i _ _ e1, hA x hx]; simp [e1, e2]) (by simp [hw]) (fun j hj => by
              simp only [Bool.or_eq_true, decide_eq_true_eq] at hj
              rcases hj with (hj | hj) | hj
              · exact hle j hj
              · omega
              · omega) (fun j h1 h2 h3 h4 => by
              obtain ⟨n1, n2⟩ := hne j h1
              simp only [n1, n2, decide_false, Bool.or_false] at h3
              by_cases e1 : j = i
              · rw [e1]; simp
              · obtain ⟨r1, r2⟩ := hcl j (by omega) h2 h3 h4
                simp [r1, r2]) (fun Q hQ1 hQ2 x hx => by
              have base := hQ Q hQ1 hQ2
              obtain ⟨r1, r2⟩ := hQ2 _ hiN (base _ hAx) k2
              simp only [Bool.or_eq_true, decide_eq_true_eq] at hx
              rcases hx with (hx | hx) | hx
              · exact base x hx
              · rw [hx]; exact r1
              · rw [hx]; exact r2) (by
              have ht := ct_tail (p := fun j => A j && decide (K j = 0)) (p' := fun j => (A j || decide (j = F i) || decide (j = S i)) && decide (K j = 0)) (i := i) (w + 1) (by omega) (fun j h1 h2 => by
                obtain ⟨n1, n2⟩ := hne j h1
                simp [n1, n2])
              have e1 : ct (fun j => A j && decide (K j = 0)) (i + 1) = ct (fun j => A j && decide (K j = 0)) i := by simp only [ct]; simp [k0]
              rw [e1] at hm
              omega)
            exact ⟨z', A', d1, d2, d3, ((on.war (by simp)).tr (on.war (by simp))).tr d4⟩
          · rw [if_neg k2]
            refine ih k z A m hU (by omega) (by omega) hA hw hle (fun j h1 h2 h3 h4 => ?_) hQ ?_
            · by_cases e1 : j = i
              · rw [e1] at h4; omega
              · exact hcl j (by omega) h2 h3 h4
            · rw [← hm]; simp only [ct]; simp [k0]
      · rw [if_neg hAx, if_pos rfl]
        refine ih k z A m hU (by omega) (by omega) hA hw hle (fun j h1 h2 h3 h4 => ?_) hQ ?_
        · by_cases e1 : j = i
          · rw [e1] at h3; exact absurd h3 hAx
          · exact hcl j (by omega) h2 h3 h4
        · rw [← hm]; simp only [ct]; simp [hAx]
theorem m_frees_l12 {n N t : Nat} {M : (Nat → Nat) → Prop} {c K F S ls : Nat → Nat} (hn : n ≤ 600) (ht : t < n) : ∀ (k i : Nat) (z : St), NU z n M N c K F S ls → i ≤ N → N - i < k → (∀ x, x < i → z.2 10 x = 0) →
    ∃ z', f_M_frees_l12 k z (nI i) (nI t) = f_M_frees_l54 FU (war z' 10 (c t) 1) (nI (c t)) 0 (nI t) ∧ NU z' n M N c K F S ls ∧ (∀ x, x < N → z'.2 10 x = 0) ∧ on [10] z z' := by
  intro k
  induction k with
  | zero => intro i z _ _ h; omega
  | succ k ih =>
    intro i z hU hi hk h
    have ct := hU.cn ht
    have hN := hU.1.2
    rw [f_M_frees_l12, hU.1.1]
    by_cases q : i = N
    · subst q
      rw [if_pos (Int32.le_refl _), ix_f (by omega) (by decide), cl_ (by omega), hU.2.1 t ht, ix_f (by omega) (by decide), ix_g (by omega) (by decide), cl_ (by omega), war_n _ _ (by decide), hU.2.1 t ht]
      exact ⟨z, rfl, hU, h, on.rf⟩
    · rw [if_neg (nI_ge (by omega) (by omega)), ix_f (by omega) (by decide), cl_ (by omega), nI_1]
      obtain ⟨z', a1, a2, a3, a4⟩ := ih (i + 1) (war z 10 i 0) (hU.keep rfl (fun k h1 h2 => war_n _ _ (by omega))) (by omega) (by omega) (fun x hx => by
        by_cases e : x = i
        · rw [e, war_s]
        · rw [war_i _ _ e]; exact h x (by omega))
      exact ⟨z', a1, a2, a3, (on.war (by simp)).tr a4⟩
theorem m_frees {y : St} {n t : Nat} {M : (Nat → Nat) → Prop} (h : MI y n M) (ht : t < n) : ∃ z' N c K' F' S' ls A, f_M_frees y (nI t) = some (nI (ct (fun j => A j && decide (K' j = 0)) N), z') ∧ z'.1 0 = 0 ∧ MI z' n M ∧ NU z' n M N c K' F' S' ls ∧ rch (fun j => j < N) K' F' S' (c t) A := by
  obtain ⟨z1, N, c, K', F', S', ls, e1, e2, e3, e4⟩ := m_unknown h ht
  obtain ⟨h1, h2, h6⟩ := e2.types
  have cn := e3.cn ht
  have hN := e3.1.2
  unfold f_M_frees
  rw [e1, Option.bind_some]
  dsimp only
  rw [if_pos rfl, i0]
  obtain ⟨z2, a1, a2, a3, a4⟩ := m_frees_l12 h6 ht FU 0 z1 e3 (Nat.zero_le _) (by unfold FU; omega) (fun j hj => by omega)
  rw [a1, i0]
  obtain ⟨z3, A, b1, b2, b3, b4⟩ := m_frees_l (w := c t) (v1 := nI t) h6 cn (c t + 1) FU (war z2 10 (c t) 1) (fun x => decide (x = c t)) 0 (a2.keep rfl (fun k h1 h2 => war_n _ _ (by omega))) (Nat.le_refl _) (by unfold FU; omega) (fun x hx => by
    by_cases e : x = c t
    · rw [e, war_s]; simp
    · rw [war_i _ _ e, a3 x hx]; simp [e]) (by simp) (fun j hj => by simp only [decide_eq_true_eq] at hj; omega) (fun j h1 h2 => by omega) (fun Q hQ _ x hx => by rw [of_decide_eq_true hx]; exact hQ) (by omega)
  rw [nI_pred] at b1
  rw [b1]
  have hon : on [10] z1 z3 := (a4.tr (on.war (by simp))).tr b4
  have hct : ct (fun j => A j && decide (K' j = 0)) (c t + 1) = ct (fun j => A j && decide (K' j = 0)) N := by
    have ht := ct_tail (p := fun j => A j && decide (K' j = 0)) (p' := fun _ => false) (i := c t + 1) N (by omega) (fun j h1 h2 => by
      have : A j = false := by
        cases q : A j with
        | false => rfl
        | true => have := b3 j q; omega
      simp [this])
    have h0 : ∀ m, ct (fun _ => false) m = 0 := fun m => by
      induction m with
      | zero => rfl
      | succ m ih => simp only [ct, ih]; rfl
    rw [h0, h0] at ht
    omega
  rw [hct]
  exact ⟨z3, N, c, K', F', S', ls, A, rfl, by rw [hon.1]; exact e4, e2.keepX (fun k _ => by rw [hon.1]) (fun k hk => hon.2 k (by simp; omega)), e3.keep (by rw [hon.1]) (fun k h1 h2 => hon.2 k (by simp; omega)), b2⟩
theorem m_count_l {n N : Nat} {M : (Nat → Nat) → Prop} {c K F S ls : Nat → Nat} {z : St} {a : Int32} (hn : n ≤ 600) (h1 : z.1 1 = nI n) (hU : NU z n M N c K F S ls) : ∀ (k i : Nat), i ≤ N → N - i < k → f_M_count_l13 k z (nI i) (nI (ct (fun j => decide (K j = 0)) i)) a = some (if a = 0 then nI n else if a = 1 then nI N else if a = 2 then nI (ct (fun j => decide (K j = 0)) N) else -1, z) := by
  have hN := hU.1.2
  intro k
  induction k with
  | zero => intro i _ h; omega
  | succ k ih =>
    intro i hi hk
    rw [f_M_count_l13, hU.1.1]
    by_cases q : i = N
    · subst q
      rw [if_pos (Int32.le_refl _), h1]
      split
      · rfl
      · split
        · rfl
        · split <;> rfl
    · have hiN : i < N := by omega
      obtain ⟨r6, -⟩ := hU.2.2.1 i hiN
      have k4 := (hU.2.2.2.1.2.2.1 i hiN).1
      rw [if_neg (nI_ge (by omega) (by omega)), ix_f (by omega) (by decide), cl_ (by omega), r6]
      simp only [n0 (show K i < 2 ^ 31 by omega)]
      have := ih (i + 1) (by omega) (by omega)
      simp only [ct] at this
      by_cases k0 : K i = 0
      · rw [if_pos k0, nI_1, nI_1]
        simp only [k0, decide_true, if_true] at this
        exact this
      · rw [if_neg k0, nI_1]
        simp only [k0, decide_false] at this
        exact this
theorem m_count {y : St} {n : Nat} {a : Int32} {M : (Nat → Nat) → Prop} (h : MI y n M) : ∃ z' N c K' F' S' ls, f_M_count y a = some (if a = 0 then nI n else if a = 1 then nI N else if a = 2 then nI (ct (fun j => decide (K' j = 0)) N) else -1, z') ∧ MI z' n M ∧ NU z' n M N c K' F' S' ls := by
  have h' : MI (wsc y 0 0) n M := h.keep (fun k hk => wsc_n _ _ hk) (fun _ _ _ => rfl)
  obtain ⟨K, L, R, o, r, d, hD, hN⟩ := h'
  obtain ⟨z', N, c, K', F', S', ls, a1, a2, a3, a4, a5⟩ := m_numberX hD hN
  unfold f_M_count
  rw [a1, Option.bind_some]
  have := m_count_l (a := a) a2.1.2 a2.2.1 a4 FU 0 (Nat.zero_le _) (by have := a4.1.2; have := a2.1.2; unfold FU; omega)
  rw [show ct (fun j => decide (K' j = 0)) 0 = 0 from rfl, nI_0] at this
  rw [this]
  exact ⟨z', N, c, K', F', S', ls, rfl, ⟨K, L, R, o, r, d, a2, Or.inr ⟨a3, N, c, K', F', S', ls, a4⟩⟩, a4⟩
