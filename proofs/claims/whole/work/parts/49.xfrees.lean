/-! TypeBench: frees, count. -/
def rch (P : Nat → Prop) (K F S : Nat → Nat) (a : Nat) (A : Nat → Bool) : Prop :=
  A a = true ∧ (∀ x, P x → A x = true → 2 ≤ K x → A (F x) = true ∧ A (S x) = true) ∧ ∀ Q : Nat → Prop, Q a → (∀ x, P x → Q x → 2 ≤ K x → Q (F x) ∧ Q (S x)) → ∀ x, A x = true → Q x
theorem ct_tail {p p' : Nat → Bool} {i : Nat} : ∀ m, i ≤ m → (∀ j, i ≤ j → j < m → p j = p' j) → ct p m + ct p' i = ct p' m + ct p i := by
  intro m
  induction m with
  | zero => intro hi _; rw [show i = 0 by omega]; rfl
  | succ m ih =>
    intro hi h
    by_cases e : i = m + 1
    · rw [e]; omega
    · have := ih (by omega) (fun j h1 h2 => h j h1 (by omega))
      simp only [ct]
      rw [h m (by omega) (by omega)]
      omega
theorem s_markParts {z : St} {n x : Nat} {P : Nat → Prop} {K F S : Nat → Nat} (hn : n ≤ 1000) (hs : shp z P K F S) (hx : P x) (hxn : x < n) (h4 : K x < 4) (hp : 2 ≤ K x → F x < n ∧ S x < n) : f_X_markParts z (nI x) = some (if 2 ≤ K x then war (war z 4 (F x) 2) 4 (S x) 2 else z) := by
  obtain ⟨s1, s2⟩ := hs x hx
  unfold f_X_markParts
  rw [s_hasParts (by omega) s1 h4, Option.bind_some]
  by_cases q : 2 ≤ K x
  · obtain ⟨p1, p2⟩ := hp q
    obtain ⟨p3, p4⟩ := s2 q
    dsimp only
    rw [if_pos q, if_neg (show ¬ (1 : Int32) = 0 by decide), if_pos q]
    simp only [ix_g (show x < 1000 by omega) (show 1000 < 2 ^ 31 by decide), cl_ (show x < 2 ^ 31 by omega), p3, p4, ix_g (show F x < 1000 by omega) (show 1000 < 2 ^ 31 by decide), ix_g (show S x < 1000 by omega) (show 1000 < 2 ^ 31 by decide), cl_ (show F x < 2 ^ 31 by omega), cl_ (show S x < 2 ^ 31 by omega), war_n _ _ (show (8 : Nat) ≠ 4 by decide)]
  · dsimp only
    rw [if_neg q, if_pos rfl, if_neg q]
theorem s_frees_l {n m e : Nat} {M : (Nat → Nat) → Prop} {ld ls od K F S ps : Nat → Nat} {w : Nat} {v2 v1 : Int32} : ∀ (i k : Nat) (z : St) (A : Nat → Bool) (c : Nat), XD z n M m ld ls od K F S ps e → i ≤ m → i < k → (∀ x, x < n → z.2 4 x = if A x = true then 2 else 0) → A w = true → (∀ j, i ≤ j → j < m → A (od j) = true → 2 ≤ K (od j) → A (F (od j)) = true ∧ A (S (od j)) = true) →
    (∀ Q : Nat → Prop, Q w → (∀ x, LD n ld x → Q x → 2 ≤ K x → Q (F x) ∧ Q (S x)) → ∀ x, A x = true → Q x) → c + ct (fun j => A (od j) && decide (K (od j) = 0)) i = ct (fun j => A (od j) && decide (K (od j) = 0)) m →
    ∃ z' A', f_X_frees_l36 k z (nI i - 1) (nI c) v2 v1 = some ((0, nI (ct (fun j => A' (od j) && decide (K (od j) = 0)) m)), z') ∧ rch (LD n ld) K F S w A' ∧ XD z' n M m ld ls od K F S ps e := by
  intro i
  induction i with
  | zero =>
    intro k z A c hD hi hk hA hw hcl hQ hc
    cases k with
    | zero => omega
    | succ k =>
      rw [f_X_frees_l36, if_pos (by decide)]
      refine ⟨z, A, ?_, ⟨hw, fun x hx h1 h2 => ?_, hQ⟩, hD⟩
      · rw [← hc]; rfl
      · obtain ⟨-, -, -, -, -, -, c5, c6, -⟩ := hD
        obtain ⟨p1, p2⟩ := c6 x hx
        have := hcl (ps x) (Nat.zero_le _) p1
        rw [p2] at this
        exact this h1 h2
  | succ i ih =>
    intro k z A c hD hi hk hA hw hcl hQ hc
    cases k with
    | zero => omega
    | succ k =>
      obtain ⟨⟨a1, a2, a3, a4⟩, ⟨b1, b2⟩, c1, c2, c3, c4, c5, c6, c7, c8, c9, c10⟩ := id hD
      obtain ⟨q1, q2, q3⟩ := c5 i (by omega)
      have q2n := q2.1
      have hK4 := (c8.2.2.1 _ q2).1
      rw [f_X_frees_l36, nI_pred, if_neg (nI_pos (by omega)), ix_f (by omega) (by decide), cl_ (by omega), q1, ix_f (by omega) (by decide), cl_ (by omega), hA _ q2n, ix_g (by omega) (by decide), (c3 _ q2).1, nI_dec]
      by_cases hAx : A (od i) = true
      · rw [if_pos hAx, if_pos rfl]
        have hmp := s_markParts (n := n) (by omega) c3 q2 q2n hK4 (fun p => ⟨((c8.2.2.1 _ q2).2 p).1.1, ((c8.2.2.1 _ q2).2 p).2.1.1⟩)
        simp only [hmp, Option.bind_some, n0 (show K (od i) < 2 ^ 31 by omega)]
        by_cases k0 : K (od i) = 0
        · rw [if_pos k0, if_neg (by omega), nI_1]
          refine ih k z A (c + 1) hD (by omega) (by omega) hA hw (fun j h1 h2 h3 h4 => ?_) hQ ?_
          · by_cases e1 : j = i
            · rw [e1] at h4; omega
            · exact hcl j (by omega) h2 h3 h4
          · rw [← hc]; simp only [ct]; simp [hAx, k0]; omega
        · rw [if_neg k0, i0, nI_add, Nat.add_zero]
          by_cases k2 : 2 ≤ K (od i)
          · rw [if_pos k2]
            obtain ⟨p1, p2, p3, p4⟩ := (c8.2.2.1 _ q2).2 k2
            have hFn := p1.1
            have hSn := p2.1
            obtain ⟨u1, u2⟩ := c6 _ p1
            obtain ⟨u3, u4⟩ := c6 _ p2
            have hne : ∀ j, i ≤ j → j < m → od j ≠ F (od i) ∧ od j ≠ S (od i) := fun j h1 h2 => by
              have := (c5 j h2).2.2
              constructor
              · intro p; rw [p] at this; omega
              · intro p; rw [p] at this; omega
            refine ih k _ (fun x => A x || decide (x = F (od i)) || decide (x = S (od i))) c (hD.keep rfl rfl (fun k hk => by rw [war_n _ _ (by omega), war_n _ _ (by omega)])) (by omega) (by omega) (fun x hx => ?_) (by simp [hw]) (fun j h1 h2 h3 h4 => ?_) (fun Q hQ1 hQ2 x hx => ?_) ?_
            · by_cases e2 : x = S (od i)
              · rw [e2, war_s]; simp
              · rw [war_i _ _ e2]
                by_cases e1 : x = F (od i)
                · rw [e1, war_s]; simp
                · rw [war_i _ _ e1, hA x hx]; simp [e1, e2]
            · obtain ⟨n1, n2⟩ := hne j h1 h2
              simp only [n1, n2, decide_false, Bool.or_false] at h3
              by_cases e1 : j = i
              · rw [e1]; simp
              · obtain ⟨r1, r2⟩ := hcl j (by omega) h2 h3 h4
                simp [r1, r2]
            · have base := hQ Q hQ1 hQ2
              obtain ⟨r1, r2⟩ := hQ2 _ q2 (base _ hAx) k2
              simp only [Bool.or_eq_true, decide_eq_true_eq] at hx
              rcases hx with (hx | hx) | hx
              · exact base x hx
              · rw [hx]; exact r1
              · rw [hx]; exact r2
            · have ht := ct_tail (p := fun j => A (od j) && decide (K (od j) = 0)) (p' := fun j => (A (od j) || decide (od j = F (od i)) || decide (od j = S (od i))) && decide (K (od j) = 0)) (i := i) m (by omega) (fun j h1 h2 => by
                obtain ⟨n1, n2⟩ := hne j h1 h2
                simp [n1, n2])
              have e1 : ct (fun j => A (od j) && decide (K (od j) = 0)) (i + 1) = ct (fun j => A (od j) && decide (K (od j) = 0)) i := by simp only [ct]; simp [k0]
              rw [e1] at hc
              omega
          · rw [if_neg k2]
            refine ih k z A c hD (by omega) (by omega) hA hw (fun j h1 h2 h3 h4 => ?_) hQ ?_
            · by_cases e1 : j = i
              · rw [e1] at h4; omega
              · exact hcl j (by omega) h2 h3 h4
            · rw [← hc]; simp only [ct]; simp [k0]
      · rw [if_neg hAx, if_neg (by decide)]
        refine ih k z A c hD (by omega) (by omega) hA hw (fun j h1 h2 h3 h4 => ?_) hQ ?_
        · by_cases e1 : j = i
          · rw [e1] at h3; exact absurd h3 hAx
          · exact hcl j (by omega) h2 h3 h4
        · rw [← hc]; simp only [ct]; simp [hAx]
theorem s_frees {z : St} {n m e t : Nat} {M : (Nat → Nat) → Prop} {ld ls od K F S ps : Nat → Nat} (hD : XD z n M m ld ls od K F S ps e) (ht : t < n) : ∃ z' A, f_X_frees z (nI t) = some ((0, nI (ct (fun j => A (od j) && decide (K (od j) = 0)) m)), z') ∧ rch (LD n ld) K F S (ld t) A ∧ XD z' n M m ld ls od K F S ps e := by
  obtain ⟨⟨a1, a2, a3, a4⟩, ⟨b1, b2⟩, c1, c2, c3, c4, c5, c6, c7, c8, c9, c10⟩ := id hD
  have hlt := (c2 t ht).1
  unfold f_X_frees
  rw [s_leader_ok b1 c1 a2 ht, Option.bind_some]
  dsimp only
  obtain ⟨g, g1, g2, -⟩ := s_fill4 (N := 1000) (n := n) (z.2 4) 0 (by decide) (by omega)
  rw [if_pos rfl, b1, g1, Option.bind_some, ix_f (by omega) (by decide), cl_ (by omega), war_1, wal_1, b2, i0]
  refine s_frees_l m FU _ (fun x => decide (x = ld t)) 0 (hD.keep rfl rfl (fun k hk => by rw [war_n _ _ (by omega), wal_n _ _ (by omega)])) (Nat.le_refl _) (by unfold FU; omega) (fun x hx => ?_) (by simp) (fun j h1 h2 => by omega) (fun Q hQ _ x hx => ?_) (by omega)
  · by_cases e1 : x = ld t
    · rw [e1, war_s]; simp
    · rw [war_i _ _ e1, wal_s, g2 x hx]; simp [e1]
  · rw [of_decide_eq_true hx]; exact hQ
theorem s_countFree {n m e : Nat} {M : (Nat → Nat) → Prop} {ld ls od K F S ps : Nat → Nat} {z : St} (hD : XD z n M m ld ls od K F S ps e) : ∀ (k i : Nat), i ≤ m → m - i < k → f_X_countFreeLeaders_l4 k z (nI i) (nI (ct (fun j => decide (K (od j) = 0)) i)) = some (nI (ct (fun j => decide (K (od j) = 0)) m), z) := by
  obtain ⟨⟨a1, a2, a3, a4⟩, ⟨b1, b2⟩, c1, c2, c3, c4, c5, c6, c7, c8, c9, c10⟩ := id hD
  intro k
  induction k with
  | zero => intro i _ h; omega
  | succ k ih =>
    intro i hi hk
    rw [f_X_countFreeLeaders_l4, b2]
    by_cases q : i = m
    · subst q; rw [if_pos (Int32.le_refl _)]
    · obtain ⟨q1, q2, q3⟩ := c5 i (by omega)
      have q2n := q2.1
      have hK4 := (c8.2.2.1 _ q2).1
      rw [if_neg (nI_ge (by omega) (by omega)), ix_f (by omega) (by decide), cl_ (by omega), q1, ix_f (by omega) (by decide), cl_ (by omega), (c3 _ q2).1]
      simp only [n0 (show K (od i) < 2 ^ 31 by omega)]
      have := ih (i + 1) (by omega) (by omega)
      simp only [ct] at this
      by_cases k0 : K (od i) = 0
      · rw [if_pos k0, nI_1, nI_1]
        simp only [k0, decide_true, if_true] at this
        exact this
      · rw [if_neg k0, nI_1, i0, nI_add]
        simp only [k0, decide_false] at this
        exact this
theorem s_count {z : St} {n m e : Nat} {a : Int32} {M : (Nat → Nat) → Prop} {ld ls od K F S ps : Nat → Nat} (hD : XD z n M m ld ls od K F S ps e) : f_X_count z a = some (if a = 0 then nI n else if a = 1 then nI m else if a = 2 then nI (ct (fun j => decide (K (od j) = 0)) m) else -1, z) := by
  have hD' := hD
  obtain ⟨⟨a1, a2, a3, a4⟩, ⟨b1, b2⟩, -⟩ := hD'
  unfold f_X_count
  split
  · rw [b1]
  · split
    · rw [b2]
    · split
      · unfold f_X_countFreeLeaders
        have := s_countFree hD FU 0 (Nat.zero_le _) (by unfold FU; omega)
        rw [show ct (fun j => decide (K (od j) = 0)) 0 = 0 from rfl, nI_0] at this
        rw [this, Option.bind_some]
      · rfl
