/-! What is measured by parts: sizes and values, of the class. -/
def fR (g : Nat → Int32 → Int32 → Int32) (P : Nat → Prop) (K F S : Nat → Nat) (f : Nat → Int32) : Prop := ∀ x, P x → f x = g (K x) (f (F x)) (f (S x))
def fM (g : Nat → Int32 → Int32 → Int32) (K F S : Nat → Nat) : Nat → Nat → Int32
  | 0, _ => 0
  | m + 1, x => g (K x) (fM g K F S m (F x)) (fM g K F S m (S x))
def g_low (g : Nat → Int32 → Int32 → Int32) : Prop := ∀ k a b a' b', k < 2 → g k a b = g k a' b'
theorem fM_eq {g : Nat → Int32 → Int32 → Int32} (hg : g_low g) {P : Nat → Prop} {K F S k : Nat → Nat} (h : cf_rk P K F S k) : ∀ (m m' x : Nat), P x → k x < m → k x < m' → fM g K F S m x = fM g K F S m' x := by
  intro m
  induction m with
  | zero => intro m' x _ h0; omega
  | succ m ih =>
    intro m' x hx h1 h2
    cases m' with
    | zero => omega
    | succ m' =>
      simp only [fM]
      by_cases e : K x < 2
      · exact hg _ _ _ _ _ e
      · obtain ⟨p1, p2, p3, p4⟩ := h x hx (by omega)
        rw [ih m' (F x) p1 (by omega) (by omega), ih m' (S x) p2 (by omega) (by omega)]
theorem fR_ex {g : Nat → Int32 → Int32 → Int32} (hg : g_low g) {P : Nat → Prop} {K F S k : Nat → Nat} (h : cf_rk P K F S k) : ∃ f, fR g P K F S f := by
  refine ⟨fun x => fM g K F S (k x + 1) x, fun x hx => ?_⟩
  show fM g K F S (k x + 1) x = _
  simp only [fM]
  by_cases e : K x < 2
  · exact hg _ _ _ _ _ e
  · obtain ⟨p1, p2, p3, p4⟩ := h x hx (by omega)
    rw [fM_eq hg h (k x) (k (F x) + 1) (F x) p1 p3 (by omega), fM_eq hg h (k x) (k (S x) + 1) (S x) p2 p4 (by omega)]
    simp only [fM]
def gS (k : Nat) (a b : Int32) : Int32 := if k < 2 then 0 else if k = 2 then (if (1000000 : Int32) < 1 + (if a < b then b else a) then 1000000 else 1 + (if a < b then b else a)) else (if (1000000 : Int32) < a + b then 1000000 else a + b)
def gV (k : Nat) (a b : Int32) : Int32 := if k < 2 then 1 else if k = 2 then (if (1073741824 : Int64) < a.toInt64 + b.toInt64 then 1073741824 else a.toInt64 + b.toInt64).toInt32 else (if (1073741824 : Int64) < a.toInt64 * b.toInt64 then 1073741824 else a.toInt64 * b.toInt64).toInt32
theorem gS_low : g_low gS := fun k a b a' b' h => by unfold gS; rw [if_pos h, if_pos h]
theorem gV_low : g_low gV := fun k a b a' b' h => by unfold gV; rw [if_pos h, if_pos h]
theorem s_sizeByParts {z : St} {n x : Nat} {P : Nat → Prop} {K F S : Nat → Nat} (hn : n ≤ 1000) (hs : shp z P K F S) (hx : P x) (hxn : x < n) (h4 : K x < 4) (hp : 2 ≤ K x → F x < n ∧ S x < n) : f_X_sizeByParts z (nI x) = some (gS (K x) (z.2 4 (F x)) (z.2 4 (S x)), z) := by
  obtain ⟨s1, s2⟩ := hs x hx
  unfold f_X_sizeByParts
  rw [s_hasParts (by omega) s1 h4, Option.bind_some]
  unfold gS
  by_cases q : 2 ≤ K x
  · obtain ⟨p1, p2⟩ := hp q
    obtain ⟨p3, p4⟩ := s2 q
    dsimp only
    rw [if_pos q, if_neg (show ¬ (1 : Int32) = 0 by decide), if_neg (show ¬ K x < 2 by omega)]
    simp only [ix_g (show x < 1000 by omega) (show 1000 < 2 ^ 31 by decide), cl_ (show x < 2 ^ 31 by omega), p3, p4, ix_g (show F x < 1000 by omega) (show 1000 < 2 ^ 31 by decide), ix_g (show S x < 1000 by omega) (show 1000 < 2 ^ 31 by decide), cl_ (show F x < 2 ^ 31 by omega), cl_ (show S x < 2 ^ 31 by omega), s1, n2 (show K x < 2 ^ 31 by omega)]
    by_cases q2 : K x = 2
    · rw [if_pos q2, if_pos q2]
    · rw [if_neg q2, if_neg q2]
  · dsimp only
    rw [if_neg q, if_pos rfl, if_pos (show K x < 2 by omega)]
theorem s_valuesByParts {z : St} {n x : Nat} {P : Nat → Prop} {K F S : Nat → Nat} (hn : n ≤ 1000) (hs : shp z P K F S) (hx : P x) (hxn : x < n) (h4 : K x < 4) (hp : 2 ≤ K x → F x < n ∧ S x < n) : f_X_valuesByParts z (nI x) = some (gV (K x) (z.2 4 (F x)) (z.2 4 (S x)), z) := by
  obtain ⟨s1, s2⟩ := hs x hx
  unfold f_X_valuesByParts
  rw [s_hasParts (by omega) s1 h4, Option.bind_some]
  unfold gV
  by_cases q : 2 ≤ K x
  · obtain ⟨p1, p2⟩ := hp q
    obtain ⟨p3, p4⟩ := s2 q
    dsimp only
    rw [if_pos q, if_neg (show ¬ (1 : Int32) = 0 by decide), if_neg (show ¬ K x < 2 by omega)]
    simp only [ix_g (show x < 1000 by omega) (show 1000 < 2 ^ 31 by decide), cl_ (show x < 2 ^ 31 by omega), p3, p4, ix_g (show F x < 1000 by omega) (show 1000 < 2 ^ 31 by decide), ix_g (show S x < 1000 by omega) (show 1000 < 2 ^ 31 by decide), cl_ (show F x < 2 ^ 31 by omega), cl_ (show S x < 2 ^ 31 by omega), s1, n2 (show K x < 2 ^ 31 by omega)]
    by_cases q2 : K x = 2
    · rw [if_pos q2, if_pos q2]
    · rw [if_neg q2, if_neg q2]
  · dsimp only
    rw [if_neg q, if_pos rfl, if_pos (show K x < 2 by omega)]
theorem s_size_l {z0 : St} {n m e : Nat} {M : (Nat → Nat) → Prop} {ld ls od K F S ps : Nat → Nat} {f : Nat → Int32} (hf : fR gS (LD n ld) K F S f) {w : Nat} {v1 : Int32} (hw : LD n ld w) : ∀ (k i : Nat) (z : St), XD z n M m ld ls od K F S ps e → i ≤ m → m - i < k → (∀ j, j < i → z.2 4 (od j) = f (od j)) →
    ∃ z', f_X_size_l8 k z (nI i) (nI w) v1 = some ((0, f w), z') ∧ XD z' n M m ld ls od K F S ps e := by
  intro k
  induction k with
  | zero => intro i z _ _ h; omega
  | succ k ih =>
    intro i z hD hi hk h
    obtain ⟨⟨a1, a2, a3, a4⟩, ⟨b1, b2⟩, c1, c2, c3, c4, c5, c6, c7, c8, c9, c10⟩ := id hD
    rw [f_X_size_l8, b2]
    have hwn := hw.1
    by_cases q : i = m
    · subst q
      rw [if_pos (Int32.le_refl _), ix_f (by omega) (by decide), cl_ (by omega)]
      obtain ⟨p1, p2⟩ := c6 w hw
      have := h _ p1
      rw [p2] at this
      rw [this]
      exact ⟨z, rfl, hD⟩
    · obtain ⟨q1, q2, q3⟩ := c5 i (by omega)
      have q2n := q2.1
      rw [if_neg (nI_ge (by omega) (by omega)), ix_f (by omega) (by decide), ix_f (by omega) (by decide), cl_ (by omega), q1, s_sizeByParts (n := n) (by omega) c3 q2 q2n (c8.2.2.1 _ q2).1 (fun p => ⟨((c8.2.2.1 _ q2).2 p).1.1, ((c8.2.2.1 _ q2).2 p).2.1.1⟩), Option.bind_some, ix_f (by omega) (by decide), cl_ (by omega), nI_1]
      refine ih (i + 1) _ (hD.keep rfl rfl (fun k hk => war_n _ _ (by omega))) (by omega) (by omega) (fun j hj => ?_)
      by_cases qj : j = i
      · rw [qj, war_s, hf _ q2]
        by_cases qk : K (od i) < 2
        · exact gS_low _ _ _ _ _ qk
        · obtain ⟨p1, p2, p3, p4⟩ := (c8.2.2.1 _ q2).2 (by omega)
          obtain ⟨r1, r2⟩ := c6 _ p1
          obtain ⟨r3, r4⟩ := c6 _ p2
          have e1 := h _ (show ps (F (od i)) < i by omega)
          have e2 := h _ (show ps (S (od i)) < i by omega)
          rw [r2] at e1
          rw [r4] at e2
          rw [e1, e2]
      · have hne : od j ≠ od i := fun p => by
          have := (c5 j (by omega)).2.2
          rw [p, q3] at this
          omega
        rw [war_i _ _ hne]; exact h j (by omega)
theorem s_size {z : St} {n m e t : Nat} {M : (Nat → Nat) → Prop} {ld ls od K F S ps : Nat → Nat} (hD : XD z n M m ld ls od K F S ps e) (ht : t < n) : ∃ z' f, f_X_size z (nI t) = some ((0, f (ld t)), z') ∧ fR gS (LD n ld) K F S f ∧ XD z' n M m ld ls od K F S ps e := by
  obtain ⟨⟨a1, a2, a3, a4⟩, ⟨b1, b2⟩, c1, c2, c3, c4, c5, c6, c7, c8, c9, c10⟩ := id hD
  obtain ⟨f, hf⟩ := fR_ex gS_low c8.rk
  unfold f_X_size
  rw [s_leader_ok b1 c1 a2 ht, Option.bind_some]
  dsimp only
  rw [if_pos rfl]
  obtain ⟨z', h1, h2⟩ := s_size_l (z0 := z) (v1 := nI t) hf (c8.1 t ht) FU 0 z hD (Nat.zero_le _) (by unfold FU; omega) (fun j hj => by omega)
  rw [nI_0] at h1
  exact ⟨z', f, h1, hf, h2⟩
theorem s_values_l {z0 : St} {n m e : Nat} {M : (Nat → Nat) → Prop} {ld ls od K F S ps : Nat → Nat} {f : Nat → Int32} (hf : fR gV (LD n ld) K F S f) {w : Nat} {v1 : Int32} (hw : LD n ld w) : ∀ (k i : Nat) (z : St), XD z n M m ld ls od K F S ps e → i ≤ m → m - i < k → (∀ j, j < i → z.2 4 (od j) = f (od j)) →
    ∃ z', f_X_values_l8 k z (nI i) (nI w) v1 = some ((0, f w), z') ∧ XD z' n M m ld ls od K F S ps e := by
  intro k
  induction k with
  | zero => intro i z _ _ h; omega
  | succ k ih =>
    intro i z hD hi hk h
    obtain ⟨⟨a1, a2, a3, a4⟩, ⟨b1, b2⟩, c1, c2, c3, c4, c5, c6, c7, c8, c9, c10⟩ := id hD
    rw [f_X_values_l8, b2]
    have hwn := hw.1
    by_cases q : i = m
    · subst q
      rw [if_pos (Int32.le_refl _), ix_f (by omega) (by decide), cl_ (by omega)]
      obtain ⟨p1, p2⟩ := c6 w hw
      have := h _ p1
      rw [p2] at this
      rw [this]
      exact ⟨z, rfl, hD⟩
    · obtain ⟨q1, q2, q3⟩ := c5 i (by omega)
      have q2n := q2.1
      rw [if_neg (nI_ge (by omega) (by omega)), ix_f (by omega) (by decide), ix_f (by omega) (by decide), cl_ (by omega), q1, s_valuesByParts (n := n) (by omega) c3 q2 q2n (c8.2.2.1 _ q2).1 (fun p => ⟨((c8.2.2.1 _ q2).2 p).1.1, ((c8.2.2.1 _ q2).2 p).2.1.1⟩), Option.bind_some, ix_f (by omega) (by decide), cl_ (by omega), nI_1]
      refine ih (i + 1) _ (hD.keep rfl rfl (fun k hk => war_n _ _ (by omega))) (by omega) (by omega) (fun j hj => ?_)
      by_cases qj : j = i
      · rw [qj, war_s, hf _ q2]
        by_cases qk : K (od i) < 2
        · exact gV_low _ _ _ _ _ qk
        · obtain ⟨p1, p2, p3, p4⟩ := (c8.2.2.1 _ q2).2 (by omega)
          obtain ⟨r1, r2⟩ := c6 _ p1
          obtain ⟨r3, r4⟩ := c6 _ p2
          have e1 := h _ (show ps (F (od i)) < i by omega)
          have e2 := h _ (show ps (S (od i)) < i by omega)
          rw [r2] at e1
          rw [r4] at e2
          rw [e1, e2]
      · have hne : od j ≠ od i := fun p => by
          have := (c5 j (by omega)).2.2
          rw [p, q3] at this
          omega
        rw [war_i _ _ hne]; exact h j (by omega)
theorem s_values {z : St} {n m e t : Nat} {M : (Nat → Nat) → Prop} {ld ls od K F S ps : Nat → Nat} (hD : XD z n M m ld ls od K F S ps e) (ht : t < n) : ∃ z' f, f_X_values z (nI t) = some ((0, f (ld t)), z') ∧ fR gV (LD n ld) K F S f ∧ XD z' n M m ld ls od K F S ps e := by
  obtain ⟨⟨a1, a2, a3, a4⟩, ⟨b1, b2⟩, c1, c2, c3, c4, c5, c6, c7, c8, c9, c10⟩ := id hD
  obtain ⟨f, hf⟩ := fR_ex gV_low c8.rk
  unfold f_X_values
  rw [s_leader_ok b1 c1 a2 ht, Option.bind_some]
  dsimp only
  rw [if_pos rfl]
  obtain ⟨z', h1, h2⟩ := s_values_l (z0 := z) (v1 := nI t) hf (c8.1 t ht) FU 0 z hD (Nat.zero_le _) (by unfold FU; omega) (fun j hj => by omega)
  rw [nI_0] at h1
  exact ⟨z', f, h1, hf, h2⟩
