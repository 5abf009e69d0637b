/-! Pure rows: making two types the same, over any forest of links. -/
/-- what a labelling v must keep: ONE is one, a sum or pair is made of its parts -/
def us_sol (n : Nat) (K L R v : Nat → Nat) : Prop := ∀ t, t < n → (K t = 1 → v t = 1) ∧ (2 ≤ K t → v t = tm_N (K t) (v (L t)) (v (R t)))
/-- v doesn't tell a type from the one that it is linked to -/
def us_rsp (n : Nat) (o v : Nat → Nat) : Prop := ∀ t, t < n → v t = v (o t)
/-- a forest of links o with roots r and depths d -/
def us_fo (n : Nat) (o r d : Nat → Nat) : Prop := ∀ t, t < n → o t < n ∧ r t < n ∧ o (r t) = r t ∧ r (o t) = r t ∧ (o t = t → r t = t ∧ d t = 0) ∧ (o t ≠ t → d (o t) < d t)
def us_up (f : Nat → Nat) (k x : Nat) : Nat → Nat := fun j => if j = k then x else f j
theorem us_up_s (f : Nat → Nat) (k x : Nat) : us_up f k x k = x := by simp [us_up]
theorem us_up_n (f : Nat → Nat) {k x j : Nat} (h : j ≠ k) : us_up f k x j = f j := by simp [us_up, h]
theorem us_fo.rr {n : Nat} {o r d : Nat → Nat} (h : us_fo n o r d) {t : Nat} (ht : t < n) : r (r t) = r t :=
  ((h (r t) (h t ht).2.1).2.2.2.2.1 (h t ht).2.2.1).1
theorem us_fo.root {n : Nat} {o r d : Nat → Nat} (h : us_fo n o r d) {t : Nat} (ht : t < n) : o t = t ↔ r t = t :=
  ⟨fun e => ((h t ht).2.2.2.2.1 e).1, fun e => by have := (h t ht).2.2.1; rw [e] at this; exact this⟩
theorem us_rsp.root {n : Nat} {o r d v : Nat → Nat} (h : us_fo n o r d) (hv : us_rsp n o v) : ∀ (m t : Nat), d t < m → t < n → v t = v (r t) := by
  intro m
  induction m with
  | zero => intro t h0; omega
  | succ m ih =>
    intro t hd ht
    by_cases e : o t = t
    · rw [((h t ht).2.2.2.2.1 e).1]
    · have h1 := (h t ht).2.2.2.2.2 e
      rw [hv t ht, ih (o t) (by omega) (h t ht).1, (h t ht).2.2.2.1]
theorem us_rsp.r {n : Nat} {o r d v : Nat → Nat} (h : us_fo n o r d) (hv : us_rsp n o v) {t : Nat} (ht : t < n) : v t = v (r t) := us_rsp.root h hv (d t + 1) t (Nat.lt_succ_self _) ht
theorem us_rsp.self {n : Nat} {o r d : Nat → Nat} (h : us_fo n o r d) : us_rsp n o r := fun t ht => (h t ht).2.2.2.1.symm
/-- a way shortened: x is linked to where its link leads -/
theorem us_fo.half {n : Nat} {o r d : Nat → Nat} (h : us_fo n o r d) {x : Nat} (hx : x < n) (hne : o x ≠ x) : us_fo n (us_up o x (o (o x))) r d := by
  have hox := (h x hx).1
  have hd1 := (h x hx).2.2.2.2.2 hne
  have hoo : o (o x) ≠ x := by
    intro e
    by_cases e2 : o (o x) = o x
    · exact hne (by rw [← e2]; exact e)
    · have := (h (o x) hox).2.2.2.2.2 e2
      rw [e] at this; omega
  have hrx : r x ≠ x := fun e => hne (by have := (h x hx).2.2.1; rw [e] at this; exact this)
  intro t ht
  have hrt : us_up o x (o (o x)) (r t) = r t := by
    have hne2 : r t ≠ x := fun e => hne (by have := (h t ht).2.2.1; rw [e] at this; exact this)
    rw [us_up_n _ hne2]; exact (h t ht).2.2.1
  by_cases e : t = x
  · subst e
    rw [us_up_s]
    refine ⟨(h _ hox).1, (h t ht).2.1, hrt, ?_, fun e => absurd e hoo, fun _ => ?_⟩
    · rw [(h _ hox).2.2.2.1, (h t ht).2.2.2.1]
    · by_cases e2 : o (o t) = o t
      · rw [e2]; exact hd1
      · have := (h (o t) hox).2.2.2.2.2 e2; omega
  · rw [us_up_n _ e]
    exact ⟨(h t ht).1, (h t ht).2.1, hrt, (h t ht).2.2.2.1, (h t ht).2.2.2.2.1, (h t ht).2.2.2.2.2⟩
theorem us_rsp.half {n : Nat} {o r d v : Nat → Nat} (h : us_fo n o r d) {x : Nat} (hx : x < n) (hne : o x ≠ x) : us_rsp n (us_up o x (o (o x))) v ↔ us_rsp n o v := by
  have hox := (h x hx).1
  constructor
  · intro hv t ht
    by_cases e : t = x
    · subst e
      have h1 := hv t ht
      rw [us_up_s] at h1
      have h2 := hv (o t) hox
      rw [us_up_n _ hne] at h2
      rw [h1, h2]
    · have h1 := hv t ht
      rw [us_up_n _ e] at h1
      exact h1
  · intro hv t ht
    by_cases e : t = x
    · subst e
      rw [us_up_s, hv t ht, hv (o t) hox]
    · rw [us_up_n _ e]; exact hv t ht
/-- root x is linked to root y -/
def us_lr (r : Nat → Nat) (x y : Nat) : Nat → Nat := fun t => if r t = x then y else r t
def us_ld (r d : Nat → Nat) (x : Nat) : Nat → Nat := fun t => if r t = x then d t + 1 else d t
theorem us_fo.link {n : Nat} {o r d : Nat → Nat} (h : us_fo n o r d) {x y : Nat} (hx : x < n) (hy : y < n) (ex : o x = x) (ey : o y = y) (hne : x ≠ y) : us_fo n (us_up o x y) (us_lr r x y) (us_ld r d x) := by
  have rx : r x = x := ((h x hx).2.2.2.2.1 ex).1
  have ry : r y = y := ((h y hy).2.2.2.2.1 ey).1
  have dx : d x = 0 := ((h x hx).2.2.2.2.1 ex).2
  have dy : d y = 0 := ((h y hy).2.2.2.2.1 ey).2
  have hyx : y ≠ x := fun e => hne e.symm
  intro t ht
  obtain ⟨h1, h2, h3, h4, h5, h6⟩ := h t ht
  by_cases e : t = x
  · subst e
    rw [us_up_s]
    have e1 : us_lr r t y t = y := by simp [us_lr, rx]
    have e2 : us_lr r t y y = y := by simp [us_lr, ry]
    refine ⟨hy, by rw [e1]; exact hy, by rw [e1, us_up_n _ hyx]; exact ey, by rw [e1, e2], fun q => absurd q hyx, fun _ => ?_⟩
    simp [us_ld, rx, ry, hyx, dy]
  · rw [us_up_n _ e]
    have hr' : us_lr r x y t < n := by
      unfold us_lr; split
      · exact hy
      · exact h2
    have ho' : us_up o x y (us_lr r x y t) = us_lr r x y t := by
      unfold us_lr; split
      · rw [us_up_n _ hyx]; exact ey
      · rename_i hh
        rw [us_up_n _ hh]; exact h3
    refine ⟨h1, hr', ho', by simp [us_lr, h4], fun q => ?_, fun q => ?_⟩
    · have := h5 q
      have hh : r t ≠ x := by rw [this.1]; exact e
      unfold us_lr us_ld
      rw [if_neg hh, if_neg hh]
      exact this
    · have := h6 q
      simp only [us_ld, h4]
      split <;> omega
theorem us_rsp.link {n : Nat} {o r d v : Nat → Nat} (h : us_fo n o r d) {x y : Nat} (hx : x < n) (ex : o x = x) : us_rsp n (us_up o x y) v ↔ us_rsp n o v ∧ v x = v y := by
  constructor
  · intro hv
    refine ⟨fun t ht => ?_, ?_⟩
    · by_cases e : t = x
      · subst e; rw [ex]
      · have := hv t ht
        rw [us_up_n _ e] at this
        exact this
    · have := hv x hx
      rw [us_up_s] at this
      exact this
  · intro ⟨hv, e1⟩ t ht
    by_cases e : t = x
    · subst e; rw [us_up_s]; exact e1
    · rw [us_up_n _ e]; exact hv t ht
/-- pairs that are still to be made the same -/
def us_pd (ps : List (Nat × Nat)) (v : Nat → Nat) : Prop := ∀ q, q ∈ ps → v q.1 = v q.2
theorem us_pd_c {q : Nat × Nat} {ps : List (Nat × Nat)} {v : Nat → Nat} : us_pd (q :: ps) v ↔ v q.1 = v q.2 ∧ us_pd ps v := by
  simp [us_pd]
/-- kinds are those of the roots; parts of what is linked are the same, once the pairs are -/
def us_cl (n : Nat) (K L R o r : Nat → Nat) (ps : List (Nat × Nat)) : Prop := ∀ t, t < n → (K t ≠ 0 → K (r t) = K t) ∧ (2 ≤ K t → ∀ f, us_rsp n o f → us_pd ps f → f (L t) = f (L (r t)) ∧ f (R t) = f (R (r t)))
theorem us_cl.skip {n : Nat} {K L R o r d : Nat → Nat} {a b : Nat} {ps : List (Nat × Nat)} (hf : us_fo n o r d) (h : us_cl n K L R o r ((a, b) :: ps)) (ha : a < n) (hb : b < n) (e : r a = r b) : us_cl n K L R o r ps :=
  fun t ht => ⟨(h t ht).1, fun hk f h1 h2 => (h t ht).2 hk f h1 (us_pd_c.mpr ⟨by show f a = f b; rw [us_rsp.r hf h1 ha, us_rsp.r hf h1 hb, e], h2⟩)⟩
theorem us_cl.free {n : Nat} {K L R o r d : Nat → Nat} {a b x y : Nat} {ps : List (Nat × Nat)} (hf : us_fo n o r d) (h : us_cl n K L R o r ((a, b) :: ps)) (hx : x < n) (ex : o x = x) (hk0 : K x = 0)
    (hab : ∀ f, us_rsp n o f → f x = f y → f a = f b) : us_cl n K L R (us_up o x y) (us_lr r x y) ps := by
  intro t ht
  have key : K t ≠ 0 → r t ≠ x := fun hk e => hk (by rw [← (h t ht).1 hk, e]; exact hk0)
  refine ⟨fun hk => ?_, fun hk f h1 h2 => ?_⟩
  · simp only [us_lr, key hk, if_false]; exact (h t ht).1 hk
  · obtain ⟨h3, h4⟩ := (us_rsp.link hf hx ex).mp h1
    have := (h t ht).2 hk f h3 (us_pd_c.mpr ⟨hab f h3 h4, h2⟩)
    simp only [us_lr, key (by omega), if_false]; exact this
theorem us_cl.ones {n : Nat} {K L R o r d : Nat → Nat} {a b x y : Nat} {ps : List (Nat × Nat)} (hf : us_fo n o r d) (h : us_cl n K L R o r ((a, b) :: ps)) (hx : x < n) (ex : o x = x) (hk1 : K x = 1) (hk2 : K y = 1)
    (hab : ∀ f, us_rsp n o f → f x = f y → f a = f b) : us_cl n K L R (us_up o x y) (us_lr r x y) ps := by
  intro t ht
  refine ⟨fun hk => ?_, fun hk f h1 h2 => ?_⟩
  · by_cases e : r t = x
    · simp only [us_lr, e, if_true]; rw [← (h t ht).1 hk, e, hk1, hk2]
    · simp only [us_lr, e, if_false]; exact (h t ht).1 hk
  · have e : r t ≠ x := fun e => by have := (h t ht).1 (by omega); rw [e, hk1] at this; omega
    obtain ⟨h3, h4⟩ := (us_rsp.link hf hx ex).mp h1
    have := (h t ht).2 hk f h3 (us_pd_c.mpr ⟨hab f h3 h4, h2⟩)
    simp only [us_lr, e, if_false]; exact this
theorem us_cl.both {n : Nat} {K L R o r d : Nat → Nat} {a b x y : Nat} {ps ps' : List (Nat × Nat)} (hf : us_fo n o r d) (h : us_cl n K L R o r ((a, b) :: ps)) (hx : x < n) (ex : o x = x) (hk1 : K x = K y)
    (hab : ∀ f, us_rsp n o f → f x = f y → f a = f b) (hp : ∀ f, us_pd ps' f → f (L x) = f (L y) ∧ f (R x) = f (R y) ∧ us_pd ps f) : us_cl n K L R (us_up o x y) (us_lr r x y) ps' := by
  intro t ht
  refine ⟨fun hk => ?_, fun hk f h1 h2 => ?_⟩
  · by_cases e : r t = x
    · simp only [us_lr, e, if_true]; rw [← (h t ht).1 hk, e, hk1]
    · simp only [us_lr, e, if_false]; exact (h t ht).1 hk
  · obtain ⟨h3, h4⟩ := (us_rsp.link hf hx ex).mp h1
    obtain ⟨p1, p2, p3⟩ := hp f h2
    have := (h t ht).2 hk f h3 (us_pd_c.mpr ⟨hab f h3 h4, p3⟩)
    by_cases e : r t = x
    · simp only [us_lr, e, if_true]
      rw [e] at this
      exact ⟨this.1.trans p1, this.2.trans p2⟩
    · simp only [us_lr, e, if_false]; exact this
/-- two kinds that aren't the same have no labelling in common -/
theorem us_sol.head {n : Nat} {K L R v : Nat → Nat} (h : us_sol n K L R v) {x : Nat} (hx : x < n) (hk : K x ≠ 0) (h4 : K x < 4) : v x % 4 = K x := by
  by_cases e : K x = 1
  · rw [(h x hx).1 e, e]
  · rw [(h x hx).2 (by omega)]; exact tm_N_mod h4
theorem us_sol.clash {n : Nat} {K L R v : Nat → Nat} (h : us_sol n K L R v) {x y : Nat} (hx : x < n) (hy : y < n) (hkx : K x ≠ 0) (hky : K y ≠ 0) (h4x : K x < 4) (h4y : K y < 4) (hne : K x ≠ K y) : v x ≠ v y := by
  intro e
  have h1 := h.head hx hkx h4x
  rw [e, h.head hy hky h4y] at h1
  exact hne h1.symm
theorem us_sol.parts {n : Nat} {K L R v : Nat → Nat} (h : us_sol n K L R v) {x y : Nat} (hx : x < n) (hy : y < n) (hk : K x = K y) (h2 : 2 ≤ K x) (h4 : K x < 4) (e : v x = v y) : v (L x) = v (L y) ∧ v (R x) = v (R y) := by
  rw [(h x hx).2 h2, (h y hy).2 (by omega)] at e
  exact (tm_N_inj h2 h4 (by omega) (by omega) e).2
