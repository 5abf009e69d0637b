/-! Small rows on states, places and counts. -/
theorem ix_f {α : Type} {n N : Nat} (h : n < N) (hN : N < 2 ^ 31) {A B : Option α} : (if nI n < 0 ∨ N ≤ (nI n).toNatClampNeg then A else B) = B := if_neg (nI_in h hN)
theorem cl_ {n : Nat} (h : n < 2 ^ 31) : (nI n).toNatClampNeg = n := nI_clamp h
theorem i0 : (0 : Int32) = nI 0 := nI_0.symm
theorem i1 : (1 : Int32) = nI 1 := by decide
theorem i2 : (2 : Int32) = nI 2 := by decide
theorem i3 : (3 : Int32) = nI 3 := by decide
theorem im1 {n : Nat} (h : n < 2 ^ 31) : ¬ nI n = -1 := by
  intro e
  have h1 := nI_toInt h
  rw [e] at h1
  have h2 : (-1 : Int32).toInt = -1 := by decide
  rw [h2] at h1
  omega
theorem neq {a b : Nat} (ha : a < 2 ^ 31) (hb : b < 2 ^ 31) : nI a = nI b ↔ a = b := nI_eq ha hb
theorem wsc_s (z : St) (k : Nat) (v : Int32) : (wsc z k v).1 k = v := by simp [wsc]
theorem wsc_n (z : St) {k j : Nat} (v : Int32) (h : j ≠ k) : (wsc z k v).1 j = z.1 j := by simp [wsc, h]
theorem wsc_2 (z : St) (k : Nat) (v : Int32) : (wsc z k v).2 = z.2 := rfl
theorem wal_1 (z : St) (k : Nat) (f : Nat → Int32) : (wal z k f).1 = z.1 := rfl
theorem wal_s (z : St) (k : Nat) (f : Nat → Int32) : (wal z k f).2 k = f := by simp [wal]
theorem wal_n (z : St) {k j : Nat} (f : Nat → Int32) (h : j ≠ k) : (wal z k f).2 j = z.2 j := by simp [wal, h]
theorem war_1 (z : St) (k i : Nat) (v : Int32) : (war z k i v).1 = z.1 := rfl
theorem war_s (z : St) (k i : Nat) (v : Int32) : (war z k i v).2 k i = v := by simp [war, wal, upd]
theorem war_i (z : St) {k i j : Nat} (v : Int32) (h : j ≠ i) : (war z k i v).2 k j = z.2 k j := by simp [war, wal, upd, h]
theorem war_n (z : St) {k i j : Nat} (v : Int32) (h : j ≠ k) : (war z k i v).2 j = z.2 j := by simp [war, wal, h]
/-- row k of z holds f at its first n places -/
def ro (z : St) (k n : Nat) (f : Nat → Nat) : Prop := ∀ t, t < n → z.2 k t = nI (f t)
theorem ro.set {z : St} {k n : Nat} {f : Nat → Nat} (h : ro z k n f) {i x : Nat} (v : Int32) (hv : v = nI x) : ro (war z k i v) k n (us_up f i x) := by
  intro t ht
  by_cases e : t = i
  · subst e; rw [war_s, us_up_s, hv]
  · rw [war_i _ _ e, us_up_n _ e]; exact h t ht
theorem ro.keep {z z' : St} {k n : Nat} {f : Nat → Nat} (h : ro z k n f) (e : z'.2 k = z.2 k) : ro z' k n f := fun t ht => by rw [e]; exact h t ht
/-- z' is z but for the rows in ks -/
def on (ks : List Nat) (z z' : St) : Prop := z'.1 = z.1 ∧ ∀ k, k ∉ ks → z'.2 k = z.2 k
theorem on.rf {ks : List Nat} {z : St} : on ks z z := ⟨rfl, fun _ _ => rfl⟩
theorem on.tr {ks : List Nat} {z z' z'' : St} (h : on ks z z') (h' : on ks z' z'') : on ks z z'' := ⟨h'.1.trans h.1, fun k hk => (h'.2 k hk).trans (h.2 k hk)⟩
theorem on.war {ks : List Nat} {z : St} {k i : Nat} {v : Int32} (hk : k ∈ ks) : on ks z (war z k i v) := ⟨rfl, fun j hj => war_n _ _ (fun e => hj (e ▸ hk))⟩
theorem on.wal {ks : List Nat} {z : St} {k : Nat} {f : Nat → Int32} (hk : k ∈ ks) : on ks z (wal z k f) := ⟨rfl, fun j hj => wal_n _ _ (fun e => hj (e ▸ hk))⟩
theorem on.mono {ks ks' : List Nat} {z z' : St} (h : on ks z z') (hs : ∀ k, k ∈ ks → k ∈ ks') : on ks' z z' := ⟨h.1, fun k hk => h.2 k (fun q => hk (hs k q))⟩
/-- how many of the first n places have p -/
def ct (p : Nat → Bool) : Nat → Nat
  | 0 => 0
  | n + 1 => ct p n + (if p n then 1 else 0)
theorem ct_le (p : Nat → Bool) : ∀ n, ct p n ≤ n := by
  intro n
  induction n with
  | zero => exact Nat.le_refl _
  | succ n ih => simp only [ct]; split <;> omega
theorem ct_congr {p p' : Nat → Bool} : ∀ n, (∀ t, t < n → p t = p' t) → ct p n = ct p' n := by
  intro n
  induction n with
  | zero => intro _; rfl
  | succ n ih => intro h; simp only [ct]; rw [ih (fun t ht => h t (by omega)), h n (by omega)]
theorem ct_flip {p p' : Nat → Bool} {x : Nat} (hp : p x = true) (hp' : p' x = false) (ho : ∀ t, t ≠ x → p' t = p t) : ∀ n, x < n → ct p' n + 1 = ct p n := by
  intro n
  induction n with
  | zero => intro h; omega
  | succ n ih =>
    intro h
    simp only [ct]
    by_cases e : x = n
    · subst e
      rw [hp, hp', ct_congr x (fun t ht => ho t (by omega))]
      simp
    · rw [ho n (fun q => e q.symm)]
      have := ih (by omega)
      omega
theorem ct_pos {p : Nat → Bool} {x : Nat} (hp : p x = true) : ∀ n, x < n → 0 < ct p n := by
  intro n
  induction n with
  | zero => intro h; omega
  | succ n ih =>
    intro h
    simp only [ct]
    by_cases e : x = n
    · subst e; rw [hp]; simp
    · have := ih (by omega); omega
/-- the roots of a forest -/
def rts (n : Nat) (o : Nat → Nat) : Nat := ct (fun t => decide (o t = t)) n
theorem rts_le (n : Nat) (o : Nat → Nat) : rts n o ≤ n := ct_le _ _
theorem rts_link {n : Nat} {o : Nat → Nat} {x y : Nat} (hx : x < n) (ex : o x = x) (hne : x ≠ y) : rts n (us_up o x y) + 1 = rts n o := by
  refine ct_flip (x := x) (by simp [ex]) (by rw [us_up_s]; exact decide_eq_false (fun e : y = x => hne e.symm)) (fun t ht => by simp [us_up, ht]) n hx
theorem rts_half {n : Nat} {o r d : Nat → Nat} (h : us_fo n o r d) {x : Nat} (hx : x < n) (hne : o x ≠ x) : rts n (us_up o x (o (o x))) = rts n o := by
  refine ct_congr n (fun t ht => ?_)
  by_cases e : t = x
  · subst e
    have h2 := h.half hx hne t ht
    have hoo : us_up o t (o (o t)) t ≠ t := by
      intro e2
      have := (h2.2.2.2.2.1 e2).1
      exact hne (by have h3 := (h t ht).2.2.1; rw [this] at h3; exact h3)
    simp [hoo, hne]
  · simp [us_up, e]
/-- the pile holds l, its top first -/
def pil (z : St) : List Nat → Prop
  | [] => True
  | x :: l => z.2 11 l.length = nI x ∧ pil z l
def pi (z : St) (l : List Nat) : Prop := z.1 3 = nI l.length ∧ pil z l
theorem pil.up {z z' : St} : ∀ (l : List Nat), pil z l → (∀ k, k < l.length → z'.2 11 k = z.2 11 k) → pil z' l := by
  intro l
  induction l with
  | nil => intro _ _; trivial
  | cons x l ih =>
    intro h hk
    exact ⟨by rw [hk _ (by simp)]; exact h.1, ih h.2 (fun k hkl => hk k (by simp; omega))⟩
theorem pi.keep {z z' : St} {l : List Nat} (h : pi z l) (e1 : z'.1 3 = z.1 3) (e2 : z'.2 11 = z.2 11) : pi z' l := ⟨e1.trans h.1, pil.up l h.2 (fun k _ => by rw [e2])⟩
theorem s_put {z : St} {l : List Nat} (h : pi z l) (x : Nat) (hl : l.length < 2002) : ∃ z', f_P_put z (nI x) = some z' ∧ pi z' (x :: l) ∧ (∀ k, k ≠ 3 → z'.1 k = z.1 k) ∧ (∀ k, k ≠ 11 → z'.2 k = z.2 k) := by
  refine ⟨wsc (war z 11 l.length (nI x)) 3 (nI (l.length + 1)), ?_, ?_, ?_, ?_⟩
  · unfold f_P_put
    rw [h.1, ix_f hl (by decide), cl_ (by omega), war_1, h.1, nI_1]
  · refine ⟨by rw [wsc_s]; rfl, ?_, ?_⟩
    · rw [wsc_2, war_s]
    · refine pil.up l h.2 (fun k hk => ?_)
      rw [wsc_2, war_i _ _ (by omega)]
  · intro k hk; rw [wsc_n _ _ hk, war_1]
  · intro k hk; rw [wsc_2, war_n _ _ hk]
theorem s_take {z : St} {x : Nat} {l : List Nat} (h : pi z (x :: l)) (hl : l.length < 2002) : ∃ z', f_P_take z = some (nI x, z') ∧ pi z' l ∧ (∀ k, k ≠ 3 → z'.1 k = z.1 k) ∧ z'.2 = z.2 := by
  have e : z.1 3 - 1 = nI l.length := by rw [h.1, List.length_cons, nI_pred]
  refine ⟨wsc z 3 (nI l.length), ?_, ?_, ?_, rfl⟩
  · unfold f_P_take
    rw [e, wsc_s, ix_f hl (by decide), cl_ (by omega), wsc_2, h.2.1]
  · exact ⟨wsc_s _ _ _, pil.up l h.2.2 (fun k _ => by rw [wsc_2])⟩
  · intro k hk; rw [wsc_n _ _ hk]
theorem s_top {z : St} {x : Nat} {l : List Nat} (h : pi z (x :: l)) (hl : l.length < 2002) : f_P_top z = some (nI x, z) := by
  have e : z.1 3 - 1 = nI l.length := by rw [h.1, List.length_cons, nI_pred]
  unfold f_P_top
  rw [e, ix_f hl (by decide), cl_ (by omega), h.2.1]
theorem s_startWith (z : St) (x y : Nat) : ∃ z', f_P_startWith z (nI x) (nI y) = some z' ∧ pi z' [y, x] ∧ (∀ k, k ≠ 3 → z'.1 k = z.1 k) ∧ (∀ k, k ≠ 11 → z'.2 k = z.2 k) := by
  refine ⟨wsc (war (war z 11 0 (nI x)) 11 1 (nI y)) 3 2, ?_, ?_, ?_, ?_⟩
  · unfold f_P_startWith
    rw [if_neg (show ¬ ((0 : Int32) < 0 ∨ 2002 ≤ (0 : Int32).toNatClampNeg) by decide), if_neg (show ¬ ((1 : Int32) < 0 ∨ 2002 ≤ (1 : Int32).toNatClampNeg) by decide), show (0 : Int32).toNatClampNeg = 0 by decide, show (1 : Int32).toNatClampNeg = 1 by decide]
  · refine ⟨by rw [wsc_s, i2]; rfl, ?_, ?_, trivial⟩
    · rw [wsc_2]; exact war_s _ _ _ _
    · rw [wsc_2, war_i _ _ (by decide)]; exact war_s _ _ _ _
  · intro k hk; rw [wsc_n _ _ hk, war_1, war_1]
  · intro k hk; rw [wsc_2, war_n _ _ hk, war_n _ _ hk]
