/-! Pure rows: types as numbers. A free one, one, a sum or pair of two, each a number; no two alike. -/
def tm_pr (a b : Nat) : Nat := (a + b) * (a + b) + a
def tm_F (i : Nat) : Nat := 4 * i
def tm_N (k a b : Nat) : Nat := 4 * tm_pr a b + k
theorem tm_pr_lt {m n a c : Nat} (h : m < n) (ha : a ≤ m) : m * m + a < n * n + c := by
  have h1 : (m + 1) * (m + 1) ≤ n * n := Nat.mul_le_mul h h
  have h2 : (m + 1) * (m + 1) = m * m + 2 * m + 1 := by
    rw [Nat.add_mul, Nat.mul_add]; omega
  omega
theorem tm_pr_inj {a b c d : Nat} (h : tm_pr a b = tm_pr c d) : a = c ∧ b = d := by
  unfold tm_pr at h
  rcases Nat.lt_trichotomy (a + b) (c + d) with h1 | h1 | h1
  · have := tm_pr_lt (c := c) h1 (Nat.le_add_right a b); omega
  · rw [h1] at h; omega
  · have := tm_pr_lt (c := a) h1 (Nat.le_add_right c d); omega
theorem tm_pr_ge (a b : Nat) : a + b ≤ tm_pr a b := by
  unfold tm_pr
  have : a + b ≤ (a + b) * (a + b) := Nat.le_mul_self _
  omega
theorem tm_N_inj {k k' a b c d : Nat} (hk : 2 ≤ k) (hk4 : k < 4) (hk' : 2 ≤ k') (hk4' : k' < 4) (h : tm_N k a b = tm_N k' c d) : k = k' ∧ a = c ∧ b = d := by
  unfold tm_N at h
  have h1 : k = k' := by omega
  have h2 : tm_pr a b = tm_pr c d := by omega
  exact ⟨h1, tm_pr_inj h2⟩
theorem tm_N_fst {k a b : Nat} (hk : 2 ≤ k) : a < tm_N k a b := by
  unfold tm_N
  have := tm_pr_ge a b
  omega
theorem tm_N_snd {k a b : Nat} (hk : 2 ≤ k) : b < tm_N k a b := by
  unfold tm_N
  have := tm_pr_ge a b
  omega
theorem tm_N_mod {k a b : Nat} (hk4 : k < 4) : tm_N k a b % 4 = k := by
  unfold tm_N; omega
theorem tm_F_mod (i : Nat) : tm_F i % 4 = 0 := by
  unfold tm_F; omega
theorem tm_F_inj {i j : Nat} (h : tm_F i = tm_F j) : i = j := by
  unfold tm_F at h; omega
