/-! TypeBench: leaderOf, free, makeWhole, sum, pair, begin, clear. -/
theorem s_leader_ok {z : St} {n t : Nat} {ld : Nat → Nat} (h0 : z.1 0 = nI n) (hz : ro z 0 n ld) (hn : n ≤ 600) (ht : t < n) : f_X_leaderOf z (nI t) = some ((0, nI (ld t)), z) := by
  unfold f_X_leaderOf
  rw [if_neg (nI_pos (by omega)), h0, if_pos (nI_lt ht (by omega)), ix_f (by omega) (by decide), cl_ (by omega), hz t ht]
theorem s_leader_no {z : St} {n : Nat} {a : Int32} (h0 : z.1 0 = nI n) (ha : a < 0 ∨ nI n ≤ a) : f_X_leaderOf z a = some ((1, 0), z) := by
  unfold f_X_leaderOf
  by_cases e : a < 0
  · rw [if_pos e]
  · rw [if_neg e, h0, if_neg (fun q => ?_)]
    rcases ha with ha | ha
    · exact e ha
    · rw [Int32.lt_iff_toInt_lt] at q
      rw [Int32.le_iff_toInt_le] at ha
      omega
theorem s_next {z : St} {n : Nat} (h0 : z.1 0 = nI n) (hn : n < 1000) : f_X_nextNumber z = some ((0, nI n), wsc z 0 (nI (n + 1))) := by
  unfold f_X_nextNumber
  rw [h0, if_pos (by rw [show (1000 : Int32) = nI 1000 by decide]; exact nI_lt hn (by decide)), nI_1, wsc_s, nI_pred]
theorem s_write {z : St} {a : Nat} (k f s : Int32) (ha : a < 1000) : f_S_write z (nI a) k f s = some (war (war (war z 6 a k) 7 a f) 8 a s) := by
  unfold f_S_write
  simp only [ix_g ha (show 1000 < 2 ^ 31 by decide), cl_ (show a < 2 ^ 31 by omega)]
theorem s_addLeader {z : St} {a m : Nat} (h1 : z.1 1 = nI m) (ha : a < 1000) (hm : m < 1000) : f_X_addLeader z (nI a) = some (wsc (war (war (war z 0 a (nI a)) 1 a (nI a)) 2 m (nI a)) 1 (nI (m + 1))) := by
  unfold f_X_addLeader
  simp only [war_1, h1, ix_g ha (show 1000 < 2 ^ 31 by decide), ix_g hm (show 1000 < 2 ^ 31 by decide), cl_ (show a < 2 ^ 31 by omega), cl_ (show m < 2 ^ 31 by omega), nI_1]
theorem LD_lt {n : Nat} {ld : Nat → Nat} {x : Nat} (h : LD n ld x) : x < n := h.1
/-- a leader is added: what the state stands for then -/
theorem XD.added {z z' : St} {n m k0 f0 s0 e e' : Nat} {M : (Nat → Nat) → Prop} {ld ls od K F S ps : Nat → Nat} (h : XD z n M m ld ls od K F S ps e) (hn : n + 1 ≤ 600) (hk : k0 = 0 ∨ (2 ≤ k0 ∧ k0 < 4 ∧ LD n ld f0 ∧ LD n ld s0 ∧ ∀ x, LD n ld x → ¬ (K x = k0 ∧ F x = f0 ∧ S x = s0)))
    (g0 : z'.1 0 = nI (n + 1)) (g1 : z'.1 1 = nI (m + 1)) (r0 : ro z' 0 (n + 1) (us_up ld n n)) (r1 : ∀ x, x ≠ n → z'.2 1 x = z.2 1 x) (r1n : z'.2 1 n = nI n) (r2 : ∀ i, i ≠ m → z'.2 2 i = z.2 2 i) (r2m : z'.2 2 m = nI n)
    (r6 : ∀ x, x ≠ n → z'.2 6 x = z.2 6 x ∧ z'.2 7 x = z.2 7 x ∧ z'.2 8 x = z.2 8 x) (r6n : z'.2 6 n = nI k0 ∧ (2 ≤ k0 → z'.2 7 n = nI f0 ∧ z'.2 8 n = nI s0))
    (hH : HS z' (fun x => LD (n + 1) (us_up ld n n) x ∧ 2 ≤ us_up K n k0 x) (us_up K n k0) (us_up F n f0) (us_up S n s0) e') (he : e' ≤ n + 1) :
    XI z' (n + 1) (fun v => M v ∧ (2 ≤ k0 → v n = tm_N k0 (v f0) (v s0))) := by
  obtain ⟨⟨a1, a2, a3, a4⟩, ⟨b1, b2⟩, c1, c2, c3, c4, c5, c6, c7, c8, c9, c10⟩ := h
  obtain ⟨hP, d1, d2⟩ := cf_add (m := m) c8 c9 (fun x hx => (c6 x hx).1) hk
  have ne : ∀ {x}, LD n ld x → x ≠ n := fun {x} hx q => by have := hx.1; omega
  have nem : ∀ {i}, i < m → i ≠ m := fun {i} hi q => by omega
  refine ⟨m + 1, us_up ld n n, us_up ls n n, us_up od m n, us_up K n k0, us_up F n f0, us_up S n s0, us_up ps n m, e', ⟨by omega, hn, he, by omega⟩, ⟨g0, g1⟩, r0, fun t ht => ?_, fun x hx => ?_, fun x hx => ?_, fun i hi => ?_, fun x hx => ?_, hH, d1, d2, fun t ht q => ?_⟩
  · have := (d1.1 t ht); exact this
  · rcases (hP x).mp hx with hx | hx
    · obtain ⟨q1, q2, q3⟩ := r6 x (ne hx)
      rw [q1, q2, q3, us_up_n _ (ne hx), us_up_n _ (ne hx), us_up_n _ (ne hx)]
      exact c3 x hx
    · rw [hx, us_up_s, us_up_s, us_up_s]; exact r6n
  · rcases (hP x).mp hx with hx | hx
    · obtain ⟨q1, q2, q3, q4⟩ := c4 x hx
      rw [r1 x (ne hx), us_up_n _ (ne hx)]
      refine ⟨q1, by omega, by rw [us_up_n _ (by omega)]; exact q3, fun t ht => ?_⟩
      rw [us_up_n _ (by omega)]; exact q4 t ht
    · rw [hx, us_up_s, r1n]
      refine ⟨rfl, by omega, us_up_s _ _ _, fun t ht => ?_⟩
      rw [us_up_n _ (by omega)]
      have := (c2 t ht).1
      omega
  · by_cases q : i = m
    · rw [q, us_up_s, r2m]
      exact ⟨rfl, (hP n).mpr (Or.inr rfl), us_up_s _ _ _⟩
    · obtain ⟨q1, q2, q3⟩ := c5 i (by omega)
      rw [us_up_n _ q, r2 i q, us_up_n _ (ne q2)]
      exact ⟨q1, (hP _).mpr (Or.inl q2), q3⟩
  · rcases (hP x).mp hx with hx | hx
    · obtain ⟨q1, q2⟩ := c6 x hx
      rw [us_up_n _ (ne hx), us_up_n _ (nem q1)]
      exact ⟨by omega, q2⟩
    · rw [hx, us_up_s, us_up_s]; exact ⟨by omega, rfl⟩
  · by_cases q2 : t = n
    · rw [q2, us_up_s]
    · rw [us_up_n _ q2] at q ⊢
      exact c10 t (by omega) q
theorem s_free {z : St} {n : Nat} {M : (Nat → Nat) → Prop} (h : XI z n M) (hn : n + 1 ≤ 600) : ∃ z', f_X_free z = some ((0, nI n), z') ∧ XI z' (n + 1) M := by
  obtain ⟨m, ld, ls, od, K, F, S, ps, e, hD⟩ := h
  obtain ⟨⟨a1, a2, a3, a4⟩, ⟨b1, b2⟩, c1, c2, c3, c4, c5, c6, c7, c8, c9, c10⟩ := id hD
  unfold f_X_free
  rw [s_next b1 (by omega), Option.bind_some]
  dsimp only
  rw [if_pos rfl, s_write _ _ _ (by omega), Option.bind_some, s_addLeader (m := m) (by simp only [war_1]; rw [wsc_n _ _ (by decide)]; exact b2) (by omega) (by omega), Option.bind_some]
  refine ⟨_, rfl, ?_⟩
  have hX := hD.added (k0 := 0) (f0 := 0) (s0 := 0) (e' := e) (z' := wsc (war (war (war (war (war (war (wsc z 0 (nI (n + 1))) 6 n 0) 7 n (-1)) 8 n (-1)) 0 n (nI n)) 1 n (nI n)) 2 m (nI n)) 1 (nI (m + 1))) hn (Or.inl rfl)
    (by rw [wsc_n _ _ (by decide)]; simp only [war_1]; exact wsc_s _ _ _) (wsc_s _ _ _)
    (by
      have : ro (war (war (war (wsc z 0 (nI (n + 1))) 6 n 0) 7 n (-1)) 8 n (-1)) 0 n ld := c1.keep (by rw [war_n _ _ (by decide), war_n _ _ (by decide), war_n _ _ (by decide), wsc_2])
      intro t ht
      rw [wsc_2, war_n _ _ (by decide), war_n _ _ (by decide)]
      by_cases q : t = n
      · rw [q, war_s, us_up_s]
      · rw [war_i _ _ q, us_up_n _ q]; exact this t (by omega))
    (fun x hx => by rw [wsc_2, war_n _ _ (by decide), war_i _ _ hx, war_n _ _ (by decide), war_n _ _ (by decide), war_n _ _ (by decide), war_n _ _ (by decide), wsc_2]) (by rw [wsc_2, war_n _ _ (by decide), war_s])
    (fun i hi => by rw [wsc_2, war_i _ _ hi, war_n _ _ (by decide), war_n _ _ (by decide), war_n _ _ (by decide), war_n _ _ (by decide), war_n _ _ (by decide), wsc_2]) (by rw [wsc_2, war_s])
    (fun x hx => by
      rw [wsc_2, war_n _ _ (by decide), war_n _ _ (by decide), war_n _ _ (by decide), war_n _ _ (by decide), war_n _ _ (by decide), war_i _ _ hx, wsc_2]
      refine ⟨rfl, ?_, ?_⟩
      · rw [war_n _ _ (by decide), war_n _ _ (by decide), war_n _ _ (by decide), war_n _ _ (by decide), war_i _ _ hx, war_n _ _ (by decide), wsc_2]
      · rw [war_n _ _ (by decide), war_n _ _ (by decide), war_n _ _ (by decide), war_i _ _ hx, war_n _ _ (by decide), war_n _ _ (by decide), wsc_2])
    ⟨by rw [wsc_2, war_n _ _ (by decide), war_n _ _ (by decide), war_n _ _ (by decide), war_n _ _ (by decide), war_n _ _ (by decide), war_s]; rfl, fun q => by omega⟩
    (by
      refine (c7.keep (z' := wsc (war (war (war (war (war (war (wsc z 0 (nI (n + 1))) 6 n 0) 7 n (-1)) 8 n (-1)) 0 n (nI n)) 1 n (nI n)) 2 m (nI n)) 1 (nI (m + 1))) ?_ ?_).cong (fun x => ?_) (fun x hx => ?_)
      · rw [wsc_2]; simp only [war_n _ _ (show (9 : Nat) ≠ 2 by decide), war_n _ _ (show (9 : Nat) ≠ 1 by decide), war_n _ _ (show (9 : Nat) ≠ 0 by decide), war_n _ _ (show (9 : Nat) ≠ 8 by decide), war_n _ _ (show (9 : Nat) ≠ 7 by decide), war_n _ _ (show (9 : Nat) ≠ 6 by decide), wsc_2]
      · rw [wsc_2]; simp only [war_n _ _ (show (10 : Nat) ≠ 2 by decide), war_n _ _ (show (10 : Nat) ≠ 1 by decide), war_n _ _ (show (10 : Nat) ≠ 0 by decide), war_n _ _ (show (10 : Nat) ≠ 8 by decide), war_n _ _ (show (10 : Nat) ≠ 7 by decide), war_n _ _ (show (10 : Nat) ≠ 6 by decide), wsc_2]
      · constructor
        · rintro ⟨⟨q1, q2⟩, q3⟩
          by_cases q : x = n
          · rw [q, us_up_s] at q3; omega
          · rw [us_up_n _ q] at q2 q3; exact ⟨⟨by omega, q2⟩, q3⟩
        · rintro ⟨⟨q1, q2⟩, q3⟩
          exact ⟨⟨by omega, by rw [us_up_n _ (by omega)]; exact q2⟩, by rw [us_up_n _ (by omega)]; exact q3⟩
      · have := hx.1.1
        exact ⟨us_up_n _ (by omega), us_up_n _ (by omega), us_up_n _ (by omega)⟩) (by omega)
  exact hX.cong (fun v => ⟨fun q => ⟨q, fun h => by omega⟩, fun q => q.1⟩)
