/-! The law holds: a step, and the run of steps. -/
theorem lgc (x : Int64) : lg_cmp x x = 0 := by
  unfold lg_cmp
  rw [if_neg (fun h : x > x => by
    have h' : x < x := h
    rw [Int64.lt_iff_toInt_lt] at h'
    omega), if_pos rfl]
theorem vpu (g : Nat → Int64) (x : Int64) : vp_updL g (0 : Int32).toNatClampNeg x (0 : Int32).toNatClampNeg = x := by unfold vp_updL; rw [if_pos rfl]
theorem st_int {n : Nat} {C : St → (Nat → Int64) → St → Option Int32} {g : Nat → Int64} {rx : Option ((Nat × Int32) × St)} {rl : Option (Int32 × (St × (Nat → Int64)))} {rm : Option (Int32 × St)} {G : (Nat × Int32) × St → Option (Int32 × (St × (Nat → Int64)))}
    (hl : rl = rx.bind fun q1 => (if q1.1.1 = 0 then some ((0 : Int32), (q1.2, (vp_updL g (0 : Int32).toNatClampNeg ((q1.1.2).toInt64)))) else (if q1.1.1 = 1 then some ((1 : Int32), (q1.2, g)) else G q1))) (h : OK n rx rm) (hC : ∀ z' g' y' n' M', XI z' n' M' → MI y' n' M' → n' ≤ n + 1 → C z' g' y' = some 1) :
    (rl.bind fun q1 => (rm.bind fun q2 => ((f_M_thrown q2.2).bind fun q3 => (if (q3.1) = (q1.1) then (if (q1.1) = 0 then (if (lg_cmp (q1.2.2 (0 : Int32).toNatClampNeg) ((q2.1).toInt64)) = 0 then C q1.2.1 q1.2.2 q3.2 else some 0) else C q1.2.1 q1.2.2 q3.2) else some 0)))) = some 1 := by
  obtain ⟨z', y', n', M', h1, h2, h3, h4⟩ := h
  subst hl
  rcases h4 with ⟨w, e1, e2, e3⟩ | ⟨w, e1, e2, e3⟩
  · subst e1 e2
    simp only [Option.bind_some, f_M_thrown, e3]
    rw [if_pos trivial, Option.bind_some]
    dsimp only
    rw [if_pos rfl, if_pos rfl]
    refine (if_pos ?_).trans (hC _ _ _ _ _ h1 h2 h3)
    rw [vpu]; exact lgc _
  · subst e1 e2
    simp only [Option.bind_some, f_M_thrown, e3]
    rw [if_neg (show ¬ (1 : Nat) = 0 by decide), if_pos trivial, Option.bind_some]
    dsimp only
    rw [if_pos rfl, if_neg (show ¬ (1 : Int32) = 0 by decide)]
    exact hC _ _ _ _ _ h1 h2 h3
theorem st_bool {n : Nat} {C : St → (Nat → Int64) → St → Option Int32} {g : Nat → Int64} {rx : Option ((Nat × Int32) × St)} {rl : Option (Int32 × (St × (Nat → Int64)))} {rm : Option (Int32 × St)} {G : (Nat × Int32) × St → Option (Int32 × (St × (Nat → Int64)))}
    (hl : rl = rx.bind fun q1 => (if q1.1.1 = 0 then (if (q1.1.2) = 0 then some ((0 : Int32), (q1.2, (vp_updL g (0 : Int32).toNatClampNeg ((0 : Int64))))) else some ((0 : Int32), (q1.2, (vp_updL g (0 : Int32).toNatClampNeg ((1 : Int64)))))) else (if q1.1.1 = 1 then some ((1 : Int32), (q1.2, g)) else G q1))) (h : OKb n rx rm) (hC : ∀ z' g' y' n' M', XI z' n' M' → MI y' n' M' → n' ≤ n + 1 → C z' g' y' = some 1) :
    (rl.bind fun q1 => (rm.bind fun q2 => ((f_M_thrown q2.2).bind fun q3 => (if (q3.1) = (q1.1) then (if (q1.1) = 0 then (if (q2.1) = 0 then (if (lg_cmp (q1.2.2 (0 : Int32).toNatClampNeg) ((0 : Int64))) = 0 then C q1.2.1 q1.2.2 q3.2 else some 0) else (if (lg_cmp (q1.2.2 (0 : Int32).toNatClampNeg) ((1 : Int64))) = 0 then C q1.2.1 q1.2.2 q3.2 else some 0)) else C q1.2.1 q1.2.2 q3.2) else some 0)))) = some 1 := by
  obtain ⟨z', y', n', M', h1, h2, h3, h4⟩ := h
  subst hl
  rcases h4 with ⟨w, hw, e1, e2, e3⟩ | ⟨w, e1, e2, e3⟩
  · subst e1 e2
    simp only [Option.bind_some, f_M_thrown, e3]
    rw [if_pos trivial]
    rcases hw with rfl | rfl
    · rw [if_pos rfl, Option.bind_some]
      dsimp only
      rw [if_pos rfl, if_pos rfl, if_pos rfl]
      refine (if_pos ?_).trans (hC _ _ _ _ _ h1 h2 h3)
      rw [vpu]; exact lgc _
    · rw [if_neg (show ¬ (1 : Int32) = 0 by decide), Option.bind_some]
      dsimp only
      rw [if_pos rfl, if_pos rfl, if_neg (show ¬ (1 : Int32) = 0 by decide)]
      refine (if_pos ?_).trans (hC _ _ _ _ _ h1 h2 h3)
      rw [vpu]; exact lgc _
  · subst e1 e2
    simp only [Option.bind_some, f_M_thrown, e3]
    rw [if_neg (show ¬ (1 : Nat) = 0 by decide), if_pos trivial, Option.bind_some]
    dsimp only
    rw [if_pos rfl, if_neg (show ¬ (1 : Int32) = 0 by decide)]
    exact hC _ _ _ _ _ h1 h2 h3
theorem i3' (i : Nat) : nI i + 3 = nI (i + 3) := by rw [i3, nI_add]
theorem i2' (i : Nat) : nI i + 2 = nI (i + 2) := by rw [i2, nI_add]
theorem law_run {L : Nat} {xs : Nat → Int32} (hL : L ≤ 1536) : ∀ (k i : Nat) (z : St) (g : Nat → Int64) (y : St) (n : Nat) (M : (Nat → Nat) → Prop), XI z n M → MI y n M → L - i < k → i ≤ L + 2 → 3 * n ≤ i + 3 → f_L_law L xs k z g y (nI i) = some 1 := by
  intro k
  induction k with
  | zero => intro i z g y n M _ _ h; omega
  | succ k ih =>
    intro i z g y n M hX hM hk hi hn
    rw [f_L_law]
    by_cases q : L < i + 3
    · rw [if_pos]
      rw [Int32.lt_iff_toInt_lt, show Int32.ofNat L = nI L from rfl, nI_toInt (show i < 2 ^ 31 by omega)]
      by_cases q3 : 3 ≤ L
      · obtain ⟨l, rfl⟩ : ∃ l, L = l + 3 := ⟨L - 3, by omega⟩
        have : nI (l + 3) - 3 = nI l := by
          rw [show (3 : Int32) = 1 + 1 + 1 by decide, show nI (l + 3) - (1 + 1 + 1) = nI (l + 3) - 1 - 1 - 1 by
            simp only [Int32.sub_eq_add_neg, Int32.neg_add, Int32.add_assoc]]
          rw [nI_pred, nI_pred, nI_pred]
        rw [this, nI_toInt (by omega)]
        omega
      · have h0 : L = 0 ∨ L = 1 ∨ L = 2 := by omega
        rcases h0 with rfl | rfl | rfl
        · have : (nI 0 - 3).toInt = -3 := by decide
          rw [this]; omega
        · have : (nI 1 - 3).toInt = -2 := by decide
          rw [this]; omega
        · have : (nI 2 - 3).toInt = -1 := by decide
          rw [this]; omega
    · obtain ⟨l, rfl⟩ : ∃ l, L = l + 3 := ⟨L - 3, by omega⟩
      have h3 : nI (l + 3) - 3 = nI l := by
        rw [show (3 : Int32) = 1 + 1 + 1 by decide, show nI (l + 3) - (1 + 1 + 1) = nI (l + 3) - 1 - 1 - 1 by
          simp only [Int32.sub_eq_add_neg, Int32.neg_add, Int32.add_assoc]]
        rw [nI_pred, nI_pred, nI_pred]
      rw [if_neg (by
        rw [Int32.lt_iff_toInt_lt, show Int32.ofNat (l + 3) = nI (l + 3) from rfl, h3, nI_toInt (by omega), nI_toInt (by omega)]
        omega)]
      have hC : ∀ (z' : St) (g' : Nat → Int64) (y' : St) (n' : Nat) (M' : (Nat → Nat) → Prop), XI z' n' M' → MI y' n' M' → n' ≤ n + 1 → f_L_law (l + 3) xs k z' g' y' (nI (i + 3)) = some 1 := fun z' g' y' n' M' h1 h2 h3 => ih (i + 3) z' g' y' n' M' h1 h2 (by omega) (by omega) (by omega)
      have hn6 : n + 1 ≤ 600 := by omega
      simp only [nI_1, i2', i3', ix_f (show i < l + 3 by omega) (show l + 3 < 2 ^ 31 by omega), ix_f (show i + 1 < l + 3 by omega) (show l + 3 < 2 ^ 31 by omega), ix_f (show i + 2 < l + 3 by omega) (show l + 3 < 2 ^ 31 by omega), ix_g (show i < l + 3 by omega) (show l + 3 < 2 ^ 31 by omega), ix_g (show i + 1 < l + 3 by omega) (show l + 3 < 2 ^ 31 by omega), ix_g (show i + 2 < l + 3 by omega) (show l + 3 < 2 ^ 31 by omega), cl_ (show i < 2 ^ 31 by omega), cl_ (show i + 1 < 2 ^ 31 by omega), cl_ (show i + 2 < 2 ^ 31 by omega)]
      generalize hop : xs i &&& 15 = op
      by_cases o0 : op = 0
      · rw [if_pos o0]
        obtain ⟨z', y', w, e1, e2, e3, e4, e5⟩ := ok_free hX hM hn6
        have hl : f_L_free z g = some (0, (z', vp_updL g (0 : Int32).toNatClampNeg w.toInt64)) := by
          unfold f_L_free; rw [e1, Option.bind_some]; rfl
        rw [hl, e2]
        simp only [Option.bind_some, f_M_thrown, e3]
        rw [if_pos trivial, if_pos trivial, vpu, lgc, if_pos rfl]
        exact hC _ _ _ _ _ e4 e5 (Nat.le_refl _)
      rw [if_neg o0]
      by_cases o1 : op = 1
      · rw [if_pos o1]
        exact st_int (C := fun z g y => f_L_law (l + 3) xs k z g y (nI (i + 3))) rfl (ok_sum hX hM hn6) hC
      rw [if_neg o1]
      by_cases o2 : op = 2
      · rw [if_pos o2]
        exact st_int (C := fun z g y => f_L_law (l + 3) xs k z g y (nI (i + 3))) rfl (ok_pair hX hM hn6) hC
      rw [if_neg o2]
      by_cases o3 : op = 3
      · rw [if_pos o3]
        exact st_bool (C := fun z g y => f_L_law (l + 3) xs k z g y (nI (i + 3))) rfl (ok_join hX hM) hC
      rw [if_neg o3]
      by_cases o4 : op = 4
      · rw [if_pos o4]
        exact st_bool (C := fun z g y => f_L_law (l + 3) xs k z g y (nI (i + 3))) rfl (ok_alike hX hM) hC
      rw [if_neg o4]
      by_cases o5 : op = 5
      · rw [if_pos o5]
        exact st_bool (C := fun z g y => f_L_law (l + 3) xs k z g y (nI (i + 3))) rfl (ok_same hX hM) hC
      rw [if_neg o5]
      by_cases o6 : op = 6
      · rw [if_pos o6]
        exact st_bool (C := fun z g y => f_L_law (l + 3) xs k z g y (nI (i + 3))) rfl (ok_renamed hX hM) hC
      rw [if_neg o6]
      by_cases o7 : op = 7
      · rw [if_pos o7]
        exact st_int (C := fun z g y => f_L_law (l + 3) xs k z g y (nI (i + 3))) rfl (ok_kind hX hM) hC
      rw [if_neg o7]
      by_cases o8 : op = 8
      · rw [if_pos o8]
        by_cases x2 : xs (i + 2) = 0
        · simp only [if_pos x2]
          exact st_int (C := fun z g y => f_L_law (l + 3) xs k z g y (nI (i + 3))) rfl (ok_part hX hM) hC
        · simp only [if_neg x2]
          exact st_int (C := fun z g y => f_L_law (l + 3) xs k z g y (nI (i + 3))) rfl (ok_part hX hM) hC
      rw [if_neg o8]
      by_cases o9 : op = 9
      · rw [if_pos o9]
        exact st_int (C := fun z g y => f_L_law (l + 3) xs k z g y (nI (i + 3))) rfl (ok_size hX hM) hC
      rw [if_neg o9]
      by_cases o10 : op = 10
      · rw [if_pos o10]
        exact st_int (C := fun z g y => f_L_law (l + 3) xs k z g y (nI (i + 3))) rfl (ok_values hX hM) hC
      rw [if_neg o10]
      by_cases o11 : op = 11
      · rw [if_pos o11]
        exact st_int (C := fun z g y => f_L_law (l + 3) xs k z g y (nI (i + 3))) rfl (ok_frees hX hM) hC
      rw [if_neg o11]
      by_cases o12 : op = 12
      · rw [if_pos o12]
        obtain ⟨z', y', w, e1, e2, e3, e4⟩ := ok_clear hX hM
        rw [e1, e2]
        simp only [Option.bind_some]
        rw [if_pos trivial]
        exact hC _ _ _ _ _ e3 e4 (by omega)
      rw [if_neg o12]
      by_cases o13 : op = 13
      · rw [if_pos o13]
        obtain ⟨z', y', w, e1, e2, e3, e4⟩ := ok_count (a := xs (i + 1)) hX hM
        rw [e1, e2]
        simp only [Option.bind_some]
        rw [if_pos trivial]
        exact hC _ _ _ _ _ e3 e4 (by omega)
      rw [if_neg o13]
      exact hC _ _ _ _ _ hX hM (by omega)
theorem lawok : LawOk := by
  intro L xs hL
  obtain ⟨zx, a1, a2⟩ := s_begin z00
  obtain ⟨zy, b1, b2, -⟩ := m_begin z00
  refine ⟨zx, zy, a1, b1, ?_⟩
  have := law_run (xs := xs) hL FU 0 zx (fun _ => 0) zy 1 (fun v => v 0 = 1) a2 b2 (by unfold FU; omega) (by omega) (by omega)
  rw [nI_0] at this
  exact this
