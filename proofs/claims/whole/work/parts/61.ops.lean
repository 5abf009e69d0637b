/-! Both sides together: each call. -/
/-- the same answer, and again states that stand for the same -/
def OK (n : Nat) (rx : Option ((Nat × Int32) × St)) (rm : Option (Int32 × St)) : Prop :=
  ∃ z' y' n' M', XI z' n' M' ∧ MI y' n' M' ∧ n' ≤ n + 1 ∧ ((∃ w, rx = some ((0, w), z') ∧ rm = some (w, y') ∧ y'.1 0 = 0) ∨ (∃ w, rx = some ((1, 0), z') ∧ rm = some (w, y') ∧ y'.1 0 = 1))
theorem ok_no {n : Nat} {z : St} {M : (Nat → Nat) → Prop} {rx : Option ((Nat × Int32) × St)} {rm : Option (Int32 × St)} (hx : XI z n M) (h1 : rx = some ((1, 0), z)) (h2 : ∃ z', rm = some (0, z') ∧ z'.1 0 = 1 ∧ MI z' n M) : OK n rx rm := by
  obtain ⟨z', e1, e2, e3⟩ := h2
  exact ⟨z, z', n, M, hx, e3, by omega, Or.inr ⟨0, h1, e1, e2⟩⟩
theorem ok_free {z y : St} {n : Nat} {M : (Nat → Nat) → Prop} (hx : XI z n M) (hy : MI y n M) (hn : n + 1 ≤ 600) : ∃ z' y' w, f_X_free z = some ((0, w), z') ∧ f_M_free y = some (w, y') ∧ y'.1 0 = 0 ∧ XI z' (n + 1) M ∧ MI y' (n + 1) M := by
  obtain ⟨z', a1, a2⟩ := s_free hx hn
  obtain ⟨y', b1, b2, b3⟩ := m_free hy hn
  exact ⟨z', y', _, a1, b1, b3, a2, b2⟩
theorem ok_sum {z y : St} {n : Nat} {a b : Int32} {M : (Nat → Nat) → Prop} (hx : XI z n M) (hy : MI y n M) (hn : n + 1 ≤ 600) : OK n (f_X_sum z a b) (f_M_sum y a b) := by
  rcases is_T a (show n ≤ 600 by omega) with ha | ⟨s, hs, rfl⟩
  · exact ok_no hx (s_sum_no hx (Or.inl ha)) (m_sum_no hy (Or.inl ha))
  · rcases is_T b (show n ≤ 600 by omega) with hb | ⟨t, ht, rfl⟩
    · exact ok_no hx (s_sum_no hx (Or.inr hb)) (m_sum_no hy (Or.inr hb))
    · obtain ⟨z', a1, a2⟩ := s_sum hx hn hs ht
      obtain ⟨y', b1, b2, b3⟩ := m_sum hy hn hs ht
      exact ⟨z', y', n + 1, _, a2, b2, by omega, Or.inl ⟨_, a1, b1, b3⟩⟩
theorem ok_pair {z y : St} {n : Nat} {a b : Int32} {M : (Nat → Nat) → Prop} (hx : XI z n M) (hy : MI y n M) (hn : n + 1 ≤ 600) : OK n (f_X_pair z a b) (f_M_pair y a b) := by
  rcases is_T a (show n ≤ 600 by omega) with ha | ⟨s, hs, rfl⟩
  · exact ok_no hx (s_pair_no hx (Or.inl ha)) (m_pair_no hy (Or.inl ha))
  · rcases is_T b (show n ≤ 600 by omega) with hb | ⟨t, ht, rfl⟩
    · exact ok_no hx (s_pair_no hx (Or.inr hb)) (m_pair_no hy (Or.inr hb))
    · obtain ⟨z', a1, a2⟩ := s_pair hx hn hs ht
      obtain ⟨y', b1, b2, b3⟩ := m_pair hy hn hs ht
      exact ⟨z', y', n + 1, _, a2, b2, by omega, Or.inl ⟨_, a1, b1, b3⟩⟩
/-- .. of calls that answer yes or no -/
def OKb (n : Nat) (rx : Option ((Nat × Int32) × St)) (rm : Option (Int32 × St)) : Prop :=
  ∃ z' y' n' M', XI z' n' M' ∧ MI y' n' M' ∧ n' ≤ n + 1 ∧ ((∃ w, (w = 0 ∨ w = 1) ∧ rx = some ((0, w), z') ∧ rm = some (w, y') ∧ y'.1 0 = 0) ∨ (∃ w, rx = some ((1, 0), z') ∧ rm = some (w, y') ∧ y'.1 0 = 1))
theorem okb_no {n : Nat} {z : St} {M : (Nat → Nat) → Prop} {rx : Option ((Nat × Int32) × St)} {rm : Option (Int32 × St)} (hx : XI z n M) (h1 : rx = some ((1, 0), z)) (h2 : ∃ z', rm = some (0, z') ∧ z'.1 0 = 1 ∧ MI z' n M) : OKb n rx rm := by
  obtain ⟨z', e1, e2, e3⟩ := h2
  exact ⟨z, z', n, M, hx, e3, by omega, Or.inr ⟨0, h1, e1, e2⟩⟩
theorem MI.some {y : St} {n : Nat} {M : (Nat → Nat) → Prop} (h : MI y n M) : ∃ v, M v := by
  obtain ⟨K, L, R, o, r, d, hD, -⟩ := h
  exact hD.2.2.2.2.2.2.2.2.2
theorem ok_join {z y : St} {n : Nat} {a b : Int32} {M : (Nat → Nat) → Prop} (hx : XI z n M) (hy : MI y n M) : OKb n (f_X_join z a b) (f_M_join y a b) := by
  obtain ⟨h0, h1, h6⟩ := hx.made
  rcases is_T a h6 with ha | ⟨s, hs, rfl⟩
  · exact okb_no hx (s_join_no hx (Or.inl ha)) (m_join_no hy (Or.inl ha))
  · rcases is_T b h6 with hb | ⟨t, ht, rfl⟩
    · exact okb_no hx (s_join_no hx (Or.inr hb)) (m_join_no hy (Or.inr hb))
    · obtain ⟨z', w1, a1, a2⟩ := s_join hx hs ht
      obtain ⟨y', w2, b1, b2, b3⟩ := m_join hy hs ht
      rcases a2 with ⟨rfl, a3, a4⟩ | ⟨rfl, a3, v, a4, a5⟩
      · rcases b3 with ⟨rfl, b4, b5⟩ | ⟨rfl, b4⟩
        · exact ⟨z', y', n, M, a3, b4, by omega, Or.inl ⟨0, Or.inl rfl, a1, b1, b2⟩⟩
        · obtain ⟨v, v1, v2⟩ := b4.some
          exact (a4 v v1 v2).elim
      · rcases b3 with ⟨rfl, b4, b5⟩ | ⟨rfl, b4⟩
        · exact (b5 v a4 a5).elim
        · exact ⟨z', y', n, _, a3, b4, by omega, Or.inl ⟨1, Or.inr rfl, a1, b1, b2⟩⟩
theorem ok_alike {z y : St} {n : Nat} {a b : Int32} {M : (Nat → Nat) → Prop} (hx : XI z n M) (hy : MI y n M) : OKb n (f_X_alike z a b) (f_M_alike y a b) := by
  obtain ⟨h0, h1, h6⟩ := hx.made
  rcases is_T a h6 with ha | ⟨s, hs, rfl⟩
  · exact okb_no hx (s_alike_no hx (Or.inl ha)) (m_alike_no hy (Or.inl ha))
  · rcases is_T b h6 with hb | ⟨t, ht, rfl⟩
    · exact okb_no hx (s_alike_no hx (Or.inr hb)) (m_alike_no hy (Or.inr hb))
    · obtain ⟨z', w1, a1, a2, a3⟩ := s_alike hx hs ht
      obtain ⟨y', w2, b1, b2, b3, b4⟩ := m_alike hy hs ht
      rcases a3 with ⟨rfl, a4⟩ | ⟨rfl, v, a4, a5⟩
      · rcases b4 with ⟨rfl, b5⟩ | ⟨rfl, v, v1, v2⟩
        · exact ⟨z', y', n, M, a2, b3, by omega, Or.inl ⟨0, Or.inl rfl, a1, b1, b2⟩⟩
        · exact (a4 v v1 v2).elim
      · rcases b4 with ⟨rfl, b5⟩ | ⟨rfl, v, v1, v2⟩
        · exact (b5 v a4 a5).elim
        · exact ⟨z', y', n, M, a2, b3, by omega, Or.inl ⟨1, Or.inr rfl, a1, b1, b2⟩⟩
theorem ok_same {z y : St} {n : Nat} {a b : Int32} {M : (Nat → Nat) → Prop} (hx : XI z n M) (hy : MI y n M) : OKb n (f_X_same z a b) (f_M_same y a b) := by
  obtain ⟨h0, h1, h6⟩ := hx.made
  rcases is_T a h6 with ha | ⟨s, hs, rfl⟩
  · exact okb_no hx (s_same_no hx (Or.inl ha)) (m_same_no hy (Or.inl ha))
  · rcases is_T b h6 with hb | ⟨t, ht, rfl⟩
    · exact okb_no hx (s_same_no hx (Or.inr hb)) (m_same_no hy (Or.inr hb))
    · obtain ⟨w1, a1, a2⟩ := s_same hx hs ht
      obtain ⟨y', w2, b1, b2, b3, b4⟩ := m_same hy hs ht
      rcases a2 with ⟨rfl, a3⟩ | ⟨rfl, a3⟩
      · rcases b4 with ⟨rfl, b5⟩ | ⟨rfl, b5⟩
        · exact ⟨z, y', n, M, hx, b3, by omega, Or.inl ⟨1, Or.inr rfl, a1, b1, b2⟩⟩
        · exact absurd a3 b5
      · rcases b4 with ⟨rfl, b5⟩ | ⟨rfl, b5⟩
        · exact absurd b5 a3
        · exact ⟨z, y', n, M, hx, b3, by omega, Or.inl ⟨0, Or.inl rfl, a1, b1, b2⟩⟩
theorem ok_renamed {z y : St} {n : Nat} {a b : Int32} {M : (Nat → Nat) → Prop} (hx : XI z n M) (hy : MI y n M) : OKb n (f_X_renamed z a b) (f_M_renamed y a b) := by
  obtain ⟨h0, h1, h6⟩ := hx.made
  rcases is_T a h6 with ha | ⟨s, hs, rfl⟩
  · exact okb_no hx (s_renamed_no hx (Or.inl ha)) (m_renamed_no hy (Or.inl ha))
  · rcases is_T b h6 with hb | ⟨t, ht, rfl⟩
    · exact okb_no hx (s_renamed_no hx (Or.inr hb)) (m_renamed_no hy (Or.inr hb))
    · obtain ⟨m, ld, ls, od, K, F, S, ps, e, hD⟩ := hx
      obtain ⟨z', w1, a1, a2, a3⟩ := s_renamed hD hs ht
      obtain ⟨y', w2, N, c, K', F', S', ls', b1, b2, b3, b4, b5⟩ := m_renamed hy hs ht
      have c8 := hD.2.2.2.2.2.2.2.2.2.1
      have c9 := hD.2.2.2.2.2.2.2.2.2.2.1
      have u5 := b4.2.2.2.1
      have u6 := b4.2.2.2.2
      have hX : XI z' n M := ⟨m, ld, ls, od, K, F, S, ps, e, a2⟩
      rcases a3 with ⟨rfl, Q, a4, a5⟩ | ⟨rfl, a4⟩
      · rcases b5 with ⟨rfl, b6⟩ | ⟨rfl, b6⟩
        · exact ⟨z', y', n, M, hX, b3, by omega, Or.inl ⟨1, Or.inr rfl, a1, b1, b2⟩⟩
        · obtain ⟨Q', q1, q2⟩ := gB_tr c8 c9 u5 u6 hs ht a4 a5
          exact (b6 Q' q1 q2).elim
      · rcases b5 with ⟨rfl, Q, b6, b7⟩ | ⟨rfl, b6⟩
        · obtain ⟨Q', q1, q2⟩ := gB_tr u5 u6 c8 c9 hs ht b6 b7
          exact (a4 Q' q1 q2).elim
        · exact ⟨z', y', n, M, hX, b3, by omega, Or.inl ⟨0, Or.inl rfl, a1, b1, b2⟩⟩
theorem ok_kind {z y : St} {n : Nat} {a : Int32} {M : (Nat → Nat) → Prop} (hx : XI z n M) (hy : MI y n M) : OK n (f_X_kind z a) (f_M_kind y a) := by
  obtain ⟨h0, h1, h6⟩ := hx.made
  rcases is_T a h6 with ha | ⟨t, ht, rfl⟩
  · exact ok_no hx (s_one_no hx ha).1 (m_one_no hy ha).1
  · obtain ⟨m, ld, ls, od, K, F, S, ps, e, hD⟩ := id hx
    obtain ⟨y', N, c, K', F', S', ls', b1, b2, b3, b4⟩ := m_kind hy ht
    have hk := cf_kind hD.2.2.2.2.2.2.2.2.2.1 hD.2.2.2.2.2.2.2.2.2.2.1 b4.2.2.2.1 b4.2.2.2.2 (x := ld t) (y := c t) ⟨t, ht, rfl, rfl⟩
    refine ⟨z, y', n, M, hx, b3, by omega, Or.inl ⟨nI (K (ld t)), s_kind hD ht, ?_, b2⟩⟩
    rw [b1, hk]
theorem ok_part {z y : St} {n : Nat} {a b : Int32} {M : (Nat → Nat) → Prop} (hx : XI z n M) (hy : MI y n M) : OK n (f_X_part z a b) (f_M_part y a b) := by
  obtain ⟨h0, h1, h6⟩ := hx.made
  rcases is_T a h6 with ha | ⟨t, ht, rfl⟩
  · exact ok_no hx ((s_one_no hx ha).2.1 b) ((m_one_no hy ha).2.1 b)
  · obtain ⟨m, ld, ls, od, K, F, S, ps, e, hD⟩ := id hx
    obtain ⟨y', N, c, K', F', S', ls', b1, b2, b3, b4⟩ := m_part (b := b) hy ht
    have c4 := hD.2.2.2.2.2.1
    have c8 := hD.2.2.2.2.2.2.2.2.2.1
    have c9 := hD.2.2.2.2.2.2.2.2.2.2.1
    have u5 := b4.2.2.2.1
    have u6 := b4.2.2.2.2
    have hr : cf_re n ld c (ld t) (c t) := ⟨t, ht, rfl, rfl⟩
    have hk := cf_kind c8 c9 u5 u6 hr
    have a1 := s_part (b := b) hD ht
    by_cases q : 2 ≤ K (ld t)
    · rw [if_pos q] at a1
      rw [← hk, if_pos q] at b1 b2
      obtain ⟨r1, r2⟩ := cf_parts c8 c9 u5 u6 hr q
      have key : ∀ x i, LD n ld x → i < N → cf_re n ld c x i → ls x = ls' i := fun x i hx hi hxi => by
        obtain ⟨-, l1, l2, l3⟩ := c4 x hx
        obtain ⟨-, -, -, l4, l5, l6⟩ := b4.2.2.1 i hi
        have e1 : c (ls x) = i := by
          have := (cf_one c8 c9 u5 u6 (x := ld (ls x)) (y := c (ls x)) ⟨ls x, l1, rfl, rfl⟩ hxi).mp l2
          exact this
        have e2 : ld (ls' i) = x := by
          have := (cf_one c8 c9 u5 u6 (x := ld (ls' i)) (y := c (ls' i)) ⟨ls' i, l4, rfl, rfl⟩ hxi).mpr l5
          exact this
        rcases Nat.lt_trichotomy (ls x) (ls' i) with h | h | h
        · exact absurd e1 (l6 _ h)
        · exact h
        · exact absurd e2 (l3 _ h)
      obtain ⟨p1, p2, -, -⟩ := (c8.2.2.1 _ (c8.1 t ht)).2 q
      obtain ⟨p3, p4, -, -⟩ := (u5.2.2.1 _ (u5.1 t ht)).2 (by rw [← hk]; exact q)
      refine ⟨z, y', n, M, hx, b3, by omega, Or.inl ⟨_, a1, ?_, b2⟩⟩
      rw [b1]
      by_cases qb : b = 0
      · rw [if_pos qb, if_pos qb, key _ _ p1 p3 r1]
      · rw [if_neg qb, if_neg qb, key _ _ p2 p4 r2]
    · rw [if_neg q] at a1
      rw [← hk, if_neg q] at b1 b2
      exact ⟨z, y', n, M, hx, b3, by omega, Or.inr ⟨0, a1, b1, b2⟩⟩
theorem ok_size {z y : St} {n : Nat} {a : Int32} {M : (Nat → Nat) → Prop} (hx : XI z n M) (hy : MI y n M) : OK n (f_X_size z a) (f_M_size y a) := by
  obtain ⟨h0, h1, h6⟩ := hx.made
  rcases is_T a h6 with ha | ⟨t, ht, rfl⟩
  · exact ok_no hx (s_one_no hx ha).2.2.1 (m_one_no hy ha).2.2.1
  · obtain ⟨m, ld, ls, od, K, F, S, ps, e, hD⟩ := hx
    obtain ⟨z', f, a1, a2, a3⟩ := s_size hD ht
    obtain ⟨y', N, c, K', F', S', ls', f', b1, b2, b3, b4, b5⟩ := m_size hy ht
    have := cf_meas hD.2.2.2.2.2.2.2.2.2.1 hD.2.2.2.2.2.2.2.2.2.2.1 b4.2.2.2.1 b4.2.2.2.2 gS_low a2 b5 (ps (ld t) + 1) (ld t) (c t) (Nat.lt_succ_self _) ⟨t, ht, rfl, rfl⟩
    exact ⟨z', y', n, M, ⟨m, ld, ls, od, K, F, S, ps, e, a3⟩, b3, by omega, Or.inl ⟨f (ld t), a1, by rw [b1, this], b2⟩⟩
theorem ok_values {z y : St} {n : Nat} {a : Int32} {M : (Nat → Nat) → Prop} (hx : XI z n M) (hy : MI y n M) : OK n (f_X_values z a) (f_M_values y a) := by
  obtain ⟨h0, h1, h6⟩ := hx.made
  rcases is_T a h6 with ha | ⟨t, ht, rfl⟩
  · exact ok_no hx (s_one_no hx ha).2.2.2.1 (m_one_no hy ha).2.2.2.1
  · obtain ⟨m, ld, ls, od, K, F, S, ps, e, hD⟩ := hx
    obtain ⟨z', f, a1, a2, a3⟩ := s_values hD ht
    obtain ⟨y', N, c, K', F', S', ls', f', b1, b2, b3, b4, b5⟩ := m_values hy ht
    have := cf_meas hD.2.2.2.2.2.2.2.2.2.1 hD.2.2.2.2.2.2.2.2.2.2.1 b4.2.2.2.1 b4.2.2.2.2 gV_low a2 b5 (ps (ld t) + 1) (ld t) (c t) (Nat.lt_succ_self _) ⟨t, ht, rfl, rfl⟩
    exact ⟨z', y', n, M, ⟨m, ld, ls, od, K, F, S, ps, e, a3⟩, b3, by omega, Or.inl ⟨f (ld t), a1, by rw [b1, this], b2⟩⟩
theorem ok_frees {z y : St} {n : Nat} {a : Int32} {M : (Nat → Nat) → Prop} (hx : XI z n M) (hy : MI y n M) : OK n (f_X_frees z a) (f_M_frees y a) := by
  obtain ⟨h0, h1, h6⟩ := hx.made
  rcases is_T a h6 with ha | ⟨t, ht, rfl⟩
  · exact ok_no hx (s_one_no hx ha).2.2.2.2 (m_one_no hy ha).2.2.2.2
  · obtain ⟨m, ld, ls, od, K, F, S, ps, e, hD⟩ := hx
    obtain ⟨z', A, a1, a2, a3⟩ := s_frees hD ht
    obtain ⟨y', N, c, K', F', S', ls', A', b1, b2, b3, b4, b5⟩ := m_frees hy ht
    have c8 := hD.2.2.2.2.2.2.2.2.2.1
    have c9 := hD.2.2.2.2.2.2.2.2.2.2.1
    have u5 := b4.2.2.2.1
    have u6 := b4.2.2.2.2
    have := cnt_eq a3 b4 (p := fun x => A x && decide (K x = 0)) (q := fun j => A' j && decide (K' j = 0)) (fun x i hr => by
      have e1 : A x = A' i := by
        cases q : A x with
        | true => exact (cf_rch c8 c9 u5 u6 ht a2 b5 x q i hr).symm
        | false =>
          cases q' : A' i with
          | false => rfl
          | true => rw [← q]; exact (cf_rch u5 u6 c8 c9 ht b5 a2 i q' x hr.flip)
      rw [e1, cf_kind c8 c9 u5 u6 hr])
    exact ⟨z', y', n, M, ⟨m, ld, ls, od, K, F, S, ps, e, a3⟩, b3, by omega, Or.inl ⟨_, a1, by rw [b1, this], b2⟩⟩
theorem ok_count {z y : St} {n : Nat} {a : Int32} {M : (Nat → Nat) → Prop} (hx : XI z n M) (hy : MI y n M) : ∃ z' y' w, f_X_count z a = some (w, z') ∧ f_M_count y a = some (w, y') ∧ XI z' n M ∧ MI y' n M := by
  obtain ⟨m, ld, ls, od, K, F, S, ps, e, hD⟩ := id hx
  obtain ⟨y', N, c, K', F', S', ls', b1, b2, b3⟩ := m_count (a := a) hy
  have c8 := hD.2.2.2.2.2.2.2.2.2.1
  have c9 := hD.2.2.2.2.2.2.2.2.2.2.1
  have u5 := b3.2.2.2.1
  have u6 := b3.2.2.2.2
  have e1 := cnt_eq hD b3 (p := fun _ => true) (q := fun _ => true) (fun _ _ _ => rfl)
  rw [ct_true, ct_true] at e1
  have e2 := cnt_eq hD b3 (p := fun x => decide (K x = 0)) (q := fun j => decide (K' j = 0)) (fun x i hr => by rw [cf_kind c8 c9 u5 u6 hr])
  refine ⟨z, y', _, s_count hD, ?_, hx, b2⟩
  rw [b1, e2, e1]
theorem ok_clear {z y : St} {n : Nat} {M : (Nat → Nat) → Prop} (hx : XI z n M) (hy : MI y n M) : ∃ z' y' w, f_X_clear z = some (w, z') ∧ f_M_clear y = some (w, y') ∧ XI z' 1 (fun v => v 0 = 1) ∧ MI y' 1 (fun v => v 0 = 1) := by
  obtain ⟨z', a1, a2⟩ := s_clear hx
  obtain ⟨y', b1, b2, b3⟩ := m_clear hy
  exact ⟨z', y', _, a1, b1, a2, b2⟩
