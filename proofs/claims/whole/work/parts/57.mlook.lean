/-! The reference: same, kind, part, size, values. -/
theorem MI.keepX {y y' : St} {n : Nat} {M : (Nat → Nat) → Prop} (h : MI y n M) (h1 : ∀ k, k ≠ 0 → y'.1 k = y.1 k) (hk : ∀ k, k < 10 → y'.2 k = y.2 k) : MI y' n M := h.keep h1 (fun k q _ => hk k q)
theorem m_two_no' {y : St} {n : Nat} {a b : Int32} {M : (Nat → Nat) → Prop} (h : MI y n M) (hab : noT n a ∨ noT n b) {g : Int32 × St → Int32 × St → Option (Int32 × St)} :
    ∃ z', ((f_M_unknown y a).bind fun q1 => (if q1.1 = 0 then ((f_M_none q1.2 b).bind fun q2 => (if q2.1 = 0 then g q1 q2 else some ((0 : Int32), q2.2))) else some ((0 : Int32), q1.2))) = some (0, z') ∧ z'.1 0 = 1 ∧ MI z' n M := by
  obtain ⟨h1, h2, h6⟩ := h.types
  rcases is_T a h6 with ha | ⟨s, hs, rfl⟩
  · obtain ⟨z', e1, e2, e3⟩ := m_unknown_no h ha
    rw [e1, Option.bind_some]
    exact ⟨z', rfl, e3, e2⟩
  · obtain ⟨z1, N, c, K', F', S', ls, e1, e2, -, -⟩ := m_unknown h hs
    rw [e1, Option.bind_some]
    dsimp only
    rw [if_pos rfl]
    rcases hab with hab | hb
    · exact absurd hab (notT h6 hs)
    · rw [m_none_no e2.types.1 hb, Option.bind_some]
      exact ⟨_, rfl, wsc_s _ _ _, e2.keepX (fun k hk => by rw [wsc_n _ _ hk, wsc_n _ _ hk]) (fun _ _ => rfl)⟩
theorem m_same_no {y : St} {n : Nat} {a b : Int32} {M : (Nat → Nat) → Prop} (h : MI y n M) (hab : noT n a ∨ noT n b) : ∃ z', f_M_same y a b = some (0, z') ∧ z'.1 0 = 1 ∧ MI z' n M := by
  unfold f_M_same
  exact m_two_no' h hab (g := fun q1 q2 => (if (a) < 0 ∨ 1000 ≤ (a).toNatClampNeg then none else (if (b) < 0 ∨ 1000 ≤ (b).toNatClampNeg then none else (if (q2.2.2 5 (a).toNatClampNeg) = (q2.2.2 5 (b).toNatClampNeg) then some ((1 : Int32), q2.2) else some ((0 : Int32), q2.2)))))
theorem m_renamed_no {y : St} {n : Nat} {a b : Int32} {M : (Nat → Nat) → Prop} (h : MI y n M) (hab : noT n a ∨ noT n b) : ∃ z', f_M_renamed y a b = some (0, z') ∧ z'.1 0 = 1 ∧ MI z' n M := by
  unfold f_M_renamed
  exact m_two_no' h hab (g := fun q1 q2 => f_M_renamed_l20 FU q2.2 ((0 : Int32)) (a) (b))
theorem m_one_no {y : St} {n : Nat} {a : Int32} {M : (Nat → Nat) → Prop} (h : MI y n M) (ha : noT n a) : (∃ z', f_M_kind y a = some (0, z') ∧ z'.1 0 = 1 ∧ MI z' n M) ∧ (∀ b, ∃ z', f_M_part y a b = some (0, z') ∧ z'.1 0 = 1 ∧ MI z' n M) ∧ (∃ z', f_M_size y a = some (0, z') ∧ z'.1 0 = 1 ∧ MI z' n M) ∧ (∃ z', f_M_values y a = some (0, z') ∧ z'.1 0 = 1 ∧ MI z' n M) ∧ (∃ z', f_M_frees y a = some (0, z') ∧ z'.1 0 = 1 ∧ MI z' n M) := by
  obtain ⟨z', e1, e2, e3⟩ := m_unknown_no h ha
  unfold f_M_kind f_M_part f_M_size f_M_values f_M_frees
  rw [e1]
  exact ⟨⟨z', rfl, e3, e2⟩, fun _ => ⟨z', rfl, e3, e2⟩, ⟨z', rfl, e3, e2⟩, ⟨z', rfl, e3, e2⟩, ⟨z', rfl, e3, e2⟩⟩
theorem NU.cn {y : St} {n N t : Nat} {M : (Nat → Nat) → Prop} {c K F S ls : Nat → Nat} (h : NU y n M N c K F S ls) (ht : t < n) : c t < N := h.2.2.2.1.1 t ht
theorem m_same {y : St} {n s t : Nat} {M : (Nat → Nat) → Prop} (h : MI y n M) (hs : s < n) (ht : t < n) : ∃ z' res, f_M_same y (nI s) (nI t) = some (res, z') ∧ z'.1 0 = 0 ∧ MI z' n M ∧ ((res = 1 ∧ ∀ v, M v → v s = v t) ∨ (res = 0 ∧ ¬ ∀ v, M v → v s = v t)) := by
  obtain ⟨z1, N, c, K', F', S', ls, e1, e2, e3, e4⟩ := m_unknown h hs
  obtain ⟨h1, h2, h6⟩ := e2.types
  unfold f_M_same
  rw [e1, Option.bind_some]
  dsimp only
  rw [if_pos rfl, m_none_ok h1 h6 ht, Option.bind_some]
  dsimp only
  have cs := e3.cn hs
  have ct := e3.cn ht
  have hN := e3.1.2
  rw [if_pos rfl, ix_f (by omega) (by decide), ix_f (by omega) (by decide), cl_ (by omega), cl_ (by omega), wsc_2, e3.2.1 s hs, e3.2.1 t ht]
  simp only [neq (show c s < 2 ^ 31 by omega) (show c t < 2 ^ 31 by omega)]
  have hc := cf_same e3.2.2.2.1 e3.2.2.2.2 hs ht
  have hm : MI (wsc z1 0 0) n M := e2.keepX (fun k hk => wsc_n _ _ hk) (fun _ _ => rfl)
  by_cases q : c s = c t
  · rw [if_pos q]; exact ⟨_, 1, rfl, wsc_s _ _ _, hm, Or.inl ⟨rfl, hc.mpr q⟩⟩
  · rw [if_neg q]; exact ⟨_, 0, rfl, wsc_s _ _ _, hm, Or.inr ⟨rfl, fun p => q (hc.mp p)⟩⟩
theorem m_kind {y : St} {n t : Nat} {M : (Nat → Nat) → Prop} (h : MI y n M) (ht : t < n) : ∃ z' N c K' F' S' ls, f_M_kind y (nI t) = some (nI (K' (c t)), z') ∧ z'.1 0 = 0 ∧ MI z' n M ∧ NU z' n M N c K' F' S' ls := by
  obtain ⟨z1, N, c, K', F', S', ls, e1, e2, e3, e4⟩ := m_unknown h ht
  obtain ⟨h1, h2, h6⟩ := e2.types
  have ct := e3.cn ht
  have hN := e3.1.2
  unfold f_M_kind
  rw [e1, Option.bind_some]
  dsimp only
  rw [if_pos rfl, ix_f (by omega) (by decide), cl_ (by omega), e3.2.1 t ht, ix_f (by omega) (by decide), cl_ (by omega), (e3.2.2.1 _ ct).1]
  exact ⟨z1, N, c, K', F', S', ls, rfl, e4, e2, e3⟩
theorem le2 {k : Nat} (h : k < 2 ^ 31) : (2 : Int32) ≤ nI k ↔ 2 ≤ k := by
  rw [i2, Int32.le_iff_toInt_le, nI_toInt (by omega), nI_toInt (by omega)]
  omega
theorem m_part {y : St} {n t : Nat} {b : Int32} {M : (Nat → Nat) → Prop} (h : MI y n M) (ht : t < n) : ∃ z' N c K' F' S' ls, f_M_part y (nI t) b = some (if 2 ≤ K' (c t) then nI (ls (if b = 0 then F' (c t) else S' (c t))) else 0, z') ∧ z'.1 0 = (if 2 ≤ K' (c t) then 0 else 1) ∧ MI z' n M ∧ NU z' n M N c K' F' S' ls := by
  obtain ⟨z1, N, c, K', F', S', ls, e1, e2, e3, e4⟩ := m_unknown h ht
  obtain ⟨h1, h2, h6⟩ := e2.types
  have ct := e3.cn ht
  have hN := e3.1.2
  obtain ⟨r6, r7, r9, -⟩ := e3.2.2.1 _ ct
  have k4 := (e3.2.2.2.1.2.2.1 _ ct).1
  unfold f_M_part
  rw [e1, Option.bind_some]
  dsimp only
  rw [if_pos rfl, ix_f (by omega) (by decide), cl_ (by omega), e3.2.1 t ht, ix_f (by omega) (by decide), cl_ (by omega), r6, m_refuse_n, m_refuse_y]
  simp only [le2 (show K' (c t) < 2 ^ 31 by omega), Option.bind_some]
  by_cases q : 2 ≤ K' (c t)
  · obtain ⟨p1, p2⟩ := r7 q
    obtain ⟨q1, q2, q3, q4⟩ := (e3.2.2.2.1.2.2.1 _ ct).2 q
    have q1' : F' (c t) < N := q1
    have q2' : S' (c t) < N := q2
    rw [if_pos q, if_pos trivial]
    simp only [ix_g (show t < 1000 by omega) (show 1000 < 2 ^ 31 by decide), e3.2.1 t ht, ix_g (show c t < 1000 by omega) (show 1000 < 2 ^ 31 by decide), cl_ (show c t < 2 ^ 31 by omega), p1, p2, ix_g (show F' (c t) < 1000 by omega) (show 1000 < 2 ^ 31 by decide), ix_g (show S' (c t) < 1000 by omega) (show 1000 < 2 ^ 31 by decide), cl_ (show F' (c t) < 2 ^ 31 by omega), cl_ (show S' (c t) < 2 ^ 31 by omega), (e3.2.2.1 _ q1').2.2.1, (e3.2.2.1 _ q2').2.2.1]
    refine ⟨z1, N, c, K', F', S', ls, ?_, by rw [if_pos q]; exact e4, e2, e3⟩
    rw [if_pos q]
    by_cases qb : b = 0
    · rw [if_pos qb, if_pos qb]
    · rw [if_neg qb, if_neg qb]
  · rw [if_neg q, if_neg (show ¬ (1 : Int32) = 0 by decide)]
    exact ⟨wsc z1 0 1, N, c, K', F', S', ls, by rw [if_neg q], by rw [if_neg q, wsc_s], e2.keepX (fun k hk => wsc_n _ _ hk) (fun _ _ => rfl), e3.keep (wsc_n _ _ (by decide)) (fun _ _ _ => rfl)⟩
theorem flip32 (w c : Int32) : (if w < c then w else c) = (if c < w then c else w) := by
  by_cases h1 : w < c
  · rw [if_pos h1, if_neg (fun h2 => by rw [Int32.lt_iff_toInt_lt] at h1 h2; omega)]
  · by_cases h2 : c < w
    · rw [if_neg h1, if_pos h2]
    · rw [if_neg h1, if_neg h2]
      rw [Int32.lt_iff_toInt_lt] at h1 h2
      exact Int32.toInt_inj.mp (by omega)
theorem flip64 (w c : Int64) : (if w < c then w else c) = (if c < w then c else w) := by
  by_cases h1 : w < c
  · rw [if_pos h1, if_neg (fun h2 => by rw [Int64.lt_iff_toInt_lt] at h1 h2; omega)]
  · by_cases h2 : c < w
    · rw [if_neg h1, if_pos h2]
    · rw [if_neg h1, if_neg h2]
      rw [Int64.lt_iff_toInt_lt] at h1 h2
      exact Int64.toInt_inj.mp (by omega)
theorem m_size_l {n N t : Nat} {M : (Nat → Nat) → Prop} {c K F S ls : Nat → Nat} {f : Nat → Int32} (hn : n ≤ 600) (ht : t < n) (hf : fR gS (fun j => j < N) K F S f) : ∀ (k i : Nat) (z : St), NU z n M N c K F S ls → i ≤ c t + 1 → c t + 1 - i < k → (∀ j, j < i → z.2 13 j = f j) →
    ∃ z', f_M_size_l12 k z (nI i) (nI t) = some (f (c t), z') ∧ on [13] z z' := by
  intro k
  induction k with
  | zero => intro i z _ _ h; omega
  | succ k ih =>
    intro i z hU hi hk h
    have ct := hU.cn ht
    have hN := hU.1.2
    rw [f_M_size_l12, ix_f (by omega) (by decide), cl_ (by omega), hU.2.1 t ht]
    by_cases q : i = c t + 1
    · rw [if_pos (by rw [q]; exact nI_lt (by omega) (by omega)), ix_g (by omega) (by decide), ix_f (by omega) (by decide), cl_ (by omega), h (c t) (by omega)]
      exact ⟨z, rfl, on.rf⟩
    · have hiN : i < N := by omega
      obtain ⟨r6, r7, -⟩ := hU.2.2.1 i hiN
      have k4 := (hU.2.2.2.1.2.2.1 i hiN).1
      rw [if_neg (fun p => by rw [Int32.lt_iff_toInt_lt, nI_toInt (by omega), nI_toInt (by omega)] at p; omega)]
      simp only [ix_f (show i < 1000 by omega) (show 1000 < 2 ^ 31 by decide), ix_g (show i < 1000 by omega) (show 1000 < 2 ^ 31 by decide), cl_ (show i < 2 ^ 31 by omega), r6, le2 (show K i < 2 ^ 31 by omega), n2 (show K i < 2 ^ 31 by omega), nI_1]
      have step : ∀ w : Int32, w = f i → ∃ z', f_M_size_l12 k (war z 13 i w) (nI (i + 1)) (nI t) = some (f (c t), z') ∧ on [13] z z' := fun w hw => by
        obtain ⟨z', a1, a2⟩ := ih (i + 1) (war z 13 i w) (hU.keep rfl (fun k h1 h2 => war_n _ _ (by omega))) (by omega) (by omega) (fun j hj => by
          by_cases e : j = i
          · rw [e, war_s, hw]
          · rw [war_i _ _ e]; exact h j (by omega))
        exact ⟨z', a1, (on.war (by simp)).tr a2⟩
      by_cases q2 : 2 ≤ K i
      · obtain ⟨p1, p2⟩ := r7 q2
        obtain ⟨q3, q4, q5, q6⟩ := (hU.2.2.2.1.2.2.1 i hiN).2 q2
        simp only [if_pos q2, p1, p2, ix_g (show F i < 1000 by omega) (show 1000 < 2 ^ 31 by decide), ix_g (show S i < 1000 by omega) (show 1000 < 2 ^ 31 by decide), cl_ (show F i < 2 ^ 31 by omega), cl_ (show S i < 2 ^ 31 by omega), h (F i) q5, h (S i) q6]
        have hfi := hf i hiN
        unfold gS at hfi
        rw [if_neg (show ¬ K i < 2 by omega)] at hfi
        by_cases q7 : K i = 2
        · rw [if_pos q7]
          refine step _ ?_
          rw [hfi, if_pos q7, flip32]
        · rw [if_neg q7]
          refine step _ ?_
          rw [hfi, if_neg q7, flip32]
      · simp only [if_neg q2]
        refine step _ ?_
        rw [hf i hiN]; unfold gS; rw [if_pos (by omega)]
theorem m_size {y : St} {n t : Nat} {M : (Nat → Nat) → Prop} (h : MI y n M) (ht : t < n) : ∃ z' N c K' F' S' ls f, f_M_size y (nI t) = some (f (c t), z') ∧ z'.1 0 = 0 ∧ MI z' n M ∧ NU z' n M N c K' F' S' ls ∧ fR gS (fun j => j < N) K' F' S' f := by
  obtain ⟨z1, N, c, K', F', S', ls, e1, e2, e3, e4⟩ := m_unknown h ht
  obtain ⟨h1, h2, h6⟩ := e2.types
  have ct := e3.cn ht
  have hN := e3.1.2
  obtain ⟨f, hf⟩ := fR_ex gS_low e3.2.2.2.1.rk
  unfold f_M_size
  rw [e1, Option.bind_some]
  dsimp only
  rw [if_pos rfl, i0]
  obtain ⟨z', a1, a2⟩ := m_size_l h6 ht hf FU 0 z1 e3 (Nat.zero_le _) (by unfold FU; omega) (fun j hj => by omega)
  rw [a1]
  exact ⟨z', N, c, K', F', S', ls, f, rfl, by rw [a2.1]; exact e4, e2.keepX (fun k _ => by rw [a2.1]) (fun k hk => a2.2 k (by simp; omega)), e3.keep (by rw [a2.1]) (fun k h1 h2 => a2.2 k (by simp; omega)), hf⟩
theorem m_values_l {n N t : Nat} {M : (Nat → Nat) → Prop} {c K F S ls : Nat → Nat} {f : Nat → Int32} (hn : n ≤ 600) (ht : t < n) (hf : fR gV (fun j => j < N) K F S f) : ∀ (k i : Nat) (z : St), NU z n M N c K F S ls → i ≤ c t + 1 → c t + 1 - i < k → (∀ j, j < i → z.2 13 j = f j) →
    ∃ z', f_M_values_l12 k z (nI i) (nI t) = some (f (c t), z') ∧ on [13] z z' := by
  intro k
  induction k with
  | zero => intro i z _ _ h; omega
  | succ k ih =>
    intro i z hU hi hk h
    have ct := hU.cn ht
    have hN := hU.1.2
    rw [f_M_values_l12, ix_f (by omega) (by decide), cl_ (by omega), hU.2.1 t ht]
    by_cases q : i = c t + 1
    · rw [if_pos (by rw [q]; exact nI_lt (by omega) (by omega)), ix_g (by omega) (by decide), ix_f (by omega) (by decide), cl_ (by omega), h (c t) (by omega)]
      exact ⟨z, rfl, on.rf⟩
    · have hiN : i < N := by omega
      obtain ⟨r6, r7, -⟩ := hU.2.2.1 i hiN
      have k4 := (hU.2.2.2.1.2.2.1 i hiN).1
      rw [if_neg (fun p => by rw [Int32.lt_iff_toInt_lt, nI_toInt (by omega), nI_toInt (by omega)] at p; omega)]
      simp only [ix_f (show i < 1000 by omega) (show 1000 < 2 ^ 31 by decide), ix_g (show i < 1000 by omega) (show 1000 < 2 ^ 31 by decide), cl_ (show i < 2 ^ 31 by omega), r6, le2 (show K i < 2 ^ 31 by omega), n2 (show K i < 2 ^ 31 by omega), nI_1]
      have step : ∀ w : Int32, w = f i → ∃ z', f_M_values_l12 k (war z 13 i w) (nI (i + 1)) (nI t) = some (f (c t), z') ∧ on [13] z z' := fun w hw => by
        obtain ⟨z', a1, a2⟩ := ih (i + 1) (war z 13 i w) (hU.keep rfl (fun k h1 h2 => war_n _ _ (by omega))) (by omega) (by omega) (fun j hj => by
          by_cases e : j = i
          · rw [e, war_s, hw]
          · rw [war_i _ _ e]; exact h j (by omega))
        exact ⟨z', a1, (on.war (by simp)).tr a2⟩
      by_cases q2 : 2 ≤ K i
      · obtain ⟨p1, p2⟩ := r7 q2
        obtain ⟨q3, q4, q5, q6⟩ := (hU.2.2.2.1.2.2.1 i hiN).2 q2
        simp only [if_pos q2, p1, p2, ix_g (show F i < 1000 by omega) (show 1000 < 2 ^ 31 by decide), ix_g (show S i < 1000 by omega) (show 1000 < 2 ^ 31 by decide), cl_ (show F i < 2 ^ 31 by omega), cl_ (show S i < 2 ^ 31 by omega), h (F i) q5, h (S i) q6]
        have hfi := hf i hiN
        unfold gV at hfi
        rw [if_neg (show ¬ K i < 2 by omega)] at hfi
        by_cases q7 : K i = 2
        · rw [if_pos q7]
          refine step _ ?_
          rw [hfi, if_pos q7, flip64]
        · rw [if_neg q7]
          refine step _ ?_
          rw [hfi, if_neg q7, flip64]
      · simp only [if_neg q2]
        refine step _ ?_
        rw [hf i hiN]; unfold gV; rw [if_pos (by omega)]
theorem m_values {y : St} {n t : Nat} {M : (Nat → Nat) → Prop} (h : MI y n M) (ht : t < n) : ∃ z' N c K' F' S' ls f, f_M_values y (nI t) = some (f (c t), z') ∧ z'.1 0 = 0 ∧ MI z' n M ∧ NU z' n M N c K' F' S' ls ∧ fR gV (fun j => j < N) K' F' S' f := by
  obtain ⟨z1, N, c, K', F', S', ls, e1, e2, e3, e4⟩ := m_unknown h ht
  obtain ⟨h1, h2, h6⟩ := e2.types
  have ct := e3.cn ht
  have hN := e3.1.2
  obtain ⟨f, hf⟩ := fR_ex gV_low e3.2.2.2.1.rk
  unfold f_M_values
  rw [e1, Option.bind_some]
  dsimp only
  rw [if_pos rfl, i0]
  obtain ⟨z', a1, a2⟩ := m_values_l h6 ht hf FU 0 z1 e3 (Nat.zero_le _) (by unfold FU; omega) (fun j hj => by omega)
  rw [a1]
  exact ⟨z', N, c, K', F', S', ls, f, rfl, by rw [a2.1]; exact e4, e2.keepX (fun k _ => by rw [a2.1]) (fun k hk => a2.2 k (by simp; omega)), e3.keep (by rw [a2.1]) (fun k h1 h2 => a2.2 k (by simp; omega)), hf⟩
