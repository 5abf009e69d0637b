/-! What a state of the reference stands for; begin, free, sum, pair. -/
def MD (y : St) (n : Nat) (M : (Nat → Nat) → Prop) (K L R o r d : Nat → Nat) : Prop :=
  (1 ≤ n ∧ n ≤ 600) ∧ y.1 1 = nI n ∧ ro y 0 n K ∧ (∀ t, t < n → K t < 4 ∧ (2 ≤ K t → y.2 1 t = nI (L t) ∧ y.2 2 t = nI (R t) ∧ L t < n ∧ R t < n)) ∧ ro y 3 n o ∧ us_fo n o r d ∧ (∀ t, t < n → d t + rts n o ≤ n) ∧ us_cl n K L R o r [] ∧
  (∀ v, M v ↔ us_sol n K L R v ∧ us_rsp n o v) ∧ ∃ v, M v
def NU (y : St) (n : Nat) (M : (Nat → Nat) → Prop) (N : Nat) (c K F S ls : Nat → Nat) : Prop :=
  (y.1 2 = nI N ∧ N ≤ n) ∧ ro y 5 n c ∧ (∀ j, j < N → y.2 6 j = nI (K j) ∧ (2 ≤ K j → y.2 7 j = nI (F j) ∧ y.2 8 j = nI (S j)) ∧ y.2 9 j = nI (ls j) ∧ ls j < n ∧ c (ls j) = j ∧ ∀ t, t < ls j → c t ≠ j) ∧
  cf_ok n (fun j => j < N) c K F S (fun j => j) ∧ cf_sem n (fun j => j < N) c K F S M
def MI (y : St) (n : Nat) (M : (Nat → Nat) → Prop) : Prop := ∃ K L R o r d : Nat → Nat, MD y n M K L R o r d ∧ (y.1 3 = 0 ∨ (y.1 3 = 1 ∧ ∃ (N : Nat) (c K' F' S' ls : Nat → Nat), NU y n M N c K' F' S' ls))
theorem MD.keep {y y' : St} {n : Nat} {M : (Nat → Nat) → Prop} {K L R o r d : Nat → Nat} (h : MD y n M K L R o r d) (h1 : y'.1 1 = y.1 1) (hk : ∀ k, k < 4 → y'.2 k = y.2 k) : MD y' n M K L R o r d := by
  obtain ⟨a1, a2, a3, a4, a5, a6⟩ := h
  exact ⟨a1, h1.trans a2, a3.keep (hk 0 (by decide)), fun t ht => by rw [hk 1 (by decide), hk 2 (by decide)]; exact a4 t ht, a5.keep (hk 3 (by decide)), a6⟩
theorem NU.keep {y y' : St} {n N : Nat} {M : (Nat → Nat) → Prop} {c K F S ls : Nat → Nat} (h : NU y n M N c K F S ls) (h1 : y'.1 2 = y.1 2) (hk : ∀ k, 5 ≤ k → k < 10 → y'.2 k = y.2 k) : NU y' n M N c K F S ls := by
  obtain ⟨⟨a1, a2⟩, a3, a4, a5⟩ := h
  exact ⟨⟨h1.trans a1, a2⟩, a3.keep (hk 5 (by decide) (by decide)), fun j hj => by rw [hk 6 (by decide) (by decide), hk 7 (by decide) (by decide), hk 8 (by decide) (by decide), hk 9 (by decide) (by decide)]; exact a4 j hj, a5⟩
theorem MI.keep {y y' : St} {n : Nat} {M : (Nat → Nat) → Prop} (h : MI y n M) (h1 : ∀ k, k ≠ 0 → y'.1 k = y.1 k) (hk : ∀ k, k < 10 → k ≠ 4 → y'.2 k = y.2 k) : MI y' n M := by
  obtain ⟨K, L, R, o, r, d, hD, hN⟩ := h
  refine ⟨K, L, R, o, r, d, hD.keep (h1 1 (by decide)) (fun k q => hk k (by omega) (by omega)), ?_⟩
  rw [h1 3 (by decide)]
  rcases hN with hN | ⟨h3, N, c, K', F', S', ls, hN⟩
  · exact Or.inl hN
  · exact Or.inr ⟨h3, N, c, K', F', S', ls, hN.keep (h1 2 (by decide)) (fun k q1 q2 => hk k q2 (by omega))⟩
theorem m_make {z : St} {n : Nat} (k a b : Int32) (h1 : z.1 1 = nI n) (hn : n < 1000) : f_M_make z k a b = some (nI n, wsc (wsc (war (war (war (war z 0 n k) 1 n a) 2 n b) 3 n (nI n)) 1 (nI (n + 1))) 3 0) := by
  unfold f_M_make
  simp only [war_1, h1, ix_g hn (show 1000 < 2 ^ 31 by decide), cl_ (show n < 2 ^ 31 by omega), nI_1]
  rw [wsc_n _ _ (by decide), wsc_s, nI_pred]
/-- one type more -/
theorem MD.made {y : St} {n k a b : Nat} {A B : Int32} {M : (Nat → Nat) → Prop} {K L R o r d : Nat → Nat} (h : MD y n M K L R o r d) (hn : n + 1 ≤ 600) (hk : k = 0 ∨ (2 ≤ k ∧ k < 4 ∧ a < n ∧ b < n ∧ A = nI a ∧ B = nI b)) :
    MI (wsc (wsc (war (war (war (war y 0 n (nI k)) 1 n A) 2 n B) 3 n (nI n)) 1 (nI (n + 1))) 3 0) (n + 1) (fun v => M v ∧ (2 ≤ k → v n = tm_N k (v a) (v b))) := by
  obtain ⟨⟨a1, a2⟩, a3, a4, a5, a6, a7, a8, a9, a10, v0, a11⟩ := h
  have hrt : rts (n + 1) (us_up o n n) = rts n o + 1 := by
    show ct _ n + _ = ct _ n + 1
    rw [ct_congr (p' := fun t => decide (o t = t)) n (fun t ht => by rw [us_up_n _ (by omega)])]
    simp [us_up]
  have hsol : ∀ v, us_sol (n + 1) (us_up K n k) (us_up L n a) (us_up R n b) v ↔ us_sol n K L R v ∧ (2 ≤ k → v n = tm_N k (v a) (v b)) := fun v => by
    constructor
    · intro q
      refine ⟨fun t ht => ?_, fun hk2 => ?_⟩
      · have := q t (by omega)
        rw [us_up_n _ (by omega), us_up_n _ (by omega), us_up_n _ (by omega)] at this
        exact this
      · have := (q n (by omega)).2
        rw [us_up_s, us_up_s, us_up_s] at this
        exact this hk2
    · rintro ⟨q1, q2⟩ t ht
      by_cases e : t = n
      · rw [e, us_up_s, us_up_s, us_up_s]
        exact ⟨fun e1 => by omega, q2⟩
      · rw [us_up_n _ e, us_up_n _ e, us_up_n _ e]; exact q1 t (by omega)
  have hrsp : ∀ v, us_rsp (n + 1) (us_up o n n) v ↔ us_rsp n o v := fun v => by
    constructor
    · intro q t ht
      have := q t (by omega)
      rw [us_up_n _ (by omega)] at this
      exact this
    · intro q t ht
      by_cases e : t = n
      · rw [e, us_up_s]
      · rw [us_up_n _ e]; exact q t (by omega)
  refine ⟨us_up K n k, us_up L n a, us_up R n b, us_up o n n, us_up r n n, us_up d n 0, ⟨⟨by omega, hn⟩, ?_, fun t ht => ?_, fun t ht => ?_, fun t ht => ?_, fun t ht => ?_, fun t ht => ?_, fun t ht => ?_, fun v => ?_, us_up v0 n (tm_N k (v0 a) (v0 b)), ?_, ?_⟩, Or.inl (wsc_s _ _ _)⟩
  · rw [wsc_n _ _ (by decide), wsc_s]
  · rw [wsc_2, wsc_2, war_n _ _ (by decide), war_n _ _ (by decide), war_n _ _ (by decide)]
    by_cases e : t = n
    · rw [e, war_s, us_up_s]
    · rw [war_i _ _ e, us_up_n _ e]; exact a4 t (by omega)
  · have w1 : (wsc (wsc (war (war (war (war y 0 n (nI k)) 1 n A) 2 n B) 3 n (nI n)) 1 (nI (n + 1))) 3 0).2 1 t = if t = n then A else y.2 1 t := by simp [wsc, war, wal, upd]
    have w2 : (wsc (wsc (war (war (war (war y 0 n (nI k)) 1 n A) 2 n B) 3 n (nI n)) 1 (nI (n + 1))) 3 0).2 2 t = if t = n then B else y.2 2 t := by simp [wsc, war, wal, upd]
    rw [w1, w2]
    by_cases e : t = n
    · rw [e, if_pos rfl, if_pos rfl, us_up_s, us_up_s, us_up_s]
      rcases hk with hk | ⟨k1, k2, k3, k4, k5, k6⟩
      · exact ⟨by omega, fun q => by omega⟩
      · exact ⟨k2, fun _ => ⟨k5, k6, by omega, by omega⟩⟩
    · rw [us_up_n _ e, us_up_n _ e, us_up_n _ e, if_neg e, if_neg e]
      obtain ⟨q1, q2⟩ := a5 t (by omega)
      exact ⟨q1, fun q => by obtain ⟨p1, p2, p3, p4⟩ := q2 q; exact ⟨p1, p2, by omega, by omega⟩⟩
  · rw [wsc_2, wsc_2]
    by_cases e : t = n
    · rw [e, war_s, us_up_s]
    · rw [war_i _ _ e, us_up_n _ e, war_n _ _ (by decide), war_n _ _ (by decide), war_n _ _ (by decide)]; exact a6 t (by omega)
  · by_cases e : t = n
    · rw [e]; simp only [us_up_s]; exact ⟨by omega, by omega, trivial, trivial, fun _ => ⟨trivial, trivial⟩, fun q => absurd rfl q⟩
    · obtain ⟨q1, q2, q3, q4, q5, q6⟩ := a7 t (by omega)
      rw [us_up_n _ e, us_up_n _ e, us_up_n _ e, us_up_n _ (show r t ≠ n by omega), us_up_n _ (show o t ≠ n by omega), us_up_n _ (show o t ≠ n by omega)]
      exact ⟨by omega, by omega, q3, q4, q5, q6⟩
  · rw [hrt]
    by_cases e : t = n
    · rw [e, us_up_s]; have := rts_le n o; omega
    · rw [us_up_n _ e]; have := a8 t (by omega); omega
  · by_cases e : t = n
    · rw [e, us_up_s r]; exact ⟨fun _ => rfl, fun _ _ _ _ => ⟨rfl, rfl⟩⟩
    · have hrt := (a7 t (by omega)).2.1
      rw [us_up_n _ e, us_up_n _ e, us_up_n _ (show r t ≠ n by omega), us_up_n _ e, us_up_n _ e, us_up_n _ (show r t ≠ n by omega), us_up_n _ (show r t ≠ n by omega)]
      refine ⟨(a9 t (by omega)).1, fun q f h1 h2 => (a9 t (by omega)).2 q f ((hrsp f).mp h1) h2⟩
  · dsimp only
    rw [hsol, hrsp, a10 v]
    exact ⟨fun q => ⟨⟨q.1.1, q.2⟩, q.1.2⟩, fun q => ⟨⟨q.1.1, q.2⟩, q.1.2⟩⟩
  · rw [a10] at a11 ⊢
    refine ⟨fun t ht => ?_, fun t ht => ?_⟩
    · rw [us_up_n _ (by omega)]
      refine ⟨(a11.1 t ht).1, fun q => ?_⟩
      obtain ⟨p1, p2, p3, p4⟩ := (a5 t ht).2 q
      rw [us_up_n _ (by omega), us_up_n _ (by omega)]
      exact (a11.1 t ht).2 q
    · have := (a7 t ht).1
      rw [us_up_n _ (by omega), us_up_n _ (by omega)]; exact a11.2 t ht
  · intro q
    rcases hk with hk | ⟨k1, k2, k3, k4, k5, k6⟩
    · omega
    · rw [us_up_s, us_up_n _ (by omega), us_up_n _ (by omega)]
theorem m_begin (z : St) : ∃ z', f_M_begin z = some z' ∧ MI z' 1 (fun v => v 0 = 1) ∧ z'.1 0 = z.1 0 := by
  unfold f_M_begin
  rw [m_make (n := 0) _ _ _ (by rw [wsc_s]; rfl) (by decide), Option.bind_some]
  refine ⟨_, rfl, ⟨fun _ => 1, fun _ => 0, fun _ => 0, fun _ => 0, fun _ => 0, fun _ => 0, ⟨⟨by decide, by decide⟩, ?_, fun t ht => ?_, fun t ht => ⟨show (1 : Nat) < 4 by decide, fun q => absurd q (show ¬ 2 ≤ 1 by decide)⟩, fun t ht => ?_, fun t ht => ?_, fun t ht => ?_, fun t ht => ⟨fun _ => rfl, fun q => absurd q (show ¬ 2 ≤ 1 by decide)⟩, fun v => ?_, fun _ => 1, rfl⟩, Or.inl (wsc_s _ _ _)⟩, ?_⟩
  · rw [wsc_n _ _ (by decide), wsc_s]
  · rw [show t = 0 by omega, wsc_2, wsc_2, war_n _ _ (by decide), war_n _ _ (by decide), war_n _ _ (by decide), war_s]; rfl
  · rw [show t = 0 by omega, wsc_2, wsc_2, war_s]
  · rw [show t = 0 by omega]; exact ⟨by decide, by decide, rfl, rfl, fun _ => ⟨rfl, rfl⟩, fun q => absurd rfl q⟩
  · have := rts_le 1 (fun _ => 0)
    show 0 + _ ≤ 1
    omega
  · constructor
    · intro h
      refine ⟨fun t ht => ?_, fun t ht => ?_⟩
      · rw [show t = 0 by omega]; exact ⟨fun _ => h, fun q => absurd q (show ¬ 2 ≤ 1 by decide)⟩
      · rw [show t = 0 by omega]
    · intro h
      exact (h.1 0 (by decide)).1 rfl
  · rw [wsc_n _ _ (by decide), wsc_n _ _ (by decide)]; simp only [war_1]; rw [wsc_n _ _ (by decide)]
theorem MI.types {y : St} {n : Nat} {M : (Nat → Nat) → Prop} (h : MI y n M) : y.1 1 = nI n ∧ 1 ≤ n ∧ n ≤ 600 := by
  obtain ⟨K, L, R, o, r, d, hD, -⟩ := h
  exact ⟨hD.2.1, hD.1.1, hD.1.2⟩
theorem m_clear {y : St} {n : Nat} {M : (Nat → Nat) → Prop} (h : MI y n M) : ∃ z', f_M_clear y = some (nI n, z') ∧ MI z' 1 (fun v => v 0 = 1) ∧ z'.1 0 = 0 := by
  unfold f_M_clear
  obtain ⟨z', h1, h2, h3⟩ := m_begin (wsc y 0 0)
  rw [h1, Option.bind_some, wsc_n _ _ (by decide), h.types.1]
  exact ⟨z', rfl, h2, by rw [h3, wsc_s]⟩
theorem m_refuse_n (z : St) (k : Int32) : f_M_refuse z k 0 = some (0, z) := by
  unfold f_M_refuse
  rw [if_pos rfl, if_neg (by decide)]
theorem m_refuse_y (z : St) (k : Int32) : f_M_refuse z k 1 = some (1, wsc z 0 k) := by
  unfold f_M_refuse
  rw [if_neg (by decide), if_neg (by decide)]
theorem m_none_ok {z : St} {n t : Nat} (h1 : z.1 1 = nI n) (hn : n ≤ 600) (ht : t < n) : f_M_none z (nI t) = some (0, wsc z 0 0) := by
  unfold f_M_none
  rw [if_neg (nI_pos (by omega)), wsc_n _ _ (by decide), h1, if_pos (nI_lt ht (by omega)), m_refuse_n, Option.bind_some]
  dsimp only
  rw [if_neg (by decide)]
theorem m_none_no {z : St} {n : Nat} {a : Int32} (h1 : z.1 1 = nI n) (ha : noT n a) : f_M_none z a = some (1, wsc (wsc z 0 0) 0 1) := by
  unfold f_M_none
  rw [m_refuse_y, Option.bind_some]
  dsimp only
  rw [if_neg (show ¬¬((1 : Int32) = 0 ∨ (1 : Int32) = 1) by decide), wsc_n _ _ (by decide), h1]
  by_cases e : a < 0
  · rw [if_pos e]
  · rw [if_neg e, if_neg (fun q => ?_)]
    rcases ha with ha | ha
    · exact e ha
    · rw [Int32.lt_iff_toInt_lt] at q
      rw [Int32.le_iff_toInt_le] at ha
      omega
theorem not1000 {n : Nat} (hn : n ≤ 600) : ¬ nI n = (1000 : Int32) := by
  rw [show (1000 : Int32) = nI 1000 by decide, neq (by omega) (by decide)]; omega
theorem m_free {y : St} {n : Nat} {M : (Nat → Nat) → Prop} (h : MI y n M) (hn : n + 1 ≤ 600) : ∃ z', f_M_free y = some (nI n, z') ∧ MI z' (n + 1) M ∧ z'.1 0 = 0 := by
  obtain ⟨K, L, R, o, r, d, hD, -⟩ := h
  unfold f_M_free
  have h1 : (wsc y 0 0).1 1 = nI n := by rw [wsc_n _ _ (by decide)]; exact hD.2.1
  rw [h1, if_neg (not1000 (by omega)), m_refuse_n, Option.bind_some]
  dsimp only
  rw [if_pos rfl, m_make _ _ _ h1 (by omega), Option.bind_some]
  have := (hD.keep (y' := wsc y 0 0) (wsc_n _ _ (by decide)) (fun _ _ => rfl)).made (k := 0) (a := 0) (b := 0) (A := -1) (B := -1) hn (Or.inl rfl)
  obtain ⟨K1, L1, R1, o1, r1, d1, g1, g2⟩ := this
  refine ⟨_, rfl, ⟨K1, L1, R1, o1, r1, d1, ?_, ?_⟩, ?_⟩
  · obtain ⟨b1, b2, b3, b4, b5, b6, b7, b8, b9, v, b10⟩ := g1
    exact ⟨b1, b2, b3, b4, b5, b6, b7, b8, fun v => ⟨fun q => (b9 v).mp ⟨q, fun p => by omega⟩, fun q => ((b9 v).mpr q).1⟩, v, b10.1⟩
  · exact Or.inl (wsc_s _ _ _)
  · rw [wsc_n _ _ (by decide), wsc_n _ _ (by decide)]; simp only [war_1]; rw [wsc_s]
theorem m_made {y : St} {n k s t : Nat} {M : (Nat → Nat) → Prop} (h : MI y n M) (hn : n + 1 ≤ 600) (hk : 2 ≤ k) (hk4 : k < 4) (hs : s < n) (ht : t < n) : ∃ z', f_M_made y (nI k) (nI s) (nI t) = some (nI n, z') ∧ MI z' (n + 1) (fun v => M v ∧ v n = tm_N k (v s) (v t)) ∧ z'.1 0 = 0 := by
  obtain ⟨K, L, R, o, r, d, hD, -⟩ := h
  unfold f_M_made
  have h1 : (wsc y 0 0).1 1 = nI n := by rw [wsc_n _ _ (by decide)]; exact hD.2.1
  have h2 : (wsc (wsc y 0 0) 0 0).1 1 = nI n := by rw [wsc_n _ _ (by decide)]; exact h1
  rw [m_none_ok hD.2.1 hD.1.2 hs, Option.bind_some]
  dsimp only
  rw [if_pos rfl, m_none_ok h1 hD.1.2 ht, Option.bind_some]
  dsimp only
  rw [if_pos rfl, h2, if_neg (not1000 (by omega)), m_refuse_n, Option.bind_some]
  dsimp only
  rw [if_pos rfl, m_make _ _ _ h2 (by omega), Option.bind_some]
  have := (hD.keep (y' := wsc (wsc y 0 0) 0 0) (by rw [wsc_n _ _ (by decide), wsc_n _ _ (by decide)]) (fun _ _ => rfl)).made (k := k) (a := s) (b := t) (A := nI s) (B := nI t) hn (Or.inr ⟨hk, hk4, hs, ht, rfl, rfl⟩)
  obtain ⟨K1, L1, R1, o1, r1, d1, g1, g2⟩ := this
  refine ⟨_, rfl, ⟨K1, L1, R1, o1, r1, d1, ?_, ?_⟩, ?_⟩
  · obtain ⟨b1, b2, b3, b4, b5, b6, b7, b8, b9, v, b10⟩ := g1
    exact ⟨b1, b2, b3, b4, b5, b6, b7, b8, fun v => ⟨fun q => (b9 v).mp ⟨q.1, fun _ => q.2⟩, fun q => ⟨((b9 v).mpr q).1, ((b9 v).mpr q).2 hk⟩⟩, v, b10.1, b10.2 hk⟩
  · exact Or.inl (wsc_s _ _ _)
  · rw [wsc_n _ _ (by decide), wsc_n _ _ (by decide)]; simp only [war_1]; rw [wsc_s]
theorem m_sum {y : St} {n s t : Nat} {M : (Nat → Nat) → Prop} (h : MI y n M) (hn : n + 1 ≤ 600) (hs : s < n) (ht : t < n) : ∃ z', f_M_sum y (nI s) (nI t) = some (nI n, z') ∧ MI z' (n + 1) (fun v => M v ∧ v n = tm_N 2 (v s) (v t)) ∧ z'.1 0 = 0 := by
  obtain ⟨z', h1, h2⟩ := m_made h hn (show 2 ≤ 2 by decide) (by decide) hs ht
  unfold f_M_sum
  rw [i2, h1, Option.bind_some]
  exact ⟨z', rfl, h2⟩
theorem m_pair {y : St} {n s t : Nat} {M : (Nat → Nat) → Prop} (h : MI y n M) (hn : n + 1 ≤ 600) (hs : s < n) (ht : t < n) : ∃ z', f_M_pair y (nI s) (nI t) = some (nI n, z') ∧ MI z' (n + 1) (fun v => M v ∧ v n = tm_N 3 (v s) (v t)) ∧ z'.1 0 = 0 := by
  obtain ⟨z', h1, h2⟩ := m_made h hn (show 2 ≤ 3 by decide) (by decide) hs ht
  unfold f_M_pair
  rw [i3, h1, Option.bind_some]
  exact ⟨z', rfl, h2⟩
theorem notT {n t : Nat} (hn : n ≤ 600) (ht : t < n) : ¬ noT n (nI t) := fun q => by
  rcases q with q | q
  · exact nI_pos (by omega) q
  · exact nI_ge ht (by omega) q
/-- two types, of which one isn't there -/
theorem m_two_no {y : St} {n : Nat} {a b : Int32} {M : (Nat → Nat) → Prop} (h : MI y n M) (hab : noT n a ∨ noT n b) {g : Int32 × St → Int32 × St → Option (Int32 × St)} :
    ∃ z', ((f_M_none y a).bind fun q1 => (if q1.1 = 0 then ((f_M_none q1.2 b).bind fun q2 => (if q2.1 = 0 then g q1 q2 else some ((0 : Int32), q2.2))) else some ((0 : Int32), q1.2))) = some (0, z') ∧ z'.1 0 = 1 ∧ MI z' n M := by
  obtain ⟨h1, h2, h6⟩ := h.types
  rcases is_T a h6 with ha | ⟨s, hs, rfl⟩
  · rw [m_none_no h1 ha, Option.bind_some]
    exact ⟨_, rfl, wsc_s _ _ _, h.keep (fun k hk => by rw [wsc_n _ _ hk, wsc_n _ _ hk]) (fun _ _ _ => rfl)⟩
  · rw [m_none_ok h1 h6 hs, Option.bind_some]
    dsimp only
    rw [if_pos rfl]
    rcases hab with hab | hb
    · exact absurd hab (notT h6 hs)
    · rw [m_none_no (n := n) (by rw [wsc_n _ _ (by decide)]; exact h1) hb, Option.bind_some]
      exact ⟨_, rfl, wsc_s _ _ _, h.keep (fun k hk => by rw [wsc_n _ _ hk, wsc_n _ _ hk, wsc_n _ _ hk]) (fun _ _ _ => rfl)⟩
theorem m_sum_no {y : St} {n : Nat} {a b : Int32} {M : (Nat → Nat) → Prop} (h : MI y n M) (hab : noT n a ∨ noT n b) : ∃ z', f_M_sum y a b = some (0, z') ∧ z'.1 0 = 1 ∧ MI z' n M := by
  unfold f_M_sum f_M_made
  obtain ⟨z', h1, h2⟩ := m_two_no h hab (g := fun q1 q2 => (if (q2.2.1 1) = ((1000 : Int32)) then ((f_M_refuse q2.2 ((2 : Int32)) ((1 : Int32))).bind fun q5 => (if (q5.1) = 0 then ((f_M_make q5.2 2 a b).bind fun q6 => some (q6.1, q6.2)) else some ((0 : Int32), q5.2))) else ((f_M_refuse q2.2 ((2 : Int32)) ((0 : Int32))).bind fun q3 => (if (q3.1) = 0 then ((f_M_make q3.2 2 a b).bind fun q4 => some (q4.1, q4.2)) else some ((0 : Int32), q3.2)))))
  rw [h1, Option.bind_some]
  exact ⟨z', rfl, h2⟩
theorem m_pair_no {y : St} {n : Nat} {a b : Int32} {M : (Nat → Nat) → Prop} (h : MI y n M) (hab : noT n a ∨ noT n b) : ∃ z', f_M_pair y a b = some (0, z') ∧ z'.1 0 = 1 ∧ MI z' n M := by
  unfold f_M_pair f_M_made
  obtain ⟨z', h1, h2⟩ := m_two_no h hab (g := fun q1 q2 => (if (q2.2.1 1) = ((1000 : Int32)) then ((f_M_refuse q2.2 ((2 : Int32)) ((1 : Int32))).bind fun q5 => (if (q5.1) = 0 then ((f_M_make q5.2 3 a b).bind fun q6 => some (q6.1, q6.2)) else some ((0 : Int32), q5.2))) else ((f_M_refuse q2.2 ((2 : Int32)) ((0 : Int32))).bind fun q3 => (if (q3.1) = 0 then ((f_M_make q3.2 3 a b).bind fun q4 => some (q4.1, q4.2)) else some ((0 : Int32), q3.2)))))
  rw [h1, Option.bind_some]
  exact ⟨z', rfl, h2⟩
