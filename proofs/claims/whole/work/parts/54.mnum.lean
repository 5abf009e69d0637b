/-! The reference: numbered. -/
theorem ct_mono {p q : Nat → Bool} : ∀ n, (∀ t, t < n → p t = true → q t = true) → ct p n ≤ ct q n := by
  intro n
  induction n with
  | zero => intro _; exact Nat.le_refl _
  | succ n ih =>
    intro h
    have h1 := ih (fun t ht => h t (by omega))
    have h2 := h n (by omega)
    simp only [ct]
    by_cases e : p n = true
    · rw [if_pos e, if_pos (h2 e)]; omega
    · rw [if_neg e]; omega
def TP (K L R : Nat → Nat) (as : Nat → Bool) (c : Nat → Nat) (x : Nat) (a b : Int32) : Prop :=
  (K x = 0 → a = nI x ∧ b = -1) ∧ (K x = 1 → a = -1 ∧ b = -1) ∧ (2 ≤ K x → as (L x) = true ∧ as (R x) = true ∧ a = nI (c (L x)) ∧ b = nI (c (R x)))
def NB (z : St) (n : Nat) (K L R r : Nat → Nat) (as : Nat → Bool) (c : Nat → Nat) (N : Nat) (K' : Nat → Nat) (A B : Nat → Int32) : Prop :=
  (z.1 2 = nI N ∧ N ≤ ct as n) ∧ (∀ t, t < n → z.2 5 t = if as t = true then nI (c t) else -1) ∧ (∀ t, t < n → as t = true → c t < N ∧ as (r t) = true ∧ c (r t) = c t) ∧
  (∀ x, x < n → r x = x → as x = true → K' (c x) = K x ∧ TP K L R as c x (A (c x)) (B (c x)) ∧ (2 ≤ K x → c (L x) < c x ∧ c (R x) < c x)) ∧
  (∀ j, j < N → ∃ t, t < n ∧ as t = true ∧ c t = j) ∧ (∀ j, j < N → z.2 6 j = nI (K' j) ∧ z.2 7 j = A j ∧ z.2 8 j = B j) ∧ (∀ i j, i < N → j < N → K' i = K' j → A i = A j → B i = B j → i = j)
theorem NB.ext {z z' : St} {n N N1 j x t : Nat} {K L R r c K' K1 : Nat → Nat} {as : Nat → Bool} {A B A1 B1 : Nat → Int32} {a b : Int32} (hn : n ≤ 600) (h : NB z n K L R r as c N K' A B) (hr : ∀ s, s < n → r s < n ∧ r (r s) = r s) (hLR : ∀ t, t < n → 2 ≤ K t → L t < n ∧ R t < n) (hx : x < n) (hrx : r x = x) (ht : t < n) (hrt : r t = x) (hT : TP K L R as c x a b)
    (h1 : ∀ i, i < N → K1 i = K' i ∧ A1 i = A i ∧ B1 i = B i) (hj : j < N1) (hKj : K1 j = K x ∧ A1 j = a ∧ B1 j = b) (hN : N1 = N ∨ (j = N ∧ N1 = N + 1 ∧ ∀ i, i < N → ¬ (K' i = K x ∧ A i = a ∧ B i = b)))
    (g2 : z'.1 2 = nI N1) (g5 : ∀ s, s < n → z'.2 5 s = if s = x ∨ s = t then nI j else z.2 5 s) (g6 : ∀ i, i < N1 → z'.2 6 i = nI (K1 i) ∧ z'.2 7 i = A1 i ∧ z'.2 8 i = B1 i) :
    ∃ as' c', NB z' n K L R r as' c' N1 K1 A1 B1 ∧ as' t = true ∧ c' t = j ∧ ∀ s, as s = true → s < n → as' s = true ∧ c' s = c s := by
  obtain ⟨⟨b1, b2⟩, b3, b4, b5, b6, b7, b8⟩ := h
  have hbig : ∀ s, s < n → as s = true → c s < 2 ^ 31 := fun s hs q => by
    have := (b4 s hs q).1
    have := ct_le as n
    omega
  have huniq : ∀ y, y < n → r y = y → as y = true → K y = K x → A (c y) = a → B (c y) = b → c y = j := fun y hy hry q q1 q2 q3 => by
    have p1 := (b4 y hy q).1
    have p2 := (b5 y hy hry q).1
    rcases hN with e | ⟨e1, e2, e3⟩
    · have := h1 j (by omega)
      exact b8 _ _ p1 (by omega) (by rw [p2, q1, ← this.1, hKj.1]) (by rw [q2, ← this.2.1, hKj.2.1]) (by rw [q3, ← this.2.2, hKj.2.2])
    · exact absurd ⟨by rw [p2, q1], q2, q3⟩ (e3 _ p1)
  have hasx : as x = true → c x = j := fun q => by
    obtain ⟨p1, ⟨p2, p3, p4⟩, p5⟩ := b5 x hx hrx q
    obtain ⟨t1, t2, t3⟩ := hT
    have hk : K x = 0 ∨ K x = 1 ∨ 2 ≤ K x := by omega
    rcases hk with hk | hk | hk
    · exact huniq x hx hrx q rfl (by rw [(p2 hk).1, (t1 hk).1]) (by rw [(p2 hk).2, (t1 hk).2])
    · exact huniq x hx hrx q rfl (by rw [(p3 hk).1, (t2 hk).1]) (by rw [(p3 hk).2, (t2 hk).2])
    · exact huniq x hx hrx q rfl (by rw [(p4 hk).2.2.1, (t3 hk).2.2.1]) (by rw [(p4 hk).2.2.2, (t3 hk).2.2.2])
  have hagree : ∀ s, as s = true → s < n → (if s = x ∨ s = t then j else c s) = c s := fun s q hs => by
    by_cases e : s = x ∨ s = t
    · rw [if_pos e]
      rcases e with e | e
      · rw [e] at q ⊢; exact (hasx q).symm
      · rw [e] at q ⊢
        obtain ⟨p1, p2, p3⟩ := b4 t ht q
        rw [hrt] at p2 p3
        rw [← p3]; exact (hasx p2).symm
    · rw [if_neg e]
  have hN1 : N ≤ N1 := by omega
  have hlow : 2 ≤ K x → c (L x) < j ∧ c (R x) < j := fun hk => by
    obtain ⟨t1, t2, t3, t4⟩ := hT.2.2 hk
    obtain ⟨q1, q2⟩ := hLR x hx hk
    rcases hN with e | ⟨e1, e2, e3⟩
    · obtain ⟨s, s1, s2, s3⟩ := b6 j (by omega)
      obtain ⟨u1, u2, u3⟩ := b4 s s1 s2
      obtain ⟨w1, w2, w3⟩ := b5 (r s) (hr s s1).1 (hr s s1).2 u2
      rw [u3, s3] at w1 w2 w3
      have hj1 := h1 j (by omega)
      have hk2 : 2 ≤ K (r s) := by rw [← w1, ← hj1.1, hKj.1]; exact hk
      obtain ⟨p1, p2, p3, p4⟩ := w2.2.2 hk2
      rw [← hj1.2.1, hKj.2.1, t3] at p3
      rw [← hj1.2.2, hKj.2.2, t4] at p4
      obtain ⟨y1, y2⟩ := hLR (r s) (hr s s1).1 hk2
      rw [neq (hbig _ q1 t1) (hbig _ y1 p1)] at p3
      rw [neq (hbig _ q2 t2) (hbig _ y2 p2)] at p4
      rw [p3, p4]; exact w3 hk2
    · rw [e1]; exact ⟨(b4 _ q1 t1).1, (b4 _ q2 t2).1⟩
  refine ⟨fun s => as s || decide (s = x ∨ s = t), fun s => if s = x ∨ s = t then j else c s, ⟨⟨g2, ?_⟩, fun s hs => ?_, fun s hs q => ?_, fun y hy hry q => ?_, fun i hi => ?_, g6, fun i i' hi hi' e1 e2 e3 => ?_⟩, by simp, by simp, fun s q hs => ⟨by simp [q], hagree s q hs⟩⟩
  · have hm : ct as n ≤ ct (fun s => as s || decide (s = x ∨ s = t)) n := ct_mono n (fun s _ q => by simp [q])
    rcases hN with e | ⟨e1, e2, e3⟩
    · omega
    · have hnx : as x = false := by
        cases q : as x with
        | false => rfl
        | true => have := hasx q; have := (b4 x hx q).1; omega
      have h2 := ct_flip (p := fun s => as s || decide (s = x)) (p' := as) (x := x) (by simp) hnx (fun s hs => by simp [hs]) n hx
      have h3 : ct (fun s => as s || decide (s = x)) n ≤ ct (fun s => as s || decide (s = x ∨ s = t)) n := ct_mono n (fun s _ q => by
        simp only [Bool.or_eq_true, decide_eq_true_eq] at q ⊢
        rcases q with q | q
        · exact Or.inl q
        · exact Or.inr (Or.inl q))
      omega
  · rw [g5 s hs, b3 s hs]
    by_cases e : s = x ∨ s = t
    · simp [e]
    · simp [e]
  · dsimp only at q ⊢
    by_cases e : s = x ∨ s = t
    · have hrs : r s = x := by rcases e with e | e <;> rw [e] <;> assumption
      rw [hrs]; simp [e, hj]
    · simp only [e, decide_false, Bool.or_false] at q
      obtain ⟨p1, p2, p3⟩ := b4 s hs q
      rw [hagree _ p2 (hr s hs).1, if_neg e, p3, p2]
      exact ⟨by omega, rfl, rfl⟩
  · dsimp only at q ⊢
    by_cases e : y = x ∨ y = t
    · have hyx : y = x := by
        rcases e with e | e
        · exact e
        · rw [e] at hry ⊢; exact hry.symm.trans hrt
      rw [if_pos e, hKj.1, hKj.2.1, hKj.2.2, hyx]
      refine ⟨rfl, ⟨hT.1, hT.2.1, fun hk => ?_⟩, fun hk => ?_⟩
      · obtain ⟨t1, t2, t3, t4⟩ := hT.2.2 hk
        obtain ⟨q1, q2⟩ := hLR x hx hk
        dsimp only
        rw [hagree _ t1 q1, hagree _ t2 q2, t1, t2]
        exact ⟨rfl, rfl, t3, t4⟩
      · obtain ⟨t1, t2, t3, t4⟩ := hT.2.2 hk
        obtain ⟨q1, q2⟩ := hLR x hx hk
        rw [hagree _ t1 q1, hagree _ t2 q2]; exact hlow hk
    · simp only [e, decide_false, Bool.or_false] at q
      rw [if_neg e]
      obtain ⟨p1, ⟨p2, p3, p4⟩, p5⟩ := b5 y hy hry q
      obtain ⟨w1, w2, w3⟩ := h1 _ (b4 y hy q).1
      rw [w1, w2, w3]
      refine ⟨p1, ⟨p2, p3, fun hk => ?_⟩, fun hk => ?_⟩
      · obtain ⟨t1, t2, t3, t4⟩ := p4 hk
        obtain ⟨q1, q2⟩ := hLR y hy hk
        dsimp only
        rw [hagree _ t1 q1, hagree _ t2 q2, t1, t2]
        exact ⟨rfl, rfl, t3, t4⟩
      · obtain ⟨t1, t2, t3, t4⟩ := p4 hk
        obtain ⟨q1, q2⟩ := hLR y hy hk
        rw [hagree _ t1 q1, hagree _ t2 q2]; exact p5 hk
  · by_cases e : i < N
    · obtain ⟨s, s1, s2, s3⟩ := b6 i e
      exact ⟨s, s1, by simp [s2], by dsimp only; rw [hagree s s2 s1]; exact s3⟩
    · exact ⟨x, hx, by simp, by dsimp only; rw [if_pos (Or.inl rfl)]; omega⟩
  · by_cases f1 : i < N
    · by_cases f2 : i' < N
      · rw [(h1 i f1).1, (h1 i' f2).1] at e1
        rw [(h1 i f1).2.1, (h1 i' f2).2.1] at e2
        rw [(h1 i f1).2.2, (h1 i' f2).2.2] at e3
        exact b8 i i' f1 f2 e1 e2 e3
      · rcases hN with e | ⟨g1, g2, g3⟩
        · omega
        · have : i' = j := by omega
          rw [this, hKj.1, (h1 i f1).1] at e1
          rw [this, hKj.2.1, (h1 i f1).2.1] at e2
          rw [this, hKj.2.2, (h1 i f1).2.2] at e3
          exact absurd ⟨e1, e2, e3⟩ (g3 i f1)
    · by_cases f2 : i' < N
      · rcases hN with e | ⟨g1, g2, g3⟩
        · omega
        · have : i = j := by omega
          rw [this, hKj.1, (h1 i' f2).1] at e1
          rw [this, hKj.2.1, (h1 i' f2).2.1] at e2
          rw [this, hKj.2.2, (h1 i' f2).2.2] at e3
          exact absurd ⟨e1.symm, e2.symm, e3.symm⟩ (g3 i' f2)
      · omega
/-- what a call of numbered brings about -/
def NR (z z' : St) (n : Nat) (K L R r : Nat → Nat) (as : Nat → Bool) (c : Nat → Nat) (N t : Nat) (res : Int32) : Prop :=
  ∃ as' c' N' K' A B, NB z' n K L R r as' c' N' K' A B ∧ as' t = true ∧ res = nI (c' t) ∧ (∀ s, as s = true → s < n → as' s = true ∧ c' s = c s) ∧ N ≤ N' ∧ (∀ j, j < N → z'.2 9 j = z.2 9 j) ∧ (∀ j, N ≤ j → j < N' → z'.2 9 j = -1) ∧ (∀ k, k ≠ 2 → z'.1 k = z.1 k) ∧ ∀ k, (k < 5 ∨ 10 ≤ k) → z'.2 k = z.2 k
theorem m_l91 {z : St} {n N x t : Nat} {K L R r c K' : Nat → Nat} {as : Nat → Bool} {A B : Nat → Int32} {a b : Int32} (hn : n ≤ 600) (h : NB z n K L R r as c N K' A B) (hK : ro z 0 n K) (h4 : ∀ t, t < n → K t < 4) (hr : ∀ s, s < n → r s < n ∧ r (r s) = r s) (hLR : ∀ t, t < n → 2 ≤ K t → L t < n ∧ R t < n) (hx : x < n) (hrx : r x = x) (ht : t < n) (hrt : r t = x) (hT : TP K L R as c x a b) : ∀ (k i : Nat), i ≤ N → N - i < k → (∀ j, j < i → ¬ (K' j = K x ∧ A j = a ∧ B j = b)) →
    ∃ z' res, f_M_numbered_l91 k z (nI i) b a (nI x) (nI t) = some (res, z') ∧ NR z z' n K L R r as c N t res := by
  obtain ⟨⟨b1, b2⟩, b3, b4, b5, b6, b7, b8⟩ := id h
  have hNn : N ≤ n := Nat.le_trans b2 (ct_le as n)
  have h4x := h4 x hx
  intro k
  induction k with
  | zero => intro i _ h; omega
  | succ k ih =>
    intro i hi hk hno
    rw [f_M_numbered_l91, b1]
    by_cases q : i = N
    · subst q
      rw [if_pos (Int32.le_refl _), if_pos rfl]
      simp only [ix_f (show x < 1000 by omega) (show 1000 < 2 ^ 31 by decide), ix_f (show i < 1000 by omega) (show 1000 < 2 ^ 31 by decide), ix_f (show t < 1000 by omega) (show 1000 < 2 ^ 31 by decide), ix_g (show x < 1000 by omega) (show 1000 < 2 ^ 31 by decide), ix_g (show i < 1000 by omega) (show 1000 < 2 ^ 31 by decide), ix_g (show t < 1000 by omega) (show 1000 < 2 ^ 31 by decide), cl_ (show x < 2 ^ 31 by omega), cl_ (show i < 2 ^ 31 by omega), cl_ (show t < 2 ^ 31 by omega), war_1, b1, nI_1, hK x hx, war_s]
      refine ⟨_, _, rfl, ?_⟩
      obtain ⟨as', c', e1, e2, e3, e4⟩ := NB.ext (z' := war (war (wsc (war (war (war (war z 6 i (nI (K x))) 7 i a) 8 i b) 9 i (-1)) 2 (nI (i + 1))) 5 x (nI i)) 5 t (nI i)) (N1 := i + 1) (j := i) (K1 := us_up K' i (K x)) (A1 := fun s => if s = i then a else A s) (B1 := fun s => if s = i then b else B s) hn h hr hLR hx hrx ht hrt hT (fun s hs => ⟨us_up_n _ (by omega), if_neg (by omega), if_neg (by omega)⟩) (by omega) ⟨us_up_s _ _ _, if_pos rfl, if_pos rfl⟩ (Or.inr ⟨rfl, rfl, hno⟩)
        (by simp only [war_1]; exact wsc_s _ _ _) (fun s hs => by
          by_cases f2 : s = t
          · rw [f2, war_s, if_pos (Or.inr rfl)]
          · rw [war_i _ _ f2]
            by_cases f1 : s = x
            · rw [f1, war_s, if_pos (Or.inl rfl)]
            · rw [war_i _ _ f1, wsc_2, war_n _ _ (by decide), war_n _ _ (by decide), war_n _ _ (by decide), war_n _ _ (by decide), if_neg (fun q => q.elim f1 f2)])
        (fun s hs => by
          have r6 : (war (war (wsc (war (war (war (war z 6 i (nI (K x))) 7 i a) 8 i b) 9 i (-1)) 2 (nI (i + 1))) 5 x (nI i)) 5 t (nI i)).2 6 s = if s = i then nI (K x) else z.2 6 s := by simp [wsc, war, wal, upd]
          have r7 : (war (war (wsc (war (war (war (war z 6 i (nI (K x))) 7 i a) 8 i b) 9 i (-1)) 2 (nI (i + 1))) 5 x (nI i)) 5 t (nI i)).2 7 s = if s = i then a else z.2 7 s := by simp [wsc, war, wal, upd]
          have r8 : (war (war (wsc (war (war (war (war z 6 i (nI (K x))) 7 i a) 8 i b) 9 i (-1)) 2 (nI (i + 1))) 5 x (nI i)) 5 t (nI i)).2 8 s = if s = i then b else z.2 8 s := by simp [wsc, war, wal, upd]
          rw [r6, r7, r8]
          by_cases f : s = i
          · rw [if_pos f, if_pos f, if_pos f, f, us_up_s, if_pos rfl, if_pos rfl]; exact ⟨rfl, rfl, rfl⟩
          · rw [if_neg f, if_neg f, if_neg f, us_up_n _ f, if_neg f, if_neg f]; exact b7 s (by omega))
      have r9 : ∀ s, (war (war (wsc (war (war (war (war z 6 i (nI (K x))) 7 i a) 8 i b) 9 i (-1)) 2 (nI (i + 1))) 5 x (nI i)) 5 t (nI i)).2 9 s = if s = i then -1 else z.2 9 s := fun s => by simp [wsc, war, wal, upd]
      refine ⟨as', c', i + 1, _, _, _, e1, e2, by rw [e3], e4, by omega, fun j hj => ?_, fun j h1 h2 => ?_, fun k hk => ?_, fun k hk => ?_⟩
      · rw [r9, if_neg (by omega)]
      · rw [r9, if_pos (by omega)]
      · simp only [war_1]; rw [wsc_n _ _ hk]; simp only [war_1]
      · rw [war_n _ _ (by omega), war_n _ _ (by omega), wsc_2, war_n _ _ (by omega), war_n _ _ (by omega), war_n _ _ (by omega), war_n _ _ (by omega)]
    · obtain ⟨s6, s7, s8⟩ := b7 i (by omega)
      have hK'4 : K' i < 4 := by
        obtain ⟨s, s1, s2, s3⟩ := b6 i (by omega)
        obtain ⟨u1, u2, u3⟩ := b4 s s1 s2
        have := (b5 (r s) (hr s s1).1 (hr s s1).2 u2).1
        rw [u3, s3] at this
        rw [this]; exact h4 _ (hr s s1).1
      rw [if_neg (nI_ge (by omega) (by omega))]
      simp only [ix_f (show x < 1000 by omega) (show 1000 < 2 ^ 31 by decide), ix_f (show i < 1000 by omega) (show 1000 < 2 ^ 31 by decide), ix_f (show t < 1000 by omega) (show 1000 < 2 ^ 31 by decide), ix_g (show x < 1000 by omega) (show 1000 < 2 ^ 31 by decide), ix_g (show i < 1000 by omega) (show 1000 < 2 ^ 31 by decide), ix_g (show t < 1000 by omega) (show 1000 < 2 ^ 31 by decide), cl_ (show x < 2 ^ 31 by omega), cl_ (show i < 2 ^ 31 by omega), cl_ (show t < 2 ^ 31 by omega), s6, s7, s8, hK x hx, neq (show K' i < 2 ^ 31 by omega) (show K x < 2 ^ 31 by omega), neq (show i < 2 ^ 31 by omega) (show N < 2 ^ 31 by omega)]
      have next : ¬ (K' i = K x ∧ A i = a ∧ B i = b) → ∃ z' res, f_M_numbered_l91 k z (nI i + 1) b a (nI x) (nI t) = some (res, z') ∧ NR z z' n K L R r as c N t res := fun hne => by
        rw [nI_1]
        exact ih (i + 1) (by omega) (by omega) (fun j hj => by
          by_cases f : j = i
          · rw [f]; exact hne
          · exact hno j (by omega))
      by_cases q1 : K' i = K x
      · rw [if_pos q1]
        by_cases q2 : A i = a
        · rw [if_pos q2]
          by_cases q3 : B i = b
          · rw [if_pos q3, if_neg q, war_s, war_s]
            refine ⟨_, _, rfl, ?_⟩
            obtain ⟨as', c', e1, e2, e3, e4⟩ := NB.ext (z' := war (war z 5 x (nI i)) 5 t (nI i)) (N1 := N) (j := i) (K1 := K') (A1 := A) (B1 := B) hn h hr hLR hx hrx ht hrt hT (fun s hs => ⟨rfl, rfl, rfl⟩) (by omega) ⟨q1, q2, q3⟩ (Or.inl rfl) b1 (fun s hs => by
              by_cases f2 : s = t
              · rw [f2, war_s, if_pos (Or.inr rfl)]
              · rw [war_i _ _ f2]
                by_cases f1 : s = x
                · rw [f1, war_s, if_pos (Or.inl rfl)]
                · rw [war_i _ _ f1, if_neg (fun q => q.elim f1 f2)]) (fun s hs => by
              rw [war_n _ _ (by decide), war_n _ _ (by decide), war_n _ _ (by decide), war_n _ _ (by decide), war_n _ _ (by decide), war_n _ _ (by decide)]; exact b7 s hs)
            refine ⟨as', c', N, _, _, _, e1, e2, by rw [e3], e4, by omega, fun j hj => ?_, fun j h1 h2 => by omega, fun k hk => rfl, fun k hk => ?_⟩
            · rw [war_n _ _ (by decide), war_n _ _ (by decide)]
            · rw [war_n _ _ (by omega), war_n _ _ (by omega)]
          · rw [if_neg q3]; exact next (fun p => q3 p.2.2)
        · rw [if_neg q2]; exact next (fun p => q2 p.2.1)
      · rw [if_neg q1]; exact next (fun p => q1 p.1)
