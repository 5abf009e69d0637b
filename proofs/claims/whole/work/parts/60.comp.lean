/-! Both sides together: what they measure and count is the same. -/
theorem cf_re.flip {n : Nat} {c c' : Nat → Nat} {x y : Nat} (h : cf_re n c c' x y) : cf_re n c' c y x := by
  obtain ⟨t, h1, h2, h3⟩ := h
  exact ⟨t, h1, h3, h2⟩
theorem cf_meas {n : Nat} {P P' : Nat → Prop} {c K F S k c' K' F' S' k' : Nat → Nat} {M : (Nat → Nat) → Prop} (h : cf_ok n P c K F S k) (hM : cf_sem n P c K F S M) (h' : cf_ok n P' c' K' F' S' k') (hM' : cf_sem n P' c' K' F' S' M) {g : Nat → Int32 → Int32 → Int32} (hg : g_low g) {f f' : Nat → Int32} (hf : fR g P K F S f) (hf' : fR g P' K' F' S' f') : ∀ (m x y : Nat), k x < m → cf_re n c c' x y → f x = f' y := by
  intro m
  induction m with
  | zero => intro x y h; omega
  | succ m ih =>
    intro x y hm hr
    have hP : P x := by obtain ⟨t, ht, rfl, -⟩ := hr; exact h.1 t ht
    have hP' : P' y := by obtain ⟨t, ht, -, rfl⟩ := hr; exact h'.1 t ht
    have hk := cf_kind h hM h' hM' hr
    rw [hf x hP, hf' y hP', ← hk]
    by_cases e : K x < 2
    · exact hg _ _ _ _ _ e
    · obtain ⟨r1, r2⟩ := cf_parts h hM h' hM' hr (by omega)
      obtain ⟨-, -, p3, p4⟩ := (h.2.2.1 x hP).2 (by omega)
      rw [ih _ _ (by omega) r1, ih _ _ (by omega) r2]
theorem cf_rch {n : Nat} {P P' : Nat → Prop} {c K F S k c' K' F' S' k' : Nat → Nat} {M : (Nat → Nat) → Prop} (h : cf_ok n P c K F S k) (hM : cf_sem n P c K F S M) (h' : cf_ok n P' c' K' F' S' k') (hM' : cf_sem n P' c' K' F' S' M) {A A' : Nat → Bool} {t : Nat} (ht : t < n) (hA : rch P K F S (c t) A) (hA' : rch P' K' F' S' (c' t) A') : ∀ x, A x = true → ∀ y, cf_re n c c' x y → A' y = true := by
  refine hA.2.2 (fun x => ∀ y, cf_re n c c' x y → A' y = true) (fun y hy => ?_) (fun x hx hQ h2 => ?_)
  · rw [← (cf_one h hM h' hM' ⟨t, ht, rfl, rfl⟩ hy).mp rfl]; exact hA'.1
  · obtain ⟨s, hs, rfl⟩ := h.2.1 x hx
    have hr : cf_re n c c' (c s) (c' s) := ⟨s, hs, rfl, rfl⟩
    have h2' : 2 ≤ K' (c' s) := by rw [← cf_kind h hM h' hM' hr]; exact h2
    obtain ⟨q1, q2⟩ := hA'.2.1 _ (h'.1 s hs) (hQ _ hr) h2'
    obtain ⟨r1, r2⟩ := cf_parts h hM h' hM' hr h2
    refine ⟨fun y hy => ?_, fun y hy => ?_⟩
    · rw [← (cf_one h hM h' hM' r1 hy).mp rfl]; exact q1
    · rw [← (cf_one h hM h' hM' r2 hy).mp rfl]; exact q2
theorem ct_inj {m : Nat} : ∀ (n : Nat) (p q : Nat → Bool) (f : Nat → Nat), (∀ i, i < n → p i = true → f i < m ∧ q (f i) = true) → (∀ i j, i < n → j < n → p i = true → p j = true → f i = f j → i = j) → ct p n ≤ ct q m := by
  intro n
  induction n with
  | zero => intro p q f _ _; exact Nat.zero_le _
  | succ n ih =>
    intro p q f h1 h2
    simp only [ct]
    by_cases e : p n = true
    · rw [if_pos e]
      obtain ⟨a1, a2⟩ := h1 n (by omega) e
      have hfl := ct_flip (p := q) (p' := fun t => q t && decide (t ≠ f n)) (x := f n) a2 (by simp) (fun t ht => by simp [ht]) m a1
      have := ih p (fun t => q t && decide (t ≠ f n)) f (fun i hi hp => by
        obtain ⟨b1, b2⟩ := h1 i (by omega) hp
        refine ⟨b1, ?_⟩
        have : f i ≠ f n := fun q => by have := h2 i n (by omega) (by omega) hp e q; omega
        simp [b2, this]) (fun i j hi hj => h2 i j (by omega) (by omega))
      omega
    · rw [if_neg e]
      exact ih p q f (fun i hi => h1 i (by omega)) (fun i j hi hj => h2 i j (by omega) (by omega))
theorem ct_true (n : Nat) : ct (fun _ => true) n = n := by
  induction n with
  | zero => rfl
  | succ n ih => simp only [ct, ih]; rfl
/-- counts over the leaders and over the numbers -/
theorem cnt_eq {z y : St} {n m e N : Nat} {M : (Nat → Nat) → Prop} {ld ls od K F S ps c K' F' S' ls' : Nat → Nat} (hD : XD z n M m ld ls od K F S ps e) (hU : NU y n M N c K' F' S' ls') {p q : Nat → Bool} (hpq : ∀ x i, cf_re n ld c x i → p x = q i) : ct (fun j => p (od j)) m = ct q N := by
  obtain ⟨⟨a1, a2, a3, a4⟩, ⟨b1, b2⟩, c1, c2, c3, c4, c5, c6, c7, c8, c9, c10⟩ := id hD
  obtain ⟨⟨u1, u2⟩, u3, u4, u5, u6⟩ := id hU
  have hre : ∀ t, t < n → cf_re n ld c (ld t) (c t) := fun t ht => ⟨t, ht, rfl, rfl⟩
  have hod : ∀ j, j < m → cf_re n ld c (od j) (c (od j)) := fun j hj => by
    have h := (c5 j hj).2.1
    have := hre _ h.1
    rw [h.2] at this
    exact this
  have hls : ∀ i, i < N → cf_re n ld c (ld (ls' i)) i := fun i hi => by
    obtain ⟨-, -, -, w1, w2, -⟩ := u4 i hi
    have := hre _ w1
    rw [w2] at this
    exact this
  refine Nat.le_antisymm (ct_inj m _ _ (fun j => c (od j)) (fun j hj hp => ⟨u5.1 _ (c5 j hj).2.1.1, ?_⟩) (fun i j hi hj _ _ he => ?_)) (ct_inj N _ _ (fun i => ps (ld (ls' i))) (fun i hi hq => ?_) (fun i j hi hj _ _ he => ?_))
  · rw [← hpq _ _ (hod j hj)]; exact hp
  · have := (cf_one c8 c9 u5 u6 (hod i hi) (hod j hj)).mpr he
    have h1 := (c5 i hi).2.2
    have h2 := (c5 j hj).2.2
    rw [this] at h1
    omega
  · obtain ⟨-, -, -, w1, w2, -⟩ := u4 i hi
    obtain ⟨p1, p2⟩ := c6 _ (c8.1 _ w1)
    exact ⟨p1, by rw [p2, hpq _ _ (hls i hi)]; exact hq⟩
  · obtain ⟨-, -, -, w1, w2, -⟩ := u4 i hi
    obtain ⟨-, -, -, w3, w4, -⟩ := u4 j hj
    obtain ⟨p1, p2⟩ := c6 _ (c8.1 _ w1)
    obtain ⟨p3, p4⟩ := c6 _ (c8.1 _ w3)
    rw [he, p4] at p2
    exact (cf_one c8 c9 u5 u6 (hls i hi) (hls j hj)).mp p2.symm
theorem gB_tr {n : Nat} {P P' : Nat → Prop} {c K F S k c' K' F' S' k' : Nat → Nat} {M : (Nat → Nat) → Prop} (h : cf_ok n P c K F S k) (hM : cf_sem n P c K F S M) (h' : cf_ok n P' c' K' F' S' k') (hM' : cf_sem n P' c' K' F' S' M) {s t : Nat} (hs : s < n) (ht : t < n) {Q : Nat → Nat → Prop} (hQ : gB P K F S Q) (hst : Q (c s) (c t)) : ∃ Q', gB P' K' F' S' Q' ∧ Q' (c' s) (c' t) := by
  refine ⟨fun y y' => ∃ x x', cf_re n c c' x y ∧ cf_re n c c' x' y' ∧ Q x x', ⟨fun y y' => ?_, fun y y1 y2 => ?_, fun y1 y2 y => ?_⟩, c s, c t, ⟨s, hs, rfl, rfl⟩, ⟨t, ht, rfl, rfl⟩, hst⟩
  · rintro ⟨x, x', r1, r2, q⟩
    obtain ⟨p1, p2, p3, p4⟩ := hQ.1 x x' q
    refine ⟨by obtain ⟨t, ht, -, rfl⟩ := r1; exact h'.1 t ht, by obtain ⟨t, ht, -, rfl⟩ := r2; exact h'.1 t ht, by rw [← cf_kind h hM h' hM' r1, ← cf_kind h hM h' hM' r2]; exact p3, fun h2 => ?_⟩
    rw [← cf_kind h hM h' hM' r1] at h2
    obtain ⟨q1, q2⟩ := p4 h2
    obtain ⟨w1, w2⟩ := cf_parts h hM h' hM' r1 h2
    obtain ⟨w3, w4⟩ := cf_parts h hM h' hM' r2 (by omega)
    exact ⟨⟨_, _, w1, w3, q1⟩, ⟨_, _, w2, w4, q2⟩⟩
  · rintro ⟨x, x', r1, r2, q⟩ ⟨x2, x2', r3, r4, q'⟩
    have e := (cf_one h hM h' hM' r1 r3).mpr rfl
    subst e
    have e := hQ.2.1 _ _ _ q q'
    subst e
    exact (cf_one h hM h' hM' r2 r4).mp rfl
  · rintro ⟨x, x', r1, r2, q⟩ ⟨x2, x2', r3, r4, q'⟩
    have e := (cf_one h hM h' hM' r2 r4).mpr rfl
    subst e
    have e := hQ.2.2 _ _ _ q q'
    subst e
    exact (cf_one h hM h' hM' r1 r3).mp rfl
