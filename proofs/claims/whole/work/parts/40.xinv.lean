/-! What a state of TypeBench stands for; a new leader, a new type that is like one. -/
abbrev LD (n : Nat) (ld : Nat → Nat) : Nat → Prop := fun x => x < n ∧ ld x = x
def XD (z : St) (n : Nat) (M : (Nat → Nat) → Prop) (m : Nat) (ld ls od K F S ps : Nat → Nat) (e : Nat) : Prop :=
  (1 ≤ n ∧ n ≤ 600 ∧ e ≤ n ∧ m ≤ n) ∧ (z.1 0 = nI n ∧ z.1 1 = nI m) ∧ ro z 0 n ld ∧ (∀ t, t < n → ld t < n ∧ ld (ld t) = ld t) ∧ shp z (LD n ld) K F S ∧
  (∀ x, LD n ld x → z.2 1 x = nI (ls x) ∧ ls x < n ∧ ld (ls x) = x ∧ ∀ t, t < ls x → ld t ≠ x) ∧
  (∀ i, i < m → z.2 2 i = nI (od i) ∧ LD n ld (od i) ∧ ps (od i) = i) ∧ (∀ x, LD n ld x → ps x < m ∧ od (ps x) = x) ∧
  HS z (fun x => LD n ld x ∧ 2 ≤ K x) K F S e ∧ cf_ok n (LD n ld) ld K F S ps ∧ cf_sem n (LD n ld) ld K F S M ∧ (∀ t, t < n → K t ≠ 0 → ld t = t)
def XI (z : St) (n : Nat) (M : (Nat → Nat) → Prop) : Prop := ∃ (m : Nat) (ld ls od K F S ps : Nat → Nat) (e : Nat), XD z n M m ld ls od K F S ps e
theorem XI.cong {z : St} {n : Nat} {M M' : (Nat → Nat) → Prop} (h : XI z n M) (he : ∀ v, M' v ↔ M v) : XI z n M' := by
  obtain ⟨m, ld, ls, od, K, F, S, ps, e, h1, h2, h3, h4, h5, h6, h7, h8, h9, h10, h11, h12⟩ := h
  exact ⟨m, ld, ls, od, K, F, S, ps, e, h1, h2, h3, h4, h5, h6, h7, h8, h9, h10, fun v => (he v).trans (h11 v), h12⟩
theorem lab_cong {P : Nat → Prop} {K F S u u' : Nat → Nat} (h : cf_lab P K F S u) (hu : ∀ x, P x → u' x = u x) (hP : ∀ x, P x → 2 ≤ K x → P (F x) ∧ P (S x)) : cf_lab P K F S u' := fun x hx =>
  ⟨fun e => by rw [hu x hx]; exact (h x hx).1 e, fun e => by rw [hu x hx, hu _ (hP x hx e).1, hu _ (hP x hx e).2]; exact (h x hx).2 e⟩
/-- one leader more -/
theorem cf_add {n m k0 f0 s0 : Nat} {ld K F S ps : Nat → Nat} {M : (Nat → Nat) → Prop} (h : cf_ok n (LD n ld) ld K F S ps) (hM : cf_sem n (LD n ld) ld K F S M) (hm : ∀ x, LD n ld x → ps x < m) (hk : k0 = 0 ∨ (2 ≤ k0 ∧ k0 < 4 ∧ LD n ld f0 ∧ LD n ld s0 ∧ ∀ x, LD n ld x → ¬ (K x = k0 ∧ F x = f0 ∧ S x = s0))) :
    (∀ x, LD (n + 1) (us_up ld n n) x ↔ LD n ld x ∨ x = n) ∧ cf_ok (n + 1) (LD (n + 1) (us_up ld n n)) (us_up ld n n) (us_up K n k0) (us_up F n f0) (us_up S n s0) (us_up ps n m) ∧
      cf_sem (n + 1) (LD (n + 1) (us_up ld n n)) (us_up ld n n) (us_up K n k0) (us_up F n f0) (us_up S n s0) (fun v => M v ∧ (2 ≤ k0 → v n = tm_N k0 (v f0) (v s0))) := by
  have hP : ∀ x, LD (n + 1) (us_up ld n n) x ↔ LD n ld x ∨ x = n := by
    intro x
    constructor
    · rintro ⟨h1, h2⟩
      by_cases e : x = n
      · exact Or.inr e
      · rw [us_up_n _ e] at h2; exact Or.inl ⟨by omega, h2⟩
    · rintro (⟨h1, h2⟩ | e)
      · exact ⟨by omega, by rw [us_up_n _ (by omega)]; exact h2⟩
      · rw [e]; exact ⟨by omega, us_up_s _ _ _⟩
  have old : ∀ (f : Nat → Nat) (w : Nat) {x : Nat}, LD n ld x → us_up f n w x = f x := fun f w x hx => us_up_n _ (by have := hx.1; omega)
  obtain ⟨a1, a2, a3, a4⟩ := h
  refine ⟨hP, ⟨fun t ht => ?_, fun x hx => ?_, fun x hx => ?_, fun x y hx hy hxy => ?_⟩, fun v => ?_⟩
  · rw [hP]
    by_cases e : t = n
    · rw [e, us_up_s]; exact Or.inr rfl
    · rw [us_up_n _ e]; exact Or.inl (a1 t (by omega))
  · rcases (hP x).mp hx with hx | hx
    · obtain ⟨t, ht, e⟩ := a2 x hx
      exact ⟨t, by omega, by rw [us_up_n _ (by omega)]; exact e⟩
    · exact ⟨n, by omega, by rw [us_up_s, hx]⟩
  · rcases (hP x).mp hx with hx | hx
    · obtain ⟨b1, b2⟩ := a3 x hx
      rw [old K _ hx, old F _ hx, old S _ hx, old ps _ hx]
      refine ⟨b1, fun q => ?_⟩
      obtain ⟨c1, c2, c3, c4⟩ := b2 q
      rw [old ps _ c1, old ps _ c2, hP, hP]
      exact ⟨Or.inl c1, Or.inl c2, c3, c4⟩
    · rw [hx, us_up_s, us_up_s, us_up_s, us_up_s]
      rcases hk with hk | ⟨k1, k2, k3, k4, k5⟩
      · exact ⟨by omega, fun q => by omega⟩
      · refine ⟨k2, fun _ => ?_⟩
        rw [old ps _ k3, old ps _ k4, hP, hP]
        exact ⟨Or.inl k3, Or.inl k4, hm _ k3, hm _ k4⟩
  · have new : ∀ {x}, LD n ld x → us_up K n k0 x = k0 → (k0 = 1 → False) ∧ (2 ≤ k0 → us_up F n f0 x = f0 → us_up S n s0 x = s0 → False) := fun {x} hx hk1 => by
      rw [old K _ hx] at hk1
      rw [old F _ hx, old S _ hx]
      rcases hk with hk | ⟨k1, k2, k3, k4, k5⟩
      · exact ⟨fun q => by omega, fun q => by omega⟩
      · exact ⟨fun q => by omega, fun _ e1 e2 => k5 x hx ⟨hk1, e1, e2⟩⟩
    rcases (hP x).mp hx with hx | hx <;> rcases (hP y).mp hy with hy | hy
    · rw [old K _ hx, old K _ hy] at hxy
      rw [old K _ hx, old F _ hx, old S _ hx, old F _ hy, old S _ hy]
      exact a4 x y hx hy hxy
    · subst hy
      rw [us_up_s] at hxy ⊢
      obtain ⟨q1, q2⟩ := new hx hxy
      rw [hxy]
      exact ⟨fun q => (q1 q).elim, fun q e1 e2 => (q2 q (by first | exact e1 | rw [e1, us_up_s]) (by first | exact e2 | rw [e2, us_up_s])).elim⟩
    · subst hx
      rw [us_up_s] at hxy ⊢
      obtain ⟨q1, q2⟩ := new hy hxy.symm
      exact ⟨fun q => (q1 q).elim, fun q e1 e2 => (q2 q (by first | exact e1.symm | rw [← e1, us_up_s]) (by first | exact e2.symm | rw [← e2, us_up_s])).elim⟩
    · exact ⟨fun _ => by rw [hx, hy], fun _ _ _ => by rw [hx, hy]⟩
  · have hPF : ∀ x, LD n ld x → 2 ≤ K x → LD n ld (F x) ∧ LD n ld (S x) := fun x hx q => ⟨((a3 x hx).2 q).1, ((a3 x hx).2 q).2.1⟩
    constructor
    · rintro ⟨h1, h2⟩
      obtain ⟨u, u1, u2⟩ := (hM v).mp h1
      refine ⟨us_up u n (v n), fun t ht => ?_, fun x hx => ?_⟩
      · by_cases e : t = n
        · rw [e, us_up_s, us_up_s]
        · rw [us_up_n _ e, old u _ (a1 t (by omega))]; exact u1 t (by omega)
      · rcases (hP x).mp hx with hx | hx
        · rw [old K _ hx, old F _ hx, old S _ hx, old u _ hx]
          refine ⟨(u2 x hx).1, fun q => ?_⟩
          rw [old u _ (hPF x hx q).1, old u _ (hPF x hx q).2]
          exact (u2 x hx).2 q
        · rw [hx, us_up_s, us_up_s, us_up_s, us_up_s]
          rcases hk with hk | ⟨k1, k2, k3, k4, k5⟩
          · exact ⟨fun q => by omega, fun q => by omega⟩
          · refine ⟨fun q => by omega, fun q => ?_⟩
            rw [old u _ k3, old u _ k4, h2 q, u1 f0 k3.1, u1 s0 k4.1, k3.2, k4.2]
    · rintro ⟨u, u1, u2⟩
      have e1 : ∀ t, t < n → v t = u (ld t) := fun t ht => by have := u1 t (by omega); rw [us_up_n _ (by omega)] at this; exact this
      refine ⟨(hM v).mpr ⟨u, e1, fun x hx => ?_⟩, fun q => ?_⟩
      · have := u2 x ((hP x).mpr (Or.inl hx))
        rw [old K _ hx, old F _ hx, old S _ hx] at this
        exact this
      · rcases hk with hk | ⟨k1, k2, k3, k4, k5⟩
        · omega
        · have h1 := u1 n (by omega)
          have h2 := (u2 n ((hP n).mpr (Or.inr rfl))).2
          rw [us_up_s] at h1
          rw [us_up_s, us_up_s, us_up_s] at h2
          rw [h1, h2 q, e1 f0 k3.1, e1 s0 k4.1, k3.2, k4.2]
/-- one type more, like the leader w -/
theorem cf_like {n k0 f0 s0 w : Nat} {ld K F S ps : Nat → Nat} {M : (Nat → Nat) → Prop} (h : cf_ok n (LD n ld) ld K F S ps) (hM : cf_sem n (LD n ld) ld K F S M) (hw : LD n ld w) (hk : 2 ≤ k0) (hf : LD n ld f0) (hs : LD n ld s0) (e1 : K w = k0) (e2 : F w = f0) (e3 : S w = s0) :
    (∀ x, LD (n + 1) (us_up ld n w) x ↔ LD n ld x) ∧ cf_ok (n + 1) (LD (n + 1) (us_up ld n w)) (us_up ld n w) (us_up K n 0) F S ps ∧
      cf_sem (n + 1) (LD (n + 1) (us_up ld n w)) (us_up ld n w) (us_up K n 0) F S (fun v => M v ∧ v n = tm_N k0 (v f0) (v s0)) := by
  have hP : ∀ x, LD (n + 1) (us_up ld n w) x ↔ LD n ld x := by
    intro x
    constructor
    · rintro ⟨h1, h2⟩
      by_cases e : x = n
      · rw [e, us_up_s] at h2; have := hw.1; omega
      · rw [us_up_n _ e] at h2; exact ⟨by omega, h2⟩
    · rintro ⟨h1, h2⟩
      exact ⟨by omega, by rw [us_up_n _ (by omega)]; exact h2⟩
  have old : ∀ {x : Nat}, LD n ld x → us_up K n 0 x = K x := fun {x} hx => us_up_n _ (by have := hx.1; omega)
  obtain ⟨a1, a2, a3, a4⟩ := h
  refine ⟨hP, ⟨fun t ht => ?_, fun x hx => ?_, fun x hx => ?_, fun x y hx hy hxy => ?_⟩, fun v => ?_⟩
  · rw [hP]
    by_cases e : t = n
    · rw [e, us_up_s]; exact hw
    · rw [us_up_n _ e]; exact a1 t (by omega)
  · obtain ⟨t, ht, e⟩ := a2 x ((hP x).mp hx)
    exact ⟨t, by omega, by rw [us_up_n _ (by omega)]; exact e⟩
  · rw [hP] at hx
    rw [old hx, hP, hP]; exact a3 x hx
  · rw [hP] at hx hy
    rw [old hx, old hy] at hxy
    rw [old hx]; exact a4 x y hx hy hxy
  · have key : ∀ u : Nat → Nat, cf_lab (LD (n + 1) (us_up ld n w)) (us_up K n 0) F S u ↔ cf_lab (LD n ld) K F S u := fun u =>
      ⟨fun q x hx => by have := q x ((hP x).mpr hx); rw [old hx] at this; exact this, fun q x hx => by rw [hP] at hx; rw [old hx]; exact q x hx⟩
    constructor
    · rintro ⟨h1, h2⟩
      obtain ⟨u, u1, u2⟩ := (hM v).mp h1
      refine ⟨u, fun t ht => ?_, (key u).mpr u2⟩
      by_cases e : t = n
      · rw [e, us_up_s, h2, (u2 w hw).2 (by omega), e1, e2, e3, u1 f0 hf.1, u1 s0 hs.1, hf.2, hs.2]
      · rw [us_up_n _ e]; exact u1 t (by omega)
    · rintro ⟨u, u1, u2⟩
      have u2 := (key u).mp u2
      have o1 : ∀ t, t < n → v t = u (ld t) := fun t ht => by have := u1 t (by omega); rw [us_up_n _ (by omega)] at this; exact this
      refine ⟨(hM v).mpr ⟨u, o1, u2⟩, ?_⟩
      have h1 := u1 n (by omega)
      rw [us_up_s] at h1
      rw [h1, (u2 w hw).2 (by omega), e1, e2, e3, o1 f0 hf.1, o1 s0 hs.1, hf.2, hs.2]
