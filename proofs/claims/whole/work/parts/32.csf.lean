/-! Pure rows: a solved state, its classes told apart: what the labellings say. -/
/-- u labels the classes: a free one as it likes, ONE with one, a sum or pair by its parts -/
def cf_lab (P : Nat → Prop) (K F S u : Nat → Nat) : Prop := ∀ x, P x → (K x = 1 → u x = 1) ∧ (2 ≤ K x → u x = tm_N (K x) (u (F x)) (u (S x)))
/-- classes P, c t the class of t; K, F, S kind and parts; k falls from a whole to its parts -/
def cf_ok (n : Nat) (P : Nat → Prop) (c K F S k : Nat → Nat) : Prop :=
  (∀ t, t < n → P (c t)) ∧ (∀ x, P x → ∃ t, t < n ∧ c t = x) ∧
  (∀ x, P x → K x < 4 ∧ (2 ≤ K x → P (F x) ∧ P (S x) ∧ k (F x) < k x ∧ k (S x) < k x)) ∧
  (∀ x y, P x → P y → K x = K y → (K x = 1 → x = y) ∧ (2 ≤ K x → F x = F y → S x = S y → x = y))
def cf_sem (n : Nat) (P : Nat → Prop) (c K F S : Nat → Nat) (M : (Nat → Nat) → Prop) : Prop := ∀ v, M v ↔ ∃ u, (∀ t, t < n → v t = u (c t)) ∧ cf_lab P K F S u
/-- k falls from a whole to its parts -/
def cf_rk (P : Nat → Prop) (K F S k : Nat → Nat) : Prop := ∀ x, P x → 2 ≤ K x → P (F x) ∧ P (S x) ∧ k (F x) < k x ∧ k (S x) < k x
theorem cf_ok.rk {n : Nat} {P : Nat → Prop} {c K F S k : Nat → Nat} (h : cf_ok n P c K F S k) : cf_rk P K F S k := fun x hx => (h.2.2.1 x hx).2
/-- the labelling that gives a free class x the free type a x -/
def cf_u (K F S a : Nat → Nat) : Nat → Nat → Nat
  | 0, _ => 0
  | m + 1, x => if K x = 0 then tm_F (a x) else if K x = 1 then 1 else tm_N (K x) (cf_u K F S a m (F x)) (cf_u K F S a m (S x))
theorem cf_u_eq {P : Nat → Prop} {K F S k : Nat → Nat} (h : cf_rk P K F S k) (a : Nat → Nat) : ∀ (m m' x : Nat), P x → k x < m → k x < m' → cf_u K F S a m x = cf_u K F S a m' x := by
  intro m
  induction m with
  | zero => intro m' x _ h0; omega
  | succ m ih =>
    intro m' x hx h1 h2
    cases m' with
    | zero => omega
    | succ m' =>
      simp only [cf_u]
      split
      · rfl
      · split
        · rfl
        · rename_i e0 e1
          obtain ⟨p1, p2, p3, p4⟩ := h x hx (by omega)
          rw [ih m' (F x) p1 (by omega) (by omega), ih m' (S x) p2 (by omega) (by omega)]
/-- .. stands, whatever free types are given -/
theorem cf_gen0 {P : Nat → Prop} {K F S k : Nat → Nat} (h : cf_rk P K F S k) (a : Nat → Nat) : ∃ u, cf_lab P K F S u ∧ ∀ x, P x → K x = 0 → u x = tm_F (a x) := by
  refine ⟨fun x => cf_u K F S a (k x + 1) x, fun x hx => ⟨fun e => ?_, fun e => ?_⟩, fun x hx e => ?_⟩
  · simp [cf_u, e]
  · obtain ⟨p1, p2, p3, p4⟩ := h x hx e
    have e0 : K x ≠ 0 := by omega
    have e1 : K x ≠ 1 := by omega
    show cf_u K F S a (k x + 1) x = _
    simp only [cf_u, e0, e1, if_false]
    rw [cf_u_eq h a (k x) (k (F x) + 1) (F x) p1 p3 (by omega), cf_u_eq h a (k x) (k (S x) + 1) (S x) p2 p4 (by omega)]
    simp only [cf_u]
  · simp [cf_u, e]
theorem cf_gen {n : Nat} {P : Nat → Prop} {c K F S k : Nat → Nat} (h : cf_ok n P c K F S k) (a : Nat → Nat) : ∃ u, cf_lab P K F S u ∧ ∀ x, P x → K x = 0 → u x = tm_F (a x) := cf_gen0 h.rk a
theorem cf_lab.mod {P : Nat → Prop} {K F S u : Nat → Nat} (h : cf_lab P K F S u) {x : Nat} (hx : P x) (h0 : K x ≠ 0) (h4 : K x < 4) : u x % 4 = K x := by
  by_cases e : K x = 1
  · rw [(h x hx).1 e, e]
  · rw [(h x hx).2 (by omega)]; exact tm_N_mod h4
/-- .. and tells all classes apart, if it gives each free one its own -/
theorem cf_inj {n : Nat} {P : Nat → Prop} {c K F S k u : Nat → Nat} (h : cf_ok n P c K F S k) (hu : cf_lab P K F S u) (hf : ∀ x, P x → K x = 0 → u x = tm_F x) : ∀ (m x y : Nat), k x < m → P x → P y → u x = u y → x = y := by
  intro m
  induction m with
  | zero => intro x y h0; omega
  | succ m ih =>
    intro x y hm hx hy e
    have hk : K x = K y := by
      by_cases e0 : K x = 0
      · by_cases e1 : K y = 0
        · rw [e0, e1]
        · have h1 := hu.mod hy e1 (h.2.2.1 y hy).1
          rw [← e, hf x hx e0, tm_F_mod] at h1
          omega
      · have h1 := hu.mod hx e0 (h.2.2.1 x hx).1
        by_cases e1 : K y = 0
        · rw [e, hf y hy e1, tm_F_mod] at h1
          omega
        · have h2 := hu.mod hy e1 (h.2.2.1 y hy).1
          rw [← e, h1] at h2
          exact h2
    by_cases e0 : K x = 0
    · rw [hf x hx e0, hf y hy (by omega)] at e
      exact tm_F_inj e
    · by_cases e1 : K x = 1
      · exact (h.2.2.2 x y hx hy hk).1 e1
      · have e2 : 2 ≤ K x := by omega
        have e4 := (h.2.2.1 x hx).1
        obtain ⟨p1, p2, p3, p4⟩ := (h.2.2.1 x hx).2 e2
        obtain ⟨q1, q2, q3, q4⟩ := (h.2.2.1 y hy).2 (by omega)
        rw [(hu x hx).2 e2, (hu y hy).2 (by omega)] at e
        obtain ⟨-, i1, i2⟩ := tm_N_inj e2 e4 (by omega) (by omega) e
        exact (h.2.2.2 x y hx hy hk).2 e2 (ih _ _ (by omega) p1 q1 i1) (ih _ _ (by omega) p2 q2 i2)
theorem cf_same {n : Nat} {P : Nat → Prop} {c K F S k : Nat → Nat} {M : (Nat → Nat) → Prop} (h : cf_ok n P c K F S k) (hM : cf_sem n P c K F S M) {t s : Nat} (ht : t < n) (hs : s < n) : (∀ v, M v → v t = v s) ↔ c t = c s := by
  constructor
  · intro hv
    obtain ⟨u, hu, hf⟩ := cf_gen h (fun x => x)
    have h1 := hv (fun t => u (c t)) ((hM _).mpr ⟨u, fun _ _ => rfl, hu⟩)
    exact cf_inj h hu hf (k (c t) + 1) _ _ (Nat.lt_succ_self _) (h.1 t ht) (h.1 s hs) h1
  · intro e v hv
    obtain ⟨u, h1, -⟩ := (hM v).mp hv
    rw [h1 t ht, h1 s hs, e]
/-- two solved states of the same labellings: x there is y here -/
def cf_re (n : Nat) (c c' : Nat → Nat) (x y : Nat) : Prop := ∃ t, t < n ∧ c t = x ∧ c' t = y
theorem cf_kind {n : Nat} {P P' : Nat → Prop} {c K F S k c' K' F' S' k' : Nat → Nat} {M : (Nat → Nat) → Prop} (h : cf_ok n P c K F S k) (hM : cf_sem n P c K F S M) (h' : cf_ok n P' c' K' F' S' k') (hM' : cf_sem n P' c' K' F' S' M) {x y : Nat} (hr : cf_re n c c' x y) : K x = K' y := by
  obtain ⟨t, ht, rfl, rfl⟩ := hr
  have hx := h.1 t ht
  have hy := h'.1 t ht
  obtain ⟨u, hu, hf⟩ := cf_gen h (fun x => x)
  obtain ⟨u', hu', hf'⟩ := cf_gen h' (fun x => x)
  obtain ⟨w, hw, hlw⟩ := (hM' (fun t => u (c t))).mp ((hM _).mpr ⟨u, fun _ _ => rfl, hu⟩)
  obtain ⟨w', hw', hlw'⟩ := (hM (fun t => u' (c' t))).mp ((hM' _).mpr ⟨u', fun _ _ => rfl, hu'⟩)
  have a1 := hw t ht
  have a2 := hw' t ht

  by_cases e0 : K (c t) = 0
  · by_cases e1 : K' (c' t) = 0
    · rw [e0, e1]
    · have := hlw.mod hy e1 (h'.2.2.1 _ hy).1
      rw [← a1, hf _ hx e0, tm_F_mod] at this
      omega
  · have b := hlw'.mod hx e0 (h.2.2.1 _ hx).1
    by_cases e1 : K' (c' t) = 0
    · rw [← a2, hf' _ hy e1, tm_F_mod] at b
      omega
    · have b' := hu'.mod hy e1 (h'.2.2.1 _ hy).1
      rw [← a2, b'] at b
      exact b.symm
theorem cf_parts {n : Nat} {P P' : Nat → Prop} {c K F S k c' K' F' S' k' : Nat → Nat} {M : (Nat → Nat) → Prop} (h : cf_ok n P c K F S k) (hM : cf_sem n P c K F S M) (h' : cf_ok n P' c' K' F' S' k') (hM' : cf_sem n P' c' K' F' S' M) {x y : Nat} (hr : cf_re n c c' x y) (h2 : 2 ≤ K x) : cf_re n c c' (F x) (F' y) ∧ cf_re n c c' (S x) (S' y) := by
  have hk := cf_kind h hM h' hM' hr
  obtain ⟨t, ht, rfl, rfl⟩ := hr
  have hx := h.1 t ht
  have hy := h'.1 t ht
  have e4 := (h.2.2.1 _ hx).1
  obtain ⟨p1, p2, -, -⟩ := (h.2.2.1 _ hx).2 h2
  obtain ⟨q1, q2, -, -⟩ := (h'.2.2.1 _ hy).2 (by omega)
  obtain ⟨t1, ht1, e1⟩ := h.2.1 _ p1
  obtain ⟨t2, ht2, e2⟩ := h.2.1 _ p2
  obtain ⟨u', hu', hf'⟩ := cf_gen h' (fun x => x)
  obtain ⟨w, hw, hlw⟩ := (hM (fun t => u' (c' t))).mp ((hM' _).mpr ⟨u', fun _ _ => rfl, hu'⟩)
  have a0 := hw t ht
  have a1 := hw t1 ht1
  have a2 := hw t2 ht2

  rw [(hu' _ hy).2 (by omega), (hlw _ hx).2 h2] at a0
  obtain ⟨-, i1, i2⟩ := tm_N_inj (by omega) (by omega) h2 e4 a0
  rw [e1] at a1
  rw [e2] at a2
  refine ⟨⟨t1, ht1, e1, ?_⟩, ⟨t2, ht2, e2, ?_⟩⟩
  · exact cf_inj h' hu' hf' (k' (c' t1) + 1) _ _ (Nat.lt_succ_self _) (h'.1 _ ht1) q1 (a1.trans i1.symm)
  · exact cf_inj h' hu' hf' (k' (c' t2) + 1) _ _ (Nat.lt_succ_self _) (h'.1 _ ht2) q2 (a2.trans i2.symm)
theorem cf_one {n : Nat} {P P' : Nat → Prop} {c K F S k c' K' F' S' k' : Nat → Nat} {M : (Nat → Nat) → Prop} (h : cf_ok n P c K F S k) (hM : cf_sem n P c K F S M) (h' : cf_ok n P' c' K' F' S' k') (hM' : cf_sem n P' c' K' F' S' M) {x y x2 y2 : Nat} (hr : cf_re n c c' x y) (hr2 : cf_re n c c' x2 y2) : x = x2 ↔ y = y2 := by
  obtain ⟨t, ht, rfl, rfl⟩ := hr
  obtain ⟨s, hs, rfl, rfl⟩ := hr2
  rw [← cf_same h hM ht hs, ← cf_same h' hM' ht hs]

/-- a forest that is closed and where k falls has a labelling -/
theorem us_ex {n : Nat} {K L R o r d k : Nat → Nat} (hf : us_fo n o r d) (hc : us_cl n K L R o r []) (hb : ∀ t, t < n → 2 ≤ K t → L t < n ∧ R t < n)
    (hk : ∀ x, x < n → r x = x → 2 ≤ K x → k (r (L x)) < k x ∧ k (r (R x)) < k x) : ∃ v, us_sol n K L R v ∧ us_rsp n o v := by
  obtain ⟨u, hu, -⟩ := cf_gen0 (P := fun x => x < n ∧ r x = x) (K := K) (F := fun x => r (L x)) (S := fun x => r (R x)) (k := k)
    (fun x hx h2 => by
      obtain ⟨b1, b2⟩ := hb x hx.1 h2
      obtain ⟨k1, k2⟩ := hk x hx.1 hx.2 h2
      exact ⟨⟨(hf _ b1).2.1, hf.rr b1⟩, ⟨(hf _ b2).2.1, hf.rr b2⟩, k1, k2⟩) (fun x => x)
  have hnil : ∀ f : Nat → Nat, us_pd [] f := fun f q hq => by cases hq
  refine ⟨fun t => u (r t), fun t ht => ⟨fun e => ?_, fun e => ?_⟩, fun t ht => ?_⟩
  · have h1 := (hc t ht).1 (by omega)
    exact (hu (r t) ⟨(hf t ht).2.1, hf.rr ht⟩).1 (by rw [h1, e])
  · have h1 := (hc t ht).1 (by omega)
    have h2 := (hc t ht).2 e r (us_rsp.self hf) (hnil r)
    have h3 := (hu (r t) ⟨(hf t ht).2.1, hf.rr ht⟩).2 (by rw [h1]; exact e)
    dsimp only at h3 ⊢
    rw [h3, h1, h2.1, h2.2]
  · dsimp only
    rw [(hf t ht).2.2.2.1]
