/-! TypeBench: begin, clear; tryToLink, alike, same. -/
theorem s_begin (z : St) : ∃ z', f_X_begin z = some z' ∧ XI z' 1 (fun v => v 0 = 1) := by
  unfold f_X_begin
  obtain ⟨z1, h1, h2, h3⟩ := s_forget (wsc (wsc z 0 1) 1 0) (fun t => if t = 0 then 1 else 0) (fun _ => 0) (fun _ => 0)
  have hw := s_write (z := z1) (a := 0) 1 (-1) (-1) (by decide)
  rw [nI_0] at hw
  rw [h1, Option.bind_some, hw, Option.bind_some]
  have ha := s_addLeader (z := war (war (war z1 6 0 1) 7 0 (-1)) 8 0 (-1)) (a := 0) (m := 0) (by simp only [war_1]; rw [h3.1, wsc_s]; rfl) (by decide) (by decide)
  rw [nI_0] at ha
  rw [ha, Option.bind_some]
  refine ⟨_, rfl, 1, fun _ => 0, fun _ => 0, fun _ => 0, fun t => if t = 0 then 1 else 0, fun _ => 0, fun _ => 0, fun _ => 0, 0, ⟨by decide, by decide, by decide, by decide⟩, ⟨?_, wsc_s _ _ _⟩, fun t ht => ?_, fun t ht => ⟨Nat.zero_lt_one, rfl⟩, fun x hx => ?_, fun x hx => ?_, fun i hi => ?_, fun x hx => ?_, ?_, ⟨fun t ht => ⟨Nat.zero_lt_one, rfl⟩, fun x hx => ⟨0, by decide, hx.2⟩, fun x hx => ?_, fun x y hx hy _ => ⟨fun _ => hx.2.symm.trans hy.2, fun _ _ _ => hx.2.symm.trans hy.2⟩⟩, fun v => ?_, fun t ht _ => by show 0 = t; omega⟩
  · rw [wsc_n _ _ (by decide)]; simp only [war_1]; rw [h3.1, wsc_n _ _ (by decide), wsc_s]; rfl
  · rw [show t = 0 by omega, wsc_2, war_n _ _ (by decide), war_n _ _ (by decide), war_s]; rfl
  · have e : x = 0 := hx.2.symm
    subst e
    refine ⟨?_, fun q => ?_⟩
    · rw [wsc_2, war_n _ _ (by decide), war_n _ _ (by decide), war_n _ _ (by decide), war_n _ _ (by decide), war_n _ _ (by decide), war_s]; rfl
    · simp at q
  · have e : x = 0 := hx.2.symm
    subst e
    refine ⟨?_, by decide, rfl, fun t ht => by omega⟩
    rw [wsc_2, war_n _ _ (by decide), war_s]; rfl
  · rw [show i = 0 by omega]
    refine ⟨?_, ⟨by decide, rfl⟩, rfl⟩
    rw [wsc_2, war_s]; rfl
  · have e : x = 0 := hx.2.symm
    exact ⟨Nat.zero_lt_one, by rw [e]⟩
  · refine (h2.keep ?_ ?_).cong (fun x => ?_) (fun x hx => hx.elim)
    · rw [wsc_2]; simp only [war_n _ _ (show (9 : Nat) ≠ 2 by decide), war_n _ _ (show (9 : Nat) ≠ 1 by decide), war_n _ _ (show (9 : Nat) ≠ 0 by decide), war_n _ _ (show (9 : Nat) ≠ 8 by decide), war_n _ _ (show (9 : Nat) ≠ 7 by decide), war_n _ _ (show (9 : Nat) ≠ 6 by decide)]
    · rw [wsc_2]; simp only [war_n _ _ (show (10 : Nat) ≠ 2 by decide), war_n _ _ (show (10 : Nat) ≠ 1 by decide), war_n _ _ (show (10 : Nat) ≠ 0 by decide), war_n _ _ (show (10 : Nat) ≠ 8 by decide), war_n _ _ (show (10 : Nat) ≠ 7 by decide), war_n _ _ (show (10 : Nat) ≠ 6 by decide)]
    · refine ⟨fun q => ?_, fun q => q.elim⟩
      have := q.2
      dsimp only at this
      split at this <;> omega
  · have e : x = 0 := hx.2.symm
    subst e
    exact ⟨by decide, fun q => by simp at q⟩
  · constructor
    · intro h
      refine ⟨v, fun t ht => by rw [show t = 0 by omega], fun x hx => ?_⟩
      have e : x = 0 := hx.2.symm
      subst e
      exact ⟨fun _ => h, fun q => by simp at q⟩
    · rintro ⟨u, u1, u2⟩
      rw [u1 0 (by decide)]
      exact (u2 0 ⟨by decide, rfl⟩).1 rfl
theorem s_clear {z : St} {n : Nat} {M : (Nat → Nat) → Prop} (h : XI z n M) : ∃ z', f_X_clear z = some (nI n, z') ∧ XI z' 1 (fun v => v 0 = 1) := by
  obtain ⟨z', h1, h2⟩ := s_begin z
  refine ⟨z', ?_, h2⟩
  unfold f_X_clear
  rw [h1, Option.bind_some, h.made.1]
theorem XD.keep {z z' : St} {n m e : Nat} {M : (Nat → Nat) → Prop} {ld ls od K F S ps : Nat → Nat} (h : XD z n M m ld ls od K F S ps e) (h0 : z'.1 0 = z.1 0) (h1 : z'.1 1 = z.1 1) (hk : ∀ k, k = 0 ∨ k = 1 ∨ k = 2 ∨ k = 6 ∨ k = 7 ∨ k = 8 ∨ k = 9 ∨ k = 10 → z'.2 k = z.2 k) : XD z' n M m ld ls od K F S ps e := by
  obtain ⟨a, ⟨b1, b2⟩, c1, c2, c3, c4, c5, c6, c7, c8, c9, c10⟩ := h
  exact ⟨a, ⟨h0.trans b1, h1.trans b2⟩, c1.keep (hk 0 (by simp)), c2, c3.keep (hk 6 (by simp)) (hk 7 (by simp)) (hk 8 (by simp)), fun x hx => by rw [hk 1 (by simp)]; exact c4 x hx, fun i hi => by rw [hk 2 (by simp)]; exact c5 i hi, c6, c7.keep (hk 9 (by simp)) (hk 10 (by simp)), c8, c9, c10⟩
/-- what the labellings of a state keep, as the forest of its leaders says it -/
theorem XD.sol {z : St} {n m e : Nat} {M : (Nat → Nat) → Prop} {ld ls od K F S ps : Nat → Nat} (h : XD z n M m ld ls od K F S ps e) (v : Nat → Nat) : M v ↔ us_sol n K F S v ∧ us_rsp n ld v := by
  obtain ⟨a, b, c1, c2, c3, c4, c5, c6, c7, c8, c9, c10⟩ := h
  rw [c9 v]
  constructor
  · rintro ⟨u, u1, u2⟩
    have lead : ∀ x, LD n ld x → v x = u x := fun x hx => by rw [u1 x hx.1, hx.2]
    refine ⟨fun t ht => ⟨fun q => ?_, fun q => ?_⟩, fun t ht => ?_⟩
    · have hl : LD n ld t := ⟨ht, c10 t ht (by omega)⟩
      rw [lead t hl]; exact (u2 t hl).1 q
    · have hl : LD n ld t := ⟨ht, c10 t ht (by omega)⟩
      obtain ⟨p1, p2, -, -⟩ := (c8.2.2.1 t hl).2 q
      rw [lead t hl, lead _ p1, lead _ p2]; exact (u2 t hl).2 q
    · rw [u1 t ht, u1 _ (c2 t ht).1, (c2 t ht).2]
  · rintro ⟨h1, h2⟩
    exact ⟨v, fun t ht => h2 t ht, fun x hx => h1 x hx.1⟩
theorem s_try {z : St} {n m e x y : Nat} {M : (Nat → Nat) → Prop} {ld ls od K F S ps : Nat → Nat} (hD : XD z n M m ld ls od K F S ps e) (hx : x < n) (hy : y < n) :
    ∃ z' res, f_X_tryToLink z (nI x) (nI y) = some (res, z') ∧ XD z' n M m ld ls od K F S ps e ∧ ((res = 0 ∧ ∀ v, M v → v x = v y → False) ∨ (res = 1 ∧ (∃ v, M v ∧ v x = v y) ∧
      ∃ o r d mk tr c, FO z' n o r d ∧ us_fo n o r d ∧ (∀ t, t < n → d t + rts n o ≤ n) ∧ us_cl n K F S o r [] ∧ (∀ t, t < n → LD n ld (r t)) ∧ (∀ v, us_sol n K F S v → (us_rsp n o v ↔ us_rsp n ld v ∧ v x = v y)) ∧ LO z' n K F S r mk tr c ∧ (∀ t, t < n → r t = t → mk t = 2))) := by
  obtain ⟨⟨a1, a2, a3, a4⟩, ⟨b1, b2⟩, c1, c2, c3, c4, c5, c6, c7, c8, c9, c10⟩ := id hD
  have h4 : ∀ t, t < n → K t < 4 := fun t ht => by
    by_cases q : K t = 0
    · omega
    · exact (c8.2.2.1 t ⟨ht, c10 t ht q⟩).1
  have hPF : ∀ x, LD n ld x → 2 ≤ K x → F x < n ∧ S x < n := fun x hx q => ⟨((c8.2.2.1 x hx).2 q).1.1, ((c8.2.2.1 x hx).2 q).2.1.1⟩
  unfold f_X_tryToLink
  obtain ⟨z1, res1, l1, l2, l3, l4⟩ := s_linkAll (x := x) (y := y) a2 b1 c1 c2 c10 h4 hPF c3 hx hy
  rw [l1, Option.bind_some]
  rcases l4 with ⟨rfl, hno⟩ | ⟨rfl, o, r, d, f1, f2, f3, f4, f5, f6⟩
  · dsimp only
    rw [if_pos rfl]
    exact ⟨z1, 0, rfl, hD.keep (l2 0 (by decide)) (l2 1 (by decide)) (fun k hk => l3 k (by omega) (by omega)), Or.inl ⟨rfl, fun v hv he => hno v ((hD.sol v).mp hv).1 ((hD.sol v).mp hv).2 he⟩⟩
  · dsimp only
    rw [if_neg (show ¬ (1 : Int32) = 0 by decide)]
    have hlt : ∀ v, us_sol n K F S v ∧ us_rsp n o v → ∀ x, LD n ld x → 2 ≤ K x → v (r (F x)) < v x ∧ v (r (S x)) < v x := fun v hv x hx q => by
      obtain ⟨p1, p2⟩ := hPF x hx q
      rw [← us_rsp.r f1 hv.2 p1, ← us_rsp.r f1 hv.2 p2, (hv.1 x hx.1).2 q]
      exact ⟨tm_N_fst q, tm_N_snd q⟩
    obtain ⟨z2, res2, y1, y2, y3, y4, y5⟩ := s_layOut (G := fun v => us_sol n K F S v ∧ us_rsp n o v) (P := LD n ld) (o0 := o) (z := z1) a2 (fun t ht => by have := f3 t ht; omega) h4 (fun t ht => ⟨(f1 t ht).2.1, f1.rr ht⟩) f5 hPF hlt (by rw [l2 0 (by decide)]; exact b1) ⟨o, f1, f2, fun _ => Iff.rfl, rfl⟩
      (c3.keep (l3 6 (by decide) (by decide)) (l3 7 (by decide) (by decide)) (l3 8 (by decide) (by decide)))
    rw [y1, Option.bind_some]
    have hD2 : XD z2 n M m ld ls od K F S ps e := hD.keep (by rw [y3 0 (by decide) (by decide), l2 0 (by decide)]) (by rw [y3 1 (by decide) (by decide), l2 1 (by decide)]) (fun k hk => by rw [y4 k (by omega) (by omega) (by omega) (by omega), l3 k (by omega) (by omega)])
    rcases y5 with ⟨rfl, hno⟩ | ⟨rfl, mk, tr, c, k1, k2⟩
    · dsimp only
      rw [if_pos rfl]
      refine ⟨z2, 0, rfl, hD2, Or.inl ⟨rfl, fun v hv he => ?_⟩⟩
      obtain ⟨p1, p2⟩ := (hD.sol v).mp hv
      exact hno v ⟨p1, (f6 v p1).mpr ⟨p2, he⟩⟩
    · dsimp only
      rw [if_neg (show ¬ (1 : Int32) = 0 by decide)]
      refine ⟨z2, 1, rfl, hD2, Or.inr ⟨rfl, ?_, o, r, d, mk, tr, c, y2, f1, f3, f4, f5, f6, k1, k2⟩⟩
      obtain ⟨kk, hkk⟩ := Classical.skolem.mp (show ∀ x, ∃ i, x < n → r x = x → i < c ∧ tr i = x from fun x => by
        by_cases q : x < n ∧ r x = x
        · obtain ⟨i, hi, e⟩ := k1.2.2.2.2.2.1 x q.1 (k2 x q.1 q.2)
          exact ⟨i, fun _ _ => ⟨hi, e⟩⟩
        · exact ⟨0, fun h1 h2 => absurd ⟨h1, h2⟩ q⟩)
      have hrank : ∀ x, x < n → r x = x → 2 ≤ K x → kk (r (F x)) < kk x ∧ kk (r (S x)) < kk x := fun x hx hrx q => by
        obtain ⟨i1, i2⟩ := hkk x hx hrx
        obtain ⟨-, -, -, -, j5⟩ := k1.2.2.2.2.1 (kk x) i1
        rw [i2] at j5
        obtain ⟨⟨j1, j2, j3⟩, ⟨j4, j6, j7⟩⟩ := j5 q
        have hl : LD n ld x := by have := f5 x hx; rw [hrx] at this; exact this
        obtain ⟨p1, p2⟩ := hPF x hl q
        obtain ⟨u1, u2⟩ := hkk _ (f1 _ p1).2.1 (f1.rr p1)
        obtain ⟨u3, u4⟩ := hkk _ (f1 _ p2).2.1 (f1.rr p2)
        have e1 := k1.2.2.2.2.2.2 _ _ u1 (by omega) (u2.trans j3.symm)
        have e2 := k1.2.2.2.2.2.2 _ _ u3 (by omega) (u4.trans j7.symm)
        omega
      obtain ⟨v, v1, v2⟩ := us_ex f1 f4 (fun t ht q => hPF t ⟨ht, c10 t ht (by omega)⟩ q) hrank
      obtain ⟨w1, w2⟩ := (f6 v v1).mp v2
      exact ⟨v, (hD.sol v).mpr ⟨v1, w1⟩, w2⟩
theorem XD.same {z : St} {n m e s t : Nat} {M : (Nat → Nat) → Prop} {ld ls od K F S ps : Nat → Nat} (h : XD z n M m ld ls od K F S ps e) (hs : s < n) (ht : t < n) : (∀ v, M v → v s = v t) ↔ ld s = ld t := by
  obtain ⟨a, b, c1, c2, c3, c4, c5, c6, c7, c8, c9, c10⟩ := h
  exact cf_same c8 c9 hs ht
