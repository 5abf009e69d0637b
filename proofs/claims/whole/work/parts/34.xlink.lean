/-! TypeBench: root, linkTwo, linkAll: what their pure functions answer. -/
theorem ix_g {α : Type} {n N : Nat} (h : n < N) (hN : N < 2 ^ 31) {A B : Option α} : (if nI n < 0 ∨ N ≤ n then A else B) = B := if_neg (fun q => q.elim (nI_pos (by omega)) (fun q => by omega))
theorem le1000 {st : Nat} (h : st < 1000) : ¬ (1000 : Int32) ≤ nI st := by
  rw [show (1000 : Int32) = nI 1000 by decide]; exact nI_ge h (by decide)
theorem s_root_l {n : Nat} {r d : Nat → Nat} (hn : n ≤ 1000) : ∀ (k : Nat) (z : St) (o : Nat → Nat) (x st : Nat) (v1 : Int32), us_fo n o r d → ro z 3 n o → x < n → d x < k → st + d x < 1000 →
    ∃ z' o', f_X_root_l4 k z (nI st) (nI x) v1 = some (nI (r x), z') ∧ on [3] z z' ∧ ro z' 3 n o' ∧ us_fo n o' r d ∧ (∀ v, us_rsp n o' v ↔ us_rsp n o v) ∧ rts n o' = rts n o := by
  intro k
  induction k with
  | zero => intro z o x st v1 _ _ _ h; omega
  | succ k ih =>
    intro z o x st v1 hf hz hx hk hs
    have hox := (hf x hx).1
    have hoox := (hf (o x) hox).1
    rw [f_X_root_l4, if_neg (le1000 (show st < 1000 by omega))]
    simp only [ix_g (show x < 1000 by omega) (show 1000 < 2 ^ 31 by decide), cl_ (show x < 2 ^ 31 by omega), hz x hx, neq (show o x < 2 ^ 31 by omega) (show x < 2 ^ 31 by omega)]
    by_cases e : o x = x
    · rw [if_pos e]
      refine ⟨z, o, ?_, on.rf, hz, hf, fun _ => Iff.rfl, rfl⟩
      rw [((hf x hx).2.2.2.2.1 e).1]
    · rw [if_neg e]
      simp only [ix_g (show o x < 1000 by omega) (show 1000 < 2 ^ 31 by decide), cl_ (show o x < 2 ^ 31 by omega), hz (o x) hox, war_s, nI_1]
      have hd := (hf x hx).2.2.2.2.2 e
      have hd2 : d (o (o x)) ≤ d (o x) := by
        by_cases e2 : o (o x) = o x
        · rw [e2]; exact Nat.le_refl _
        · exact Nat.le_of_lt ((hf (o x) hox).2.2.2.2.2 e2)
      have hf1 := hf.half hx e
      obtain ⟨z', o', h1, h2, h3, h4, h5, h6⟩ := ih (war z 3 x (nI (o (o x)))) (us_up o x (o (o x))) (o (o x)) (st + 1) v1 hf1 (hz.set _ rfl) hoox (by omega) (by omega)
      refine ⟨z', o', ?_, (on.war (by simp)).tr h2, h3, h4, fun v => (h5 v).trans (us_rsp.half hf hx e), h6.trans (rts_half hf hx e)⟩
      rw [h1, (hf _ hox).2.2.2.1, (hf x hx).2.2.2.1]
theorem s_root {n : Nat} {o r d : Nat → Nat} {z : St} {x : Nat} (hn : n ≤ 1000) (hf : us_fo n o r d) (hd : d x < 1000) (hz : ro z 3 n o) (hx : x < n) :
    ∃ z' o', f_X_root z (nI x) = some (nI (r x), z') ∧ on [3] z z' ∧ ro z' 3 n o' ∧ us_fo n o' r d ∧ (∀ v, us_rsp n o' v ↔ us_rsp n o v) ∧ rts n o' = rts n o := by
  unfold f_X_root
  rw [i0]
  exact s_root_l hn FU z o x 0 (nI x) hf hz hx (by unfold FU; omega) (by omega)
/-- what the shapes' rows say of the kinds and parts: of a sum or pair its parts -/
def sh (z : St) (n : Nat) (K F S : Nat → Nat) : Prop := ∀ x, x < n → z.2 6 x = nI (K x) ∧ (2 ≤ K x → z.2 7 x = nI (F x) ∧ z.2 8 x = nI (S x))
theorem n0 {a : Nat} (h : a < 2 ^ 31) : nI a = 0 ↔ a = 0 := by rw [i0]; exact neq h (by decide)
theorem n1 {a : Nat} (h : a < 2 ^ 31) : nI a = 1 ↔ a = 1 := by rw [i1]; exact neq h (by decide)
theorem n2 {a : Nat} (h : a < 2 ^ 31) : nI a = 2 ↔ a = 2 := by rw [i2]; exact neq h (by decide)
theorem n3 {a : Nat} (h : a < 2 ^ 31) : nI a = 3 ↔ a = 3 := by rw [i3]; exact neq h (by decide)
theorem s_hasParts {z : St} {x k : Nat} (hx : x < 1000) (hk : z.2 6 x = nI k) (h4 : k < 4) : f_S_hasParts z (nI x) = some (if 2 ≤ k then 1 else 0, z) := by
  unfold f_S_hasParts
  simp only [ix_g hx (show 1000 < 2 ^ 31 by decide), cl_ (show x < 2 ^ 31 by omega), hk, n2 (show k < 2 ^ 31 by omega), n3 (show k < 2 ^ 31 by omega)]
  by_cases e2 : k = 2
  · subst e2; rfl
  · rw [if_neg e2]
    by_cases e3 : k = 3
    · subst e3; rfl
    · rw [if_neg e3, if_neg (by omega)]
/-- the rows of the shapes, at the places P -/
def shp (z : St) (P : Nat → Prop) (K F S : Nat → Nat) : Prop := ∀ x, P x → z.2 6 x = nI (K x) ∧ (2 ≤ K x → z.2 7 x = nI (F x) ∧ z.2 8 x = nI (S x))
theorem shp.keep {z z' : St} {P : Nat → Prop} {K F S : Nat → Nat} (h : shp z P K F S) (h6 : z'.2 6 = z.2 6) (h7 : z'.2 7 = z.2 7) (h8 : z'.2 8 = z.2 8) : shp z' P K F S := fun x hx => by rw [h6, h7, h8]; exact h x hx
theorem s_putParts {z : St} {P : Nat → Prop} {K F S : Nat → Nat} {x y : Nat} {l : List Nat} (hs : shp z P K F S) (hx : P x) (hy : P y) (hx1 : x < 1000) (hy1 : y < 1000) (h4 : K x < 4) (hk : K x = K y) (hp : pi z l) (hl : l.length + 4 ≤ 2002) :
    ∃ z', f_X_putPartsOfBoth z (nI x) (nI y) = some z' ∧ pi z' (if 2 ≤ K x then S y :: S x :: F y :: F x :: l else l) ∧ (∀ k, k ≠ 3 → z'.1 k = z.1 k) ∧ (∀ k, k ≠ 11 → z'.2 k = z.2 k) := by
  unfold f_X_putPartsOfBoth
  rw [s_hasParts hx1 (hs x hx).1 h4, Option.bind_some]
  by_cases e : 2 ≤ K x
  · simp only [if_pos e]
    rw [if_neg (show ¬ (1 : Int32) = 0 by decide)]
    simp only [ix_g hx1 (show 1000 < 2 ^ 31 by decide), ix_g hy1 (show 1000 < 2 ^ 31 by decide), cl_ (show x < 2 ^ 31 by omega), cl_ (show y < 2 ^ 31 by omega)]
    obtain ⟨f1, s1⟩ := (hs x hx).2 e
    obtain ⟨f2, s2⟩ := (hs y hy).2 (by omega)
    obtain ⟨z1, a1, b1, c1, d1⟩ := s_put hp (F x) (by omega)
    rw [f1, a1, Option.bind_some]
    obtain ⟨z2, a2, b2, c2, d2⟩ := s_put b1 (F y) (by simp only [List.length_cons]; omega)
    rw [d1 7 (by decide), f2, a2, Option.bind_some]
    obtain ⟨z3, a3, b3, c3, d3⟩ := s_put b2 (S x) (by simp only [List.length_cons]; omega)
    rw [d2 8 (by decide), d1 8 (by decide), s1, a3, Option.bind_some]
    obtain ⟨z4, a4, b4, c4, d4⟩ := s_put b3 (S y) (by simp only [List.length_cons]; omega)
    rw [d3 8 (by decide), d2 8 (by decide), d1 8 (by decide), s2, a4, Option.bind_some]
    refine ⟨z4, rfl, b4, fun k hk => ?_, fun k hk => ?_⟩
    · rw [c4 k hk, c3 k hk, c2 k hk, c1 k hk]
    · rw [d4 k hk, d3 k hk, d2 k hk, d1 k hk]
  · simp only [if_neg e]
    exact ⟨z, rfl, hp, fun _ _ => rfl, fun _ _ => rfl⟩
/-- pairs as the pile holds them -/
def fl : List (Nat × Nat) → List Nat
  | [] => []
  | q :: ps => q.2 :: q.1 :: fl ps
theorem fl_len : ∀ ps, (fl ps).length = 2 * ps.length := by
  intro ps
  induction ps with
  | nil => rfl
  | cons q ps ih => simp only [fl, List.length_cons, ih]; omega
theorem us_cl.o {n : Nat} {K L R o o' r : Nat → Nat} {ps : List (Nat × Nat)} (h : us_cl n K L R o r ps) (he : ∀ v, us_rsp n o' v ↔ us_rsp n o v) : us_cl n K L R o' r ps := fun t ht => ⟨(h t ht).1, fun hk f h1 h2 => (h t ht).2 hk f ((he f).mp h1) h2⟩
/-- making two roots the same: the row of links afterwards, and what is still to be done -/
theorem s_linkTwo {n : Nat} {K F S o r d : Nat → Nat} {P : Nat → Prop} {z : St} {x y a b : Nat} {ps : List (Nat × Nat)} (hn : n ≤ 1000) (hf : us_fo n o r d) (hz : ro z 3 n o) (hcl : us_cl n K F S o r ((a, b) :: ps)) (h4 : ∀ t, t < n → K t < 4)
    (hs : shp z P K F S) (hPF : ∀ x, P x → 2 ≤ K x → F x < n ∧ S x < n) (ha : a < n) (hb : b < n) (hra : r a = x) (hrb : r b = y) (hPx : P x) (hPy : P y) (hne : x ≠ y) (hp : pi z (fl ps)) (hl : (fl ps).length + 4 ≤ 2002) :
    ∃ z' res, f_X_linkTwo z (nI x) (nI y) = some (res, z') ∧ (∀ k, k ≠ 3 → z'.1 k = z.1 k) ∧ (∀ k, k ≠ 3 → k ≠ 11 → z'.2 k = z.2 k) ∧
      ((res = 0 ∧ ∀ v, us_sol n K F S v → us_rsp n o v → v a = v b → False) ∨
       (res = 1 ∧ ∃ x' y' ps', ((x' = x ∧ y' = y) ∨ (x' = y ∧ y' = x)) ∧ (ps'.length = ps.length ∨ ps'.length = ps.length + 2) ∧ ro z' 3 n (us_up o x' y') ∧ us_cl n K F S (us_up o x' y') (us_lr r x' y') ps' ∧ pi z' (fl ps') ∧ (∀ q, q ∈ ps' → q ∈ ps ∨ (q.1 < n ∧ q.2 < n)) ∧
         ∀ v, us_sol n K F S v → (us_rsp n (us_up o x' y') v ∧ us_pd ps' v ↔ us_rsp n o v ∧ us_pd ((a, b) :: ps) v))) := by
  have hxn : x < n := by rw [← hra]; exact (hf a ha).2.1
  have hyn : y < n := by rw [← hrb]; exact (hf b hb).2.1
  have ox : o x = x := by rw [← hra]; exact (hf a ha).2.2.1
  have oy : o y = y := by rw [← hrb]; exact (hf b hb).2.2.1
  have hab : ∀ f, us_rsp n o f → f x = f y → f a = f b := fun f h1 h2 => by rw [us_rsp.r hf h1 ha, us_rsp.r hf h1 hb, hra, hrb]; exact h2
  have hba : ∀ f, us_rsp n o f → f a = f b → f x = f y := fun f h1 h2 => by
    have e1 := us_rsp.r hf h1 ha
    have e2 := us_rsp.r hf h1 hb
    rw [hra] at e1
    rw [hrb] at e2
    rw [← e1, ← e2]; exact h2
  have kx := (hs x hPx).1
  have ky := (hs y hPy).1
  have h4x := h4 x hxn
  have h4y := h4 y hyn
  unfold f_X_linkTwo
  simp only [ix_g (show x < 1000 by omega) (show 1000 < 2 ^ 31 by decide), ix_g (show y < 1000 by omega) (show 1000 < 2 ^ 31 by decide), cl_ (show x < 2 ^ 31 by omega), cl_ (show y < 2 ^ 31 by omega), kx, ky, n0 (show K x < 2 ^ 31 by omega), n0 (show K y < 2 ^ 31 by omega), neq (show K x < 2 ^ 31 by omega) (show K y < 2 ^ 31 by omega)]
  by_cases e0 : K x = 0
  · rw [if_pos e0]
    refine ⟨_, _, rfl, fun _ _ => rfl, fun k h1 h2 => war_n _ _ h1, Or.inr ⟨rfl, x, y, ps, Or.inl ⟨rfl, rfl⟩, Or.inl rfl, hz.set _ rfl, hcl.free hf hxn ox e0 hab, hp.keep rfl (war_n _ _ (by decide)), fun q hq => Or.inl hq, fun v hv => ?_⟩⟩
    rw [us_rsp.link hf hxn ox, us_pd_c]
    exact ⟨fun h => ⟨h.1.1, hab v h.1.1 h.1.2, h.2⟩, fun h => ⟨⟨h.1, hba v h.1 h.2.1⟩, h.2.2⟩⟩
  · rw [if_neg e0]
    by_cases e1 : K y = 0
    · rw [if_pos e1]
      refine ⟨_, _, rfl, fun _ _ => rfl, fun k h1 h2 => war_n _ _ h1, Or.inr ⟨rfl, y, x, ps, Or.inr ⟨rfl, rfl⟩, Or.inl rfl, hz.set _ rfl, hcl.free hf hyn oy e1 (fun f h1 h2 => hab f h1 h2.symm), hp.keep rfl (war_n _ _ (by decide)), fun q hq => Or.inl hq, fun v hv => ?_⟩⟩
      rw [us_rsp.link hf hyn oy, us_pd_c]
      exact ⟨fun h => ⟨h.1.1, hab v h.1.1 h.1.2.symm, h.2⟩, fun h => ⟨⟨h.1, (hba v h.1 h.2.1).symm⟩, h.2.2⟩⟩
    · rw [if_neg e1]
      by_cases e2 : K x = K y
      · rw [if_pos e2]
        obtain ⟨z1, a1, b1, c1, d1⟩ := s_putParts (z := war z 3 x (nI y)) (l := fl ps) (hs.keep (war_n _ _ (by decide)) (war_n _ _ (by decide)) (war_n _ _ (by decide))) hPx hPy (by omega) (by omega) h4x e2 (hp.keep rfl (war_n _ _ (by decide))) hl
        rw [a1, Option.bind_some]
        refine ⟨z1, 1, rfl, fun k hk => by rw [c1 k hk, war_1], fun k h1 h2 => by rw [d1 k h2, war_n _ _ h1], Or.inr ⟨rfl, ?_⟩⟩
        have hro : ro z1 3 n (us_up o x y) := (hz.set (i := x) (nI y) rfl).keep (d1 3 (by decide))
        by_cases e3 : 2 ≤ K x
        · rw [if_pos e3] at b1
          obtain ⟨pf1, ps1⟩ := hPF x hPx e3
          obtain ⟨pf2, ps2⟩ := hPF y hPy (by omega)
          refine ⟨x, y, (S x, S y) :: (F x, F y) :: ps, Or.inl ⟨rfl, rfl⟩, Or.inr rfl, hro, hcl.both hf hxn ox e2 hab (fun f h => ?_), b1, fun q hq => ?_, fun v hv => ?_⟩
          · rw [us_pd_c, us_pd_c] at h
            exact ⟨h.2.1, h.1, h.2.2⟩
          · rcases List.mem_cons.mp hq with rfl | hq
            · exact Or.inr ⟨ps1, ps2⟩
            · rcases List.mem_cons.mp hq with rfl | hq
              · exact Or.inr ⟨pf1, pf2⟩
              · exact Or.inl hq
          · rw [us_rsp.link hf hxn ox, us_pd_c, us_pd_c, us_pd_c]
            constructor
            · exact fun h => ⟨h.1.1, hab v h.1.1 h.1.2, h.2.2.2⟩
            · intro h
              have exy := hba v h.1 h.2.1
              have := hv.parts hxn hyn e2 e3 h4x exy
              exact ⟨⟨h.1, exy⟩, this.2, this.1, h.2.2⟩
        · rw [if_neg e3] at b1
          refine ⟨x, y, ps, Or.inl ⟨rfl, rfl⟩, Or.inl rfl, hro, hcl.ones hf hxn ox (by omega) (by omega) hab, b1, fun q hq => Or.inl hq, fun v hv => ?_⟩
          rw [us_rsp.link hf hxn ox, us_pd_c]
          exact ⟨fun h => ⟨h.1.1, hab v h.1.1 h.1.2, h.2⟩, fun h => ⟨⟨h.1, hba v h.1 h.2.1⟩, h.2.2⟩⟩
      · rw [if_neg e2]
        exact ⟨z, 0, rfl, fun _ _ => rfl, fun _ _ _ => rfl, Or.inl ⟨rfl, fun v hv h1 h2 => hv.clash hxn hyn e0 e1 h4x h4y e2 (hba v h1 h2)⟩⟩
