/-! TypeBench: linkAll from the leaders; putUnseen, putUnseenParts, layDown. -/
theorem rts_lt {n : Nat} {o : Nat → Nat} {t : Nat} (ht : t < n) (h : o t ≠ t) : rts n o + 1 ≤ n := by
  have h1 := ct_flip (p := fun s => if s = t then true else decide (o s = s)) (p' := fun s => decide (o s = s)) (x := t) (by simp) (by simp [h]) (fun s hs => by simp [hs]) n ht
  have h2 := ct_le (fun s => if s = t then true else decide (o s = s)) n
  unfold rts
  omega
theorem fo_lead {n : Nat} {ld : Nat → Nat} (h : ∀ t, t < n → ld t < n ∧ ld (ld t) = ld t) : us_fo n ld ld (fun t => if ld t = t then 0 else 1) := by
  intro t ht
  obtain ⟨h1, h2⟩ := h t ht
  refine ⟨h1, h1, h2, h2, fun e => ⟨e, by simp [e]⟩, fun e => ?_⟩
  simp [h2, e]
theorem s_linkAll {n : Nat} {ld K F S : Nat → Nat} {z : St} {x y : Nat} (hn : n ≤ 600) (hm : z.1 0 = nI n) (hz : ro z 0 n ld) (hld : ∀ t, t < n → ld t < n ∧ ld (ld t) = ld t) (hK0 : ∀ t, t < n → K t ≠ 0 → ld t = t) (h4 : ∀ t, t < n → K t < 4)
    (hPF : ∀ x, (x < n ∧ ld x = x) → 2 ≤ K x → F x < n ∧ S x < n) (hs : shp z (fun x => x < n ∧ ld x = x) K F S) (hx : x < n) (hy : y < n) :
    ∃ z' res, f_X_linkAll z (nI x) (nI y) = some (res, z') ∧ (∀ k, k ≠ 3 → z'.1 k = z.1 k) ∧ (∀ k, k ≠ 3 → k ≠ 11 → z'.2 k = z.2 k) ∧
      ((res = 0 ∧ ∀ v, us_sol n K F S v → us_rsp n ld v → v x = v y → False) ∨
       (res = 1 ∧ ∃ o' r' d', us_fo n o' r' d' ∧ ro z' 3 n o' ∧ (∀ t, t < n → d' t + rts n o' ≤ n) ∧ us_cl n K F S o' r' [] ∧ (∀ t, t < n → (r' t < n ∧ ld (r' t) = r' t)) ∧ ∀ v, us_sol n K F S v → (us_rsp n o' v ↔ us_rsp n ld v ∧ v x = v y))) := by
  unfold f_X_linkAll
  rw [if_neg (by
    rw [hm, cl_ (show n < 2 ^ 31 by omega), show (0 : Int32).toNatClampNeg = 0 by decide]
    rintro ((h | h | h) | (h | h))
    · exact absurd h (by decide)
    · exact absurd h (by decide)
    · exact nI_pos (by omega) h
    · omega
    · omega)]
  obtain ⟨z1, a1, b1, c1, d1⟩ := s_startWith (wal z 3 (va_cpy (z.2 0) (z.2 3) (0 : Int32).toNatClampNeg (0 : Int32).toNatClampNeg (z.1 0).toNatClampNeg)) x y
  rw [a1, Option.bind_some, i0]
  have hz1 : ro z1 3 n ld := by
    intro t ht
    rw [d1 3 (by decide), wal_s, hm, cl_ (show n < 2 ^ 31 by omega), show (0 : Int32).toNatClampNeg = 0 by decide, pk_cpy_in (Nat.zero_le _) (by omega)]
    rw [show 0 + (t - 0) = t by omega]
    exact hz t ht
  have g2 : ∀ k, k ≠ 3 → k ≠ 11 → z1.2 k = z.2 k := fun k h1 h2 => by rw [d1 k h2, wal_n _ _ h1]
  have hb : ∀ t, t < n → (if ld t = t then 0 else 1) + rts n ld ≤ n := by
    intro t ht
    by_cases e : ld t = t
    · rw [if_pos e]; have := rts_le n ld; omega
    · rw [if_neg e]; have := rts_lt ht e; omega
  have hr := rts_le n ld
  obtain ⟨z', res, i1, i2, i3, i4⟩ := s_linkAll_l hn h4 hPF (fun x h => h.1) FU z1 ld ld (fun t => if ld t = t then 0 else 1) [(x, y)] 0 (nI x) (nI y) (fo_lead hld) hz1 hb
    (fun t ht => ⟨fun hk => by rw [hK0 t ht hk], fun hk f _ _ => by rw [hK0 t ht (by omega)]; exact ⟨rfl, rfl⟩⟩) (fun q hq => by rw [List.mem_singleton.mp hq]; exact ⟨hx, hy⟩) b1 (fun t ht => hld t ht)
    (hs.keep (g2 6 (by decide) (by decide)) (g2 7 (by decide) (by decide)) (g2 8 (by decide) (by decide))) (by unfold FU; simp only [List.length_singleton]; omega) (by simp only [List.length_singleton]; omega) (by simp only [List.length_singleton]; omega)
  refine ⟨z', res, i1, fun k hk => by rw [i2 k hk, c1 k hk, wal_1], fun k h1 h2 => by rw [i3 k h1 h2, g2 k h1 h2], ?_⟩
  have hpd : ∀ v, us_pd [(x, y)] v ↔ v x = v y := fun v => by rw [us_pd_c]; exact ⟨fun h => h.1, fun h => ⟨h, fun q hq => by cases hq⟩⟩
  rcases i4 with ⟨h0, h1⟩ | ⟨h0, o', r', d', j1, j2, j3, j4, j5, j6⟩
  · exact Or.inl ⟨h0, fun v hv hr he => h1 v hv hr ((hpd v).mpr he)⟩
  · exact Or.inr ⟨h0, o', r', d', j1, j2, j3, j4, j5, fun v hv => by rw [j6 v hv, hpd v]⟩
/-- the row of links, shortened or not: its roots are r -/
def FO (z : St) (n : Nat) (o0 r d : Nat → Nat) : Prop := ∃ o, us_fo n o r d ∧ ro z 3 n o ∧ (∀ v, us_rsp n o v ↔ us_rsp n o0 v) ∧ rts n o = rts n o0
theorem FO.keep {z z' : St} {n : Nat} {o0 r d : Nat → Nat} (h : FO z n o0 r d) (e : z'.2 3 = z.2 3) : FO z' n o0 r d := by
  obtain ⟨o, h1, h2, h3, h4⟩ := h
  exact ⟨o, h1, h2.keep e, h3, h4⟩
theorem s_rootF {z : St} {n x : Nat} {o0 r d : Nat → Nat} (hn : n ≤ 1000) (h : FO z n o0 r d) (hd : ∀ t, t < n → d t < 1000) (hx : x < n) : ∃ z', f_X_root z (nI x) = some (nI (r x), z') ∧ on [3] z z' ∧ FO z' n o0 r d := by
  obtain ⟨o, h1, h2, h3, h4⟩ := h
  obtain ⟨z', o', a1, a2, a3, a4, a5, a6⟩ := s_root hn h1 (hd x hx) h2 hx
  exact ⟨z', a1, a2, o', a4, a3, fun v => (a5 v).trans (h3 v), a6.trans h4⟩
theorem s_putUnseen {z : St} {x m : Nat} {l : List Nat} (hx : x < 1000) (hm : z.2 4 x = nI m) (hm2 : m ≤ 2) (hp : pi z l) (hl : l.length < 2002) :
    ∃ z', f_X_putUnseen z (nI x) = some (if m = 1 then 0 else 1, z') ∧ pi z' (if m = 0 then x :: l else l) ∧ (∀ k, k ≠ 3 → z'.1 k = z.1 k) ∧ (∀ k, k ≠ 11 → z'.2 k = z.2 k) := by
  unfold f_X_putUnseen
  simp only [ix_g hx (show 1000 < 2 ^ 31 by decide), cl_ (show x < 2 ^ 31 by omega), hm, n0 (show m < 2 ^ 31 by omega), n1 (show m < 2 ^ 31 by omega)]
  by_cases e : m = 0
  · simp only [if_pos e]
    obtain ⟨z1, a1, b1, c1, d1⟩ := s_put hp x hl
    rw [a1, Option.bind_some, d1 4 (by decide), hm]
    simp only [n1 (show m < 2 ^ 31 by omega)]
    rw [if_neg (show ¬ m = 1 by omega), if_neg (show ¬ m = 1 by omega)]
    exact ⟨z1, rfl, b1, c1, d1⟩
  · simp only [if_neg e]
    by_cases e1 : m = 1
    · rw [if_pos e1, if_pos e1]
      exact ⟨z, rfl, hp, fun _ _ => rfl, fun _ _ => rfl⟩
    · rw [if_neg e1, if_neg e1]
      exact ⟨z, rfl, hp, fun _ _ => rfl, fun _ _ => rfl⟩
/-- what is put for a type x: its parts that are unseen; false if one is open -/
theorem s_putUnseenParts {z : St} {n x : Nat} {o0 r d K F S mk : Nat → Nat} {P : Nat → Prop} {l : List Nat} (hn : n ≤ 1000) (hf : FO z n o0 r d) (hd : ∀ t, t < n → d t < 1000) (hs : shp z P K F S) (hx : P x) (hxn : x < n) (h4 : K x < 4) (hPF : 2 ≤ K x → F x < n ∧ S x < n) (hr : ∀ t, t < n → r t < n)
    (hm : ro z 4 n mk) (hm2 : ∀ t, t < n → mk t ≤ 2) (hp : pi z l) (hl : l.length + 2 ≤ 2002) :
    ∃ z' res, f_X_putUnseenParts z (nI x) = some (res, z') ∧ FO z' n o0 r d ∧ (∀ k, k ≠ 3 → z'.1 k = z.1 k) ∧ (∀ k, k ≠ 3 → k ≠ 11 → z'.2 k = z.2 k) ∧
      ((K x < 2 ∧ res = 1 ∧ pi z' l) ∨
       (2 ≤ K x ∧ res = 0 ∧ (mk (r (F x)) = 1 ∨ mk (r (S x)) = 1)) ∨
       (2 ≤ K x ∧ res = 1 ∧ mk (r (F x)) ≠ 1 ∧ mk (r (S x)) ≠ 1 ∧ ∃ l', pi z' (l' ++ l) ∧ l'.length ≤ 2 ∧ (∀ e, e ∈ l' → (e = r (F x) ∨ e = r (S x)) ∧ mk e = 0) ∧ (mk (r (F x)) = 0 → r (F x) ∈ l') ∧ (mk (r (S x)) = 0 → r (S x) ∈ l'))) := by
  unfold f_X_putUnseenParts
  rw [s_hasParts (by omega) (hs x hx).1 h4, Option.bind_some]
  by_cases e : 2 ≤ K x
  · simp only [if_pos e]
    rw [if_neg (show ¬ (1 : Int32) = 0 by decide)]
    simp only [ix_g (show x < 1000 by omega) (show 1000 < 2 ^ 31 by decide), cl_ (show x < 2 ^ 31 by omega)]
    obtain ⟨pf, ps⟩ := hPF e
    obtain ⟨rf, rs⟩ := (hs x hx).2 e
    obtain ⟨z1, a1, b1, f1⟩ := s_rootF hn hf hd pf
    rw [rf, a1, Option.bind_some]
    have m1 : z1.2 4 (r (F x)) = nI (mk (r (F x))) := by rw [b1.2 4 (by decide)]; exact hm _ (hr _ pf)
    have p1 : pi z1 l := hp.keep (by rw [b1.1]) (b1.2 11 (by decide))
    obtain ⟨z2, a2, b2, c2, d2⟩ := s_putUnseen (show r (F x) < 1000 by have := hr _ pf; omega) m1 (hm2 _ (hr _ pf)) p1 (by omega)
    rw [a2, Option.bind_some]
    have g1 : ∀ k, k ≠ 3 → z2.1 k = z.1 k := fun k hk => by rw [c2 k hk, b1.1]
    have g2 : ∀ k, k ≠ 3 → k ≠ 11 → z2.2 k = z.2 k := fun k h1 h2 => by rw [d2 k h2, b1.2 k (by simpa using h1)]
    have f2 : FO z2 n o0 r d := f1.keep (d2 3 (by decide))
    by_cases e1 : mk (r (F x)) = 1
    · simp only [if_pos e1]
      exact ⟨z2, 0, rfl, f2, g1, g2, Or.inr (Or.inl ⟨e, rfl, Or.inl e1⟩)⟩
    · simp only [if_neg e1]
      rw [if_neg (show ¬ (1 : Int32) = 0 by decide), g2 8 (by decide) (by decide), rs]
      obtain ⟨z3, a3, b3, f3⟩ := s_rootF hn f2 hd ps
      rw [a3, Option.bind_some]
      have m3 : z3.2 4 (r (S x)) = nI (mk (r (S x))) := by rw [b3.2 4 (by decide), g2 4 (by decide) (by decide)]; exact hm _ (hr _ ps)
      have p3 : pi z3 (if mk (r (F x)) = 0 then r (F x) :: l else l) := b2.keep (by rw [b3.1]) (b3.2 11 (by decide))
      have hlen : (if mk (r (F x)) = 0 then r (F x) :: l else l).length ≤ l.length + 1 := by split <;> simp
      obtain ⟨z4, a4, b4, c4, d4⟩ := s_putUnseen (show r (S x) < 1000 by have := hr _ ps; omega) m3 (hm2 _ (hr _ ps)) p3 (by omega)
      rw [a4, Option.bind_some]
      have g3 : ∀ k, k ≠ 3 → z4.1 k = z.1 k := fun k hk => by rw [c4 k hk, b3.1, g1 k hk]
      have g4 : ∀ k, k ≠ 3 → k ≠ 11 → z4.2 k = z.2 k := fun k h1 h2 => by rw [d4 k h2, b3.2 k (by simpa using h1), g2 k h1 h2]
      have f4 : FO z4 n o0 r d := f3.keep (d4 3 (by decide))
      by_cases e2 : mk (r (S x)) = 1
      · simp only [if_pos e2]
        exact ⟨z4, 0, rfl, f4, g3, g4, Or.inr (Or.inl ⟨e, rfl, Or.inr e2⟩)⟩
      · simp only [if_neg e2]
        refine ⟨z4, 1, rfl, f4, g3, g4, Or.inr (Or.inr ⟨e, rfl, e1, e2, (if mk (r (S x)) = 0 then [r (S x)] else []) ++ (if mk (r (F x)) = 0 then [r (F x)] else []), ?_, ?_, ?_, ?_, ?_⟩)⟩
        · have : (if mk (r (S x)) = 0 then [r (S x)] else []) ++ (if mk (r (F x)) = 0 then [r (F x)] else []) ++ l = (if mk (r (S x)) = 0 then r (S x) :: (if mk (r (F x)) = 0 then r (F x) :: l else l) else (if mk (r (F x)) = 0 then r (F x) :: l else l)) := by
            split <;> split <;> simp
          rw [this]; exact b4
        · rw [List.length_append]; split <;> split <;> simp
        · intro e9 h9
          rcases List.mem_append.mp h9 with h9 | h9
          · split at h9
            · rw [List.mem_singleton.mp h9]; exact ⟨Or.inr rfl, by assumption⟩
            · cases h9
          · split at h9
            · rw [List.mem_singleton.mp h9]; exact ⟨Or.inl rfl, by assumption⟩
            · cases h9
        · intro h9; rw [if_pos h9]; simp
        · intro h9; rw [if_pos h9]; simp
  · simp only [if_neg e]
    exact ⟨z, 1, rfl, hf, fun _ _ => rfl, fun _ _ _ => rfl, Or.inl ⟨by omega, rfl, hp⟩⟩
