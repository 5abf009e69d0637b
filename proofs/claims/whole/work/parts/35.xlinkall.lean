/-! TypeBench: linkAll. -/
theorem le2000 {st : Nat} (h : st < 2000) : ¬ (2000 : Int32) ≤ nI st := by
  rw [show (2000 : Int32) = nI 2000 by decide]; exact nI_ge h (by decide)
theorem us_lr_or {r : Nat → Nat} {x y : Nat} (t : Nat) : us_lr r x y t = y ∨ us_lr r x y t = r t := by
  unfold us_lr; split
  · exact Or.inl rfl
  · exact Or.inr rfl
theorem us_ld_le {r d : Nat → Nat} {x : Nat} (t : Nat) : us_ld r d x t ≤ d t + 1 := by
  unfold us_ld; split <;> omega
theorem s_linkAll_l {n : Nat} {K F S : Nat → Nat} {P : Nat → Prop} (hn : n ≤ 600) (h4 : ∀ t, t < n → K t < 4) (hPF : ∀ x, P x → 2 ≤ K x → F x < n ∧ S x < n) (hPn : ∀ x, P x → x < n) : ∀ (k : Nat) (z : St) (o r d : Nat → Nat) (ps : List (Nat × Nat)) (st : Nat) (v1 v2 : Int32),
    us_fo n o r d → ro z 3 n o → (∀ t, t < n → d t + rts n o ≤ n) → us_cl n K F S o r ps → (∀ q, q ∈ ps → q.1 < n ∧ q.2 < n) → pi z (fl ps) → (∀ t, t < n → P (r t)) → shp z P K F S → ps.length + 2 * rts n o < k → st + ps.length + 2 * rts n o < 2000 → ps.length + rts n o ≤ 800 →
    ∃ z' res, f_X_linkAll_l28 k z (nI st) v1 v2 = some (res, z') ∧ (∀ k, k ≠ 3 → z'.1 k = z.1 k) ∧ (∀ k, k ≠ 3 → k ≠ 11 → z'.2 k = z.2 k) ∧
      ((res = 0 ∧ ∀ v, us_sol n K F S v → us_rsp n o v → us_pd ps v → False) ∨
       (res = 1 ∧ ∃ o' r' d', us_fo n o' r' d' ∧ ro z' 3 n o' ∧ (∀ t, t < n → d' t + rts n o' ≤ n) ∧ us_cl n K F S o' r' [] ∧ (∀ t, t < n → P (r' t)) ∧ ∀ v, us_sol n K F S v → (us_rsp n o' v ↔ us_rsp n o v ∧ us_pd ps v))) := by
  intro k
  induction k with
  | zero => intro z o r d ps st v1 v2 _ _ _ _ _ _ _ _ h; omega
  | succ k ih =>
    intro z o r d ps st v1 v2 hf hz hd hcl hps hp hP hs hk hst hsz
    rw [f_X_linkAll_l28, if_neg (le2000 (show st < 2000 by omega)), hp.1]
    cases ps with
    | nil =>
      rw [if_pos (show nI (fl []).length ≤ 0 by decide)]
      exact ⟨z, 1, rfl, fun _ _ => rfl, fun _ _ _ => rfl, Or.inr ⟨rfl, o, r, d, hf, hz, hd, hcl, hP, fun v _ => ⟨fun h => ⟨h, fun q hq => by cases hq⟩, fun h => h.1⟩⟩⟩
    | cons q ps =>
      obtain ⟨a, b⟩ := q
      obtain ⟨ha, hb⟩ := hps (a, b) List.mem_cons_self
      have hlen := fl_len ps
      simp only [List.length_cons] at hk hst hsz
      rw [if_neg (nI_nle (by simp [fl]) (by rw [fl_len, List.length_cons]; omega))]
      obtain ⟨z1, a1, b1, c1, d1⟩ := s_take (x := b) (l := a :: fl ps) hp (by simp only [List.length_cons]; omega)
      rw [a1, Option.bind_some]
      have hz1 : ro z1 3 n o := hz.keep (by rw [d1])
      obtain ⟨z2, o2, a2, b2, c2, f2, e2, r2⟩ := s_root (by omega) hf (show d b < 1000 by have := hd b hb; omega) hz1 hb
      rw [a2, Option.bind_some]
      have hp2 : pi z2 (a :: fl ps) := b1.keep (by rw [b2.1]) (b2.2 11 (by decide))
      obtain ⟨z3, a3, b3, c3, d3⟩ := s_take (x := a) (l := fl ps) hp2 (by omega)
      rw [a3, Option.bind_some]
      have hz3 : ro z3 3 n o2 := c2.keep (by rw [d3])
      obtain ⟨z4, o4, a4, b4, c4, f4, e4, r4⟩ := s_root (by omega) f2 (show d a < 1000 by have := hd a ha; omega) hz3 ha
      rw [a4, Option.bind_some]
      have hp4 : pi z4 (fl ps) := b3.keep (by rw [b4.1]) (b4.2 11 (by decide))
      have he : ∀ v, us_rsp n o4 v ↔ us_rsp n o v := fun v => (e4 v).trans (e2 v)
      have hr4 : rts n o4 = rts n o := r4.trans r2
      have g1 : ∀ k, k ≠ 3 → z4.1 k = z.1 k := fun k hk => by rw [b4.1, c3 k hk, b2.1, c1 k hk]
      have g2 : ∀ k, k ≠ 3 → z4.2 k = z.2 k := fun k hk => by rw [b4.2 k (by simpa using hk), d3, b2.2 k (by simpa using hk), d1]
      have hs4 : shp z4 P K F S := hs.keep (g2 6 (by decide)) (g2 7 (by decide)) (g2 8 (by decide))
      have hcl4 := hcl.o he
      have hra : r a < n := (hf a ha).2.1
      have hrb : r b < n := (hf b hb).2.1
      have hps' : ∀ q, q ∈ ps → q.1 < n ∧ q.2 < n := fun q hq => hps q (List.mem_cons_of_mem _ hq)
      simp only [neq (show r a < 2 ^ 31 by omega) (show r b < 2 ^ 31 by omega), nI_1]
      by_cases e : r a = r b
      · rw [if_pos e]
        obtain ⟨z', res, i1, i2, i3, i4⟩ := ih z4 o4 r d ps (st + 1) v1 v2 f4 c4 (fun t ht => by rw [hr4]; exact hd t ht) (hcl4.skip f4 ha hb e) hps' hp4 hP hs4 (by omega) (by omega) (by omega)
        refine ⟨z', res, i1, fun k hk => by rw [i2 k hk, g1 k hk], fun k h1 h2 => by rw [i3 k h1 h2, g2 k h1], ?_⟩
        have hab : ∀ v, us_rsp n o v → v a = v b := fun v hv => by rw [us_rsp.r hf hv ha, us_rsp.r hf hv hb, e]
        rcases i4 with ⟨h0, h1⟩ | ⟨h0, o', r', d', j1, j2, j3, j4, j5, j6⟩
        · exact Or.inl ⟨h0, fun v hv hr hpd => h1 v hv ((he v).mpr hr) (us_pd_c.mp hpd).2⟩
        · refine Or.inr ⟨h0, o', r', d', j1, j2, j3, j4, j5, fun v hv => (j6 v hv).trans ?_⟩
          rw [he v, us_pd_c]
          exact ⟨fun h => ⟨h.1, hab v h.1, h.2⟩, fun h => ⟨h.1, h.2.2⟩⟩
      · rw [if_neg e]
        obtain ⟨z5, res5, a5, g5, g6, cs⟩ := s_linkTwo (a := a) (b := b) (by omega) f4 c4 hcl4 h4 hs4 hPF ha hb rfl rfl (hP a ha) (hP b hb) e hp4 (by omega)
        rw [a5, Option.bind_some]
        rcases cs with ⟨h0, h1⟩ | ⟨h0, x', y', ps', hxy, hpl, j1, j2, j3, j4, j5⟩
        · subst h0
          refine ⟨z5, 0, rfl, fun k hk => by rw [g5 k hk, g1 k hk], fun k h1 h2 => by rw [g6 k h1 h2, g2 k h1], Or.inl ⟨rfl, fun v hv hr hpd => h1 v hv ((he v).mpr hr) (us_pd_c.mp hpd).1⟩⟩
        · subst h0
          rw [if_neg (show ¬ (1 : Int32) = 0 by decide)]
          have hx' : x' < n ∧ o4 x' = x' ∧ y' < n ∧ o4 y' = y' ∧ x' ≠ y' ∧ P y' := by
            have oa := (f4 a ha).2.2.1
            have ob := (f4 b hb).2.2.1
            rcases hxy with ⟨rfl, rfl⟩ | ⟨rfl, rfl⟩
            · exact ⟨hra, oa, hrb, ob, e, hP b hb⟩
            · exact ⟨hrb, ob, hra, oa, fun q => e q.symm, hP a ha⟩
          obtain ⟨x1, x2, x3, x4, x5, x6⟩ := hx'
          have hrl := rts_link (y := y') x1 x2 x5
          have fl5 := f4.link x1 x3 x2 x4 x5
          obtain ⟨z', res, i1, i2, i3, i4⟩ := ih z5 (us_up o4 x' y') (us_lr r x' y') (us_ld r d x') ps' (st + 1) v1 v2 fl5 j1 (fun t ht => by have := us_ld_le (r := r) (d := d) (x := x') t; have := hd t ht; omega) j2
            (fun q hq => (j4 q hq).elim (fun h => hps' q h) id) j3 (fun t ht => by rcases us_lr_or (r := r) (x := x') (y := y') t with h | h <;> rw [h]; exact x6; exact hP t ht) (hs4.keep (g6 6 (by decide) (by decide)) (g6 7 (by decide) (by decide)) (g6 8 (by decide) (by decide))) (by omega) (by omega) (by omega)
          refine ⟨z', res, i1, fun k hk => by rw [i2 k hk, g5 k hk, g1 k hk], fun k h1 h2 => by rw [i3 k h1 h2, g6 k h1 h2, g2 k h1], ?_⟩
          rcases i4 with ⟨h0, h1⟩ | ⟨h0, o', r', d', k1, k2, k3, k4, k5, k6⟩
          · refine Or.inl ⟨h0, fun v hv hr hpd => ?_⟩
            have := (j5 v hv).mpr ⟨(he v).mpr hr, hpd⟩
            exact h1 v hv this.1 this.2
          · refine Or.inr ⟨h0, o', r', d', k1, k2, k3, k4, k5, fun v hv => (k6 v hv).trans ((j5 v hv).trans ?_)⟩
            rw [he v]
