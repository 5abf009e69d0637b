/-! TypeBench: keepRoot, and its loop. -/
theorem KP.succ {n i : Nat} {r tr : Nat → Nat} (t1 : tr i < n) (hri : r (tr i) = tr i) (x : Nat) : KP n (i + 1) r tr x ↔ KP n i r tr x ∨ x = tr i := by
  constructor
  · rintro ⟨q1, q2, j, q3, q4⟩
    by_cases q : j = i
    · exact Or.inr (by rw [← q4, q])
    · exact Or.inl ⟨q1, q2, j, by omega, q4⟩
  · rintro (⟨q1, q2, j, q3, q4⟩ | q)
    · exact ⟨q1, q2, j, by omega, q4⟩
    · rw [q]; exact ⟨t1, hri, i, by omega, rfl⟩
theorem s_keepRoot {z : St} {n c i m e : Nat} {K F S r0 tr o0 o r d Fi Si od ps : Nat → Nat} (hn : n ≤ 600) (hc : c ≤ 600) (hT : TR n c K F S r0 tr) (hi : i < c) (h : KI z n c i K F S r0 tr o0 o r d Fi Si od ps m e) :
    ∃ z' o' r' d' Fi' Si' od' ps' m' e', f_X_keepRoot z (nI (tr i)) = some z' ∧ KI z' n c (i + 1) K F S r0 tr o0 o' r' d' Fi' Si' od' ps' m' e' ∧ (∀ k, k ≠ 1 → z'.1 k = z.1 k) ∧ (∀ k, k = 0 ∨ k = 1 ∨ k = 5 → z'.2 k = z.2 k) := by
  obtain ⟨⟨h1, h2, h3⟩, h4, h5, ⟨h6, h7, h8⟩, h9, h10, h11, ⟨h12, h13, h14⟩, h15, h16, h17, h18⟩ := id h
  obtain ⟨t1, t2, t3, t4⟩ := hT.1 i hi
  have hri : r (tr i) = tr i := h5 i (Nat.le_refl _) hi
  have hP := KP.succ (i := i) t1 hri
  have ne : ∀ {x}, KP n i r tr x → x ≠ tr i := fun {x} hx q => by
    obtain ⟨-, -, j, q3, q4⟩ := hx
    have := hT.2 j i (by omega) hi (q4.trans q)
    omega
  have hx1 : tr i < 1000 := by omega
  unfold f_X_keepRoot
  rw [s_hasParts hx1 (h12 i hi) t3, Option.bind_some]
  dsimp only
  by_cases hk : 2 ≤ K (tr i)
  · rw [if_pos hk, if_neg (show ¬ (1 : Int32) = 0 by decide)]
    obtain ⟨u1, u2, ⟨a, u3, u4⟩, ⟨b, u5, u6⟩⟩ := t4 hk
    obtain ⟨p7, p8⟩ := h14 i (Nat.le_refl _) hi hk
    have pf : KP n i r tr (r (F (tr i))) := by rw [h4 _ u1, ← u4]; exact (h11 a u3).1
    have psn : KP n i r tr (r (S (tr i))) := by rw [h4 _ u2, ← u6]; exact (h11 b u5).1
    simp only [ix_g hx1 (show 1000 < 2 ^ 31 by decide), cl_ (show tr i < 2 ^ 31 by omega)]
    have hd : ∀ t, t < n → d t < 1000 := fun t ht => by have := h3 t ht; omega
    have hF0 : FO z n o r d := ⟨o, h1, h2, fun _ => Iff.rfl, rfl⟩
    obtain ⟨z1, a1, a2, a3⟩ := s_rootF (by omega) hF0 hd u1
    rw [p7, a1, Option.bind_some]
    obtain ⟨z2, b1, b2, b3⟩ := s_rootF (by omega) a3 hd u2
    dsimp only
    rw [a2.2 8 (by simp), p8, b1, Option.bind_some]
    dsimp only
    rw [s_write _ _ _ hx1, Option.bind_some, h12 i hi]
    have e2 : ∀ k, k ≠ 3 → z2.2 k = z.2 k := fun k hk3 => by rw [b2.2 k (by simp [hk3]), a2.2 k (by simp [hk3])]
    have hE : shE (war (war (war z2 6 (tr i) (nI (K (tr i)))) 7 (tr i) (nI (r (F (tr i))))) 8 (tr i) (nI (r (S (tr i))))) (fun x => KP n i r tr x ∧ 2 ≤ K x) K Fi Si := fun x hx => by
      obtain ⟨q1, q2⟩ := hx
      have qn := ne q1
      obtain ⟨s1, s2⟩ := h13 x q1 q2
      obtain ⟨w1, w2, -, -⟩ := h16 x q1 q2
      have wx := q1.1
      have w1n := w1.1
      have w2n := w2.1
      refine ⟨by omega, ?_, ?_, ?_, ?_, by omega, by omega⟩
      · rw [war_n _ _ (by decide), war_n _ _ (by decide), war_i _ _ qn, e2 6 (by decide)]
        obtain ⟨-, -, j, j1, j2⟩ := q1
        rw [← j2]; exact h12 j (by omega)
      · rw [war_n _ _ (by decide), war_i _ _ qn, war_n _ _ (by decide), e2 7 (by decide)]; exact s1
      · rw [war_i _ _ qn, war_n _ _ (by decide), war_n _ _ (by decide), e2 8 (by decide)]; exact s2
      · obtain ⟨-, -, j, j1, j2⟩ := q1
        rw [← j2]; exact (hT.1 j (by omega)).2.2.1
    have hH : HS (war (war (war z2 6 (tr i) (nI (K (tr i)))) 7 (tr i) (nI (r (F (tr i))))) 8 (tr i) (nI (r (S (tr i))))) (fun x => KP n i r tr x ∧ 2 ≤ K x) K Fi Si e := h15.keep (by rw [war_n _ _ (by decide), war_n _ _ (by decide), war_n _ _ (by decide), e2 9 (by decide)]) (by rw [war_n _ _ (by decide), war_n _ _ (by decide), war_n _ _ (by decide), e2 10 (by decide)])
    have pfn := pf.1
    have pssn := psn.1
    obtain ⟨res, c1, c2⟩ := s_twinOf (a := tr i) (k0 := K (tr i)) (f0 := r (F (tr i))) (s0 := r (S (tr i))) hH (by omega) hE hx1 (by rw [war_n _ _ (by decide), war_n _ _ (by decide), war_s]) (by rw [war_n _ _ (by decide), war_s]) (war_s _ _ _ _) t3 (by omega) (by omega)
    rw [c1, Option.bind_some]
    obtain ⟨o', k1, k2, k3, k4⟩ := b3
    have e6 : ∀ j, j < c → (war (war (war z2 6 (tr i) (nI (K (tr i)))) 7 (tr i) (nI (r (F (tr i))))) 8 (tr i) (nI (r (S (tr i))))).2 6 (tr j) = z.2 6 (tr j) := fun j hj => by
      rw [war_n _ _ (by decide), war_n _ _ (by decide)]
      by_cases q : tr j = tr i
      · rw [q, war_s, h12 i hi]
      · rw [war_i _ _ q, e2 6 (by decide)]
    have e7 : ∀ x, x ≠ tr i → (war (war (war z2 6 (tr i) (nI (K (tr i)))) 7 (tr i) (nI (r (F (tr i))))) 8 (tr i) (nI (r (S (tr i))))).2 7 x = z.2 7 x ∧ (war (war (war z2 6 (tr i) (nI (K (tr i)))) 7 (tr i) (nI (r (F (tr i))))) 8 (tr i) (nI (r (S (tr i))))).2 8 x = z.2 8 x := fun x hx => by
      rw [war_n _ _ (by decide), war_i _ _ hx, war_n _ _ (by decide), e2 7 (by decide), war_i _ _ hx, war_n _ _ (by decide), war_n _ _ (by decide), e2 8 (by decide)]
      exact ⟨rfl, rfl⟩
    rcases c2 with ⟨w, ⟨w1, w2⟩, w3, w4, w5, rfl⟩ | ⟨rfl, hno⟩
    · have wn := w1.1
      dsimp only
      rw [if_neg (im1 (by omega))]
      obtain ⟨o2, r2, d2, hK⟩ := h.like (z' := war (war (war (war z2 6 (tr i) (nI (K (tr i)))) 7 (tr i) (nI (r (F (tr i))))) 8 (tr i) (nI (r (S (tr i))))) 3 (tr i) (nI w)) hT hi hk rfl rfl w1 w3 w4 w5
        (by simp only [war_1]; rw [b2.1, a2.1]) (by rw [war_n _ _ (by decide), war_n _ _ (by decide), war_n _ _ (by decide), war_n _ _ (by decide), e2 2 (by decide)])
        ⟨o', k1, (k2.keep (by rw [war_n _ _ (by decide), war_n _ _ (by decide), war_n _ _ (by decide)])).set _ rfl, k4, k3⟩
        (fun j hj => by rw [war_n _ _ (by decide)]; exact e6 j hj) (fun x hx => by rw [war_n _ _ (by decide), war_n _ _ (by decide)]; exact e7 x hx)
        (by rw [war_n _ _ (by decide), war_n _ _ (by decide), war_n _ _ (by decide), war_n _ _ (by decide), e2 9 (by decide)]) (by rw [war_n _ _ (by decide), war_n _ _ (by decide), war_n _ _ (by decide), war_n _ _ (by decide), e2 10 (by decide)])
      refine ⟨_, o2, r2, d2, Fi, Si, od, ps, m, e, rfl, hK, fun k hk1 => ?_, fun k hk1 => ?_⟩
      · simp only [war_1]; rw [b2.1, a2.1]
      · rw [war_n _ _ (by omega), war_n _ _ (by omega), war_n _ _ (by omega), war_n _ _ (by omega), e2 k (by omega)]
    · dsimp only
      rw [if_pos rfl]
      have hH2 : HS (war (war (war z2 6 (tr i) (nI (K (tr i)))) 7 (tr i) (nI (r (F (tr i))))) 8 (tr i) (nI (r (S (tr i))))) (fun x => KP n i r tr x ∧ 2 ≤ K x) K (us_up Fi (tr i) (r (F (tr i)))) (us_up Si (tr i) (r (S (tr i)))) e := hH.cong (fun _ => Iff.rfl) (fun x hx => ⟨rfl, us_up_n _ (ne hx.1), us_up_n _ (ne hx.1)⟩)
      obtain ⟨z4, d1, d2, d3⟩ := s_enter (a := tr i) hH2 hx1 (fun q => ne q.1 rfl) (by rw [war_n _ _ (by decide), war_n _ _ (by decide), war_s]) (by rw [war_n _ _ (by decide), war_s, us_up_s]) (by rw [war_s, us_up_s]) t3 (by rw [us_up_s]; omega) (by rw [us_up_s]; omega)
      rw [d1, Option.bind_some]
      have e4 : z4.1 = z.1 := by rw [d3.1]; simp only [war_1]; rw [b2.1, a2.1]
      rw [war_1, e4, h6, ix_f (by omega) (by decide), cl_ (by omega), nI_1]
      have e42 : ∀ k, k ≠ 3 → k ≠ 6 → k ≠ 7 → k ≠ 8 → k ≠ 9 → k ≠ 10 → z4.2 k = z.2 k := fun k q3 q6 q7 q8 q9 q10 => by
        rw [d3.2 k (by simp [q9, q10]), war_n _ _ q8, war_n _ _ q7, war_n _ _ q6, e2 k q3]
      obtain ⟨o2, hK⟩ := h.grow (z' := wsc (war z4 2 m (nI (tr i))) 1 (nI (m + 1))) (e' := e + 1) (f1 := r (F (tr i))) (s1 := r (S (tr i))) hT hi (Or.inr ⟨hk, rfl, rfl, fun x hx q => hno x ⟨hx, by omega⟩ q⟩)
        (wsc_s _ _ _) (fun a ha => by rw [wsc_2, war_i _ _ ha, e42 2 (by decide) (by decide) (by decide) (by decide) (by decide) (by decide)]) (by rw [wsc_2, war_s])
        ⟨o', k1, k2.keep (by rw [wsc_2, war_n _ _ (by decide), d3.2 3 (by simp), war_n _ _ (by decide), war_n _ _ (by decide), war_n _ _ (by decide)]), k4, k3⟩
        (fun j hj => by rw [wsc_2, war_n _ _ (by decide), d3.2 6 (by simp)]; exact e6 j hj) (fun x hx => by rw [wsc_2, war_n _ _ (by decide), war_n _ _ (by decide), d3.2 7 (by simp), d3.2 8 (by simp)]; exact e7 x hx)
        (fun _ => by rw [wsc_2, war_n _ _ (by decide), war_n _ _ (by decide), d3.2 7 (by simp), d3.2 8 (by simp), war_n _ _ (by decide), war_s, war_s]; exact ⟨rfl, rfl⟩)
        ((d2.keep (by rw [wsc_2, war_n _ _ (by decide)]) (by rw [wsc_2, war_n _ _ (by decide)])).cong (fun x => by
          rw [hP]
          constructor
          · rintro ⟨q | q, q2⟩
            · exact Or.inl ⟨q, q2⟩
            · exact Or.inr q
          · rintro (⟨q, q2⟩ | q)
            · exact ⟨Or.inl q, q2⟩
            · exact ⟨Or.inr q, by rw [q]; exact hk⟩) (fun x _ => ⟨rfl, rfl, rfl⟩)) (by omega)
      refine ⟨_, o2, r, d, _, _, _, _, m + 1, e + 1, rfl, hK, fun k hk1 => ?_, fun k hk1 => ?_⟩
      · rw [wsc_n _ _ hk1, war_1, e4]
      · rw [wsc_2, war_n _ _ (by omega), e42 k (by omega) (by omega) (by omega) (by omega) (by omega) (by omega)]
  · rw [if_neg hk, if_pos rfl, war_1, h6, ix_f (by omega) (by decide), cl_ (by omega), nI_1]
    obtain ⟨o2, hK⟩ := h.grow (z' := wsc (war z 2 m (nI (tr i))) 1 (nI (m + 1))) (e' := e) (f1 := 0) (s1 := 0) hT hi (Or.inl (by omega))
      (wsc_s _ _ _) (fun a ha => by rw [wsc_2, war_i _ _ ha]) (by rw [wsc_2, war_s]) ⟨o, h1, h2.keep (by rw [wsc_2, war_n _ _ (by decide)]), rfl, fun _ => Iff.rfl⟩
      (fun j hj => by rw [wsc_2, war_n _ _ (by decide)]) (fun x hx => by rw [wsc_2, war_n _ _ (by decide), war_n _ _ (by decide)]; exact ⟨rfl, rfl⟩) (fun q => absurd q hk)
      ((h15.keep (by rw [wsc_2, war_n _ _ (by decide)]) (by rw [wsc_2, war_n _ _ (by decide)])).cong (fun x => by
        rw [hP]
        constructor
        · rintro ⟨q | q, q2⟩
          · exact ⟨q, q2⟩
          · rw [q] at q2; exact absurd q2 hk
        · rintro ⟨q, q2⟩
          exact ⟨Or.inl q, q2⟩) (fun x hx => ⟨rfl, us_up_n _ (ne hx.1), us_up_n _ (ne hx.1)⟩)) (by omega)
    refine ⟨_, o2, r, d, _, _, _, _, m + 1, e, rfl, hK, fun k hk1 => ?_, fun k hk1 => ?_⟩
    · rw [wsc_n _ _ hk1, war_1]
    · rw [wsc_2, war_n _ _ (by omega)]
theorem s_keep14 {n c : Nat} {K F S r0 tr o0 : Nat → Nat} (hn : n ≤ 600) (hc : c ≤ 600) (hT : TR n c K F S r0 tr) : ∀ (k i : Nat) (z : St) (o r d Fi Si od ps : Nat → Nat) (m e : Nat), i ≤ c → c - i < k → z.1 2 = nI c → (∀ j, j < c → z.2 5 j = nI (tr j)) → KI z n c i K F S r0 tr o0 o r d Fi Si od ps m e →
    ∃ z' o' r' d' Fi' Si' od' ps' m' e', f_X_keepLinks_l14 k z (nI i) = f_X_keepLinks_l40 FU z' 0 ∧ KI z' n c c K F S r0 tr o0 o' r' d' Fi' Si' od' ps' m' e' ∧ (∀ k, k ≠ 1 → z'.1 k = z.1 k) ∧ (∀ k, k = 0 ∨ k = 1 ∨ k = 5 → z'.2 k = z.2 k) := by
  intro k
  induction k with
  | zero => intro i z o r d Fi Si od ps m e _ h; omega
  | succ k ih =>
    intro i z o r d Fi Si od ps m e hi hk h2 h5 h
    rw [f_X_keepLinks_l14, h2]
    by_cases q : i = c
    · subst q
      rw [if_pos (Int32.le_refl _)]
      exact ⟨z, o, r, d, Fi, Si, od, ps, m, e, rfl, h, fun _ _ => rfl, fun _ _ => rfl⟩
    · rw [if_neg (nI_ge (by omega) (by omega)), ix_f (by omega) (by decide), cl_ (by omega), h5 i (by omega)]
      obtain ⟨z1, o1, r1, d1, F1, S1, od1, ps1, m1, e1, a1, a2, a3, a4⟩ := s_keepRoot hn hc hT (show i < c by omega) h
      rw [a1, Option.bind_some, nI_1]
      obtain ⟨z', o', r', d', Fi', Si', od', ps', m', e', b1, b2, b3, b4⟩ := ih (i + 1) z1 o1 r1 d1 F1 S1 od1 ps1 m1 e1 (by omega) (by omega) (by rw [a3 2 (by decide)]; exact h2) (fun j hj => by rw [a4 5 (by simp)]; exact h5 j hj) a2
      exact ⟨z', o', r', d', Fi', Si', od', ps', m', e', b1, b2, fun k hk => by rw [b3 k hk, a3 k hk], fun k hk => by rw [b4 k hk, a4 k hk]⟩
