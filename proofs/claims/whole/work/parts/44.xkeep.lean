/-! TypeBench: keepRoot. -/
/-- kept so far: processed, and a root still -/
abbrev KP (n i : Nat) (r tr : Nat → Nat) : Nat → Prop := fun x => x < n ∧ r x = x ∧ ∃ j, j < i ∧ tr j = x
def KI (z : St) (n c i : Nat) (K F S r0 tr o0 : Nat → Nat) (o r d Fi Si od ps : Nat → Nat) (m e : Nat) : Prop :=
  (us_fo n o r d ∧ ro z 3 n o ∧ (∀ t, t < n → d t + rts n o ≤ n)) ∧ (∀ t, t < n → r t = r (r0 t)) ∧ (∀ j, i ≤ j → j < c → r (tr j) = tr j) ∧
  (z.1 1 = nI m ∧ m ≤ i ∧ e ≤ i) ∧ (∀ a, a < m → z.2 2 a = nI (od a) ∧ KP n i r tr (od a) ∧ ps (od a) = a) ∧ (∀ x, KP n i r tr x → ps x < m ∧ od (ps x) = x) ∧
  (∀ j, j < i → KP n i r tr (r (tr j)) ∧ K (r (tr j)) = K (tr j) ∧ (2 ≤ K (tr j) → r (F (tr j)) = Fi (r (tr j)) ∧ r (S (tr j)) = Si (r (tr j)))) ∧
  ((∀ j, j < c → z.2 6 (tr j) = nI (K (tr j))) ∧ (∀ x, KP n i r tr x → 2 ≤ K x → z.2 7 x = nI (Fi x) ∧ z.2 8 x = nI (Si x)) ∧ (∀ j, i ≤ j → j < c → 2 ≤ K (tr j) → z.2 7 (tr j) = nI (F (tr j)) ∧ z.2 8 (tr j) = nI (S (tr j)))) ∧
  HS z (fun x => KP n i r tr x ∧ 2 ≤ K x) K Fi Si e ∧ (∀ x, KP n i r tr x → 2 ≤ K x → KP n i r tr (Fi x) ∧ KP n i r tr (Si x) ∧ ps (Fi x) < ps x ∧ ps (Si x) < ps x) ∧
  (∀ x y, KP n i r tr x → KP n i r tr y → K x = K y → 2 ≤ K x → Fi x = Fi y → Si x = Si y → x = y) ∧ (∀ v, us_sol n K F S v → (us_rsp n o v ↔ us_rsp n o0 v))
/-- what layOut laid down, as keepLinks needs it -/
def TR (n c : Nat) (K F S r0 tr : Nat → Nat) : Prop :=
  (∀ j, j < c → tr j < n ∧ r0 (tr j) = tr j ∧ K (tr j) < 4 ∧ (2 ≤ K (tr j) → F (tr j) < n ∧ S (tr j) < n ∧ (∃ a, a < j ∧ tr a = r0 (F (tr j))) ∧ (∃ a, a < j ∧ tr a = r0 (S (tr j))))) ∧ (∀ a b, a < c → b < c → tr a = tr b → a = b)
/-- x = tr i is kept: the rows of the order grow -/
theorem KI.grow {z z' : St} {n c i m e e' f1 s1 : Nat} {K F S r0 tr o0 o r d Fi Si od ps : Nat → Nat} (hT : TR n c K F S r0 tr) (hi : i < c) (h : KI z n c i K F S r0 tr o0 o r d Fi Si od ps m e)
    (hk : K (tr i) < 2 ∨ (2 ≤ K (tr i) ∧ r (F (tr i)) = f1 ∧ r (S (tr i)) = s1 ∧ ∀ x, KP n i r tr x → ¬ (K x = K (tr i) ∧ Fi x = f1 ∧ Si x = s1)))
    (g1 : z'.1 1 = nI (m + 1)) (g2 : ∀ a, a ≠ m → z'.2 2 a = z.2 2 a) (g2m : z'.2 2 m = nI (tr i)) (g3 : ∃ o', us_fo n o' r d ∧ ro z' 3 n o' ∧ rts n o' = rts n o ∧ ∀ v, us_rsp n o' v ↔ us_rsp n o v)
    (g6 : ∀ j, j < c → z'.2 6 (tr j) = z.2 6 (tr j)) (g7 : ∀ x, x ≠ tr i → z'.2 7 x = z.2 7 x ∧ z'.2 8 x = z.2 8 x) (g7x : 2 ≤ K (tr i) → z'.2 7 (tr i) = nI f1 ∧ z'.2 8 (tr i) = nI s1)
    (hH : HS z' (fun x => KP n (i + 1) r tr x ∧ 2 ≤ K x) K (us_up Fi (tr i) f1) (us_up Si (tr i) s1) e') (he : e' ≤ i + 1) :
    ∃ o', KI z' n c (i + 1) K F S r0 tr o0 o' r d (us_up Fi (tr i) f1) (us_up Si (tr i) s1) (us_up od m (tr i)) (us_up ps (tr i) m) (m + 1) e' := by
  obtain ⟨⟨h1, h2, h3⟩, h4, h5, ⟨h6, h7, h8⟩, h9, h10, h11, ⟨h12, h13, h14⟩, h15, h16, h17, h18⟩ := h
  obtain ⟨o', k1, k2, k3, k4⟩ := g3
  obtain ⟨t1, t2, t3, t4⟩ := hT.1 i hi
  have hri : r (tr i) = tr i := h5 i (Nat.le_refl _) hi
  have hP : ∀ x, KP n (i + 1) r tr x ↔ KP n i r tr x ∨ x = tr i := fun x => by
    constructor
    · rintro ⟨q1, q2, j, q3, q4⟩
      by_cases q : j = i
      · exact Or.inr (by rw [← q4, q])
      · exact Or.inl ⟨q1, q2, j, by omega, q4⟩
    · rintro (⟨q1, q2, j, q3, q4⟩ | q)
      · exact ⟨q1, q2, j, by omega, q4⟩
      · rw [q]; exact ⟨t1, hri, i, by omega, rfl⟩
  have ne : ∀ {x}, KP n i r tr x → x ≠ tr i := fun {x} hx q => by
    obtain ⟨-, -, j, q3, q4⟩ := hx
    have := hT.2 j i (by omega) hi (q4.trans q)
    omega
  refine ⟨o', ⟨k1, k2, fun t ht => by rw [k3]; exact h3 t ht⟩, h4, fun j hj hjc => h5 j (by omega) hjc, ⟨g1, by omega, he⟩, fun a ha => ?_, fun x hx => ?_, fun j hj => ?_, ⟨fun j hj => by rw [g6 j hj]; exact h12 j hj, fun x hx q => ?_, fun j hj hjc q => ?_⟩, hH, fun x hx q => ?_, fun x y hx hy hxy q e1 e2 => ?_, fun v hv => (k4 v).trans (h18 v hv)⟩
  · by_cases q : a = m
    · rw [q, us_up_s, g2m, us_up_s]; exact ⟨rfl, (hP _).mpr (Or.inr rfl), rfl⟩
    · obtain ⟨p1, p2, p3⟩ := h9 a (by omega)
      rw [us_up_n _ q, g2 a q, us_up_n _ (ne p2)]
      exact ⟨p1, (hP _).mpr (Or.inl p2), p3⟩
  · rcases (hP x).mp hx with hx | hx
    · obtain ⟨p1, p2⟩ := h10 x hx
      rw [us_up_n _ (ne hx), us_up_n _ (by omega)]
      exact ⟨by omega, p2⟩
    · rw [hx, us_up_s, us_up_s]; exact ⟨by omega, rfl⟩
  · by_cases q : j = i
    · rw [q, hri]
      refine ⟨(hP _).mpr (Or.inr rfl), rfl, fun hk2 => ?_⟩
      rw [us_up_s, us_up_s]
      rcases hk with hk | ⟨-, q1, q2, -⟩
      · omega
      · exact ⟨q1, q2⟩
    · obtain ⟨p1, p2, p3⟩ := h11 j (by omega)
      refine ⟨(hP _).mpr (Or.inl p1), p2, fun hk2 => ?_⟩
      rw [us_up_n _ (ne p1), us_up_n _ (ne p1)]
      exact p3 hk2
  · rcases (hP x).mp hx with hx | hx
    · rw [(g7 x (ne hx)).1, (g7 x (ne hx)).2, us_up_n _ (ne hx), us_up_n _ (ne hx)]
      exact h13 x hx q
    · rw [hx, us_up_s, us_up_s]; rw [hx] at q; exact g7x q
  · have hne : tr j ≠ tr i := fun q2 => by have := hT.2 j i hjc hi q2; omega
    rw [(g7 _ hne).1, (g7 _ hne).2]
    exact h14 j (by omega) hjc q
  · rcases (hP x).mp hx with hx | hx
    · obtain ⟨p1, p2, p3, p4⟩ := h16 x hx q
      rw [us_up_n _ (ne hx), us_up_n _ (ne hx), us_up_n _ (ne hx), us_up_n _ (ne p1), us_up_n _ (ne p2), hP, hP]
      exact ⟨Or.inl p1, Or.inl p2, p3, p4⟩
    · rw [hx] at q ⊢
      obtain ⟨u1, u2, ⟨a, u3, u4⟩, ⟨b, u5, u6⟩⟩ := t4 q
      rcases hk with hk | ⟨-, q1, q2, -⟩
      · omega
      · have w1 : KP n i r tr f1 := by rw [← q1, h4 _ u1, ← u4]; exact (h11 a u3).1
        have w2 : KP n i r tr s1 := by rw [← q2, h4 _ u2, ← u6]; exact (h11 b u5).1
        rw [us_up_s, us_up_s, us_up_s, us_up_n _ (ne w1), us_up_n _ (ne w2), hP, hP]
        exact ⟨Or.inl w1, Or.inl w2, (h10 _ w1).1, (h10 _ w2).1⟩
  · rcases (hP x).mp hx with hx | hx <;> rcases (hP y).mp hy with hy | hy
    · rw [us_up_n _ (ne hx), us_up_n _ (ne hy)] at e1 e2
      exact h17 x y hx hy hxy q e1 e2
    · rw [hy, us_up_s, us_up_n _ (ne hx)] at e1 e2
      rw [hy] at hxy
      rcases hk with hk | ⟨-, -, -, q3⟩
      · omega
      · exact absurd ⟨hxy, e1, e2⟩ (q3 x hx)
    · rw [hx, us_up_s, us_up_n _ (ne hy)] at e1 e2
      rw [hx] at hxy q
      rcases hk with hk | ⟨-, -, -, q3⟩
      · omega
      · exact absurd ⟨hxy.symm, e1.symm, e2.symm⟩ (q3 y hy)
    · rw [hx, hy]
/-- x = tr i is like w, which is kept: it is linked to it -/
theorem KI.like {z z' : St} {n c i m e w f1 s1 : Nat} {K F S r0 tr o0 o r d Fi Si od ps : Nat → Nat} (hT : TR n c K F S r0 tr) (hi : i < c) (h : KI z n c i K F S r0 tr o0 o r d Fi Si od ps m e) (hk : 2 ≤ K (tr i)) (hf : r (F (tr i)) = f1) (hs : r (S (tr i)) = s1) (hw : KP n i r tr w) (w1 : K w = K (tr i)) (w2 : Fi w = f1) (w3 : Si w = s1)
    (g1 : z'.1 1 = z.1 1) (g2 : z'.2 2 = z.2 2) (g3 : ∃ o', us_fo n o' r d ∧ ro z' 3 n (us_up o' (tr i) w) ∧ rts n o' = rts n o ∧ ∀ v, us_rsp n o' v ↔ us_rsp n o v)
    (g6 : ∀ j, j < c → z'.2 6 (tr j) = z.2 6 (tr j)) (g7 : ∀ x, x ≠ tr i → z'.2 7 x = z.2 7 x ∧ z'.2 8 x = z.2 8 x) (g9 : z'.2 9 = z.2 9) (g10 : z'.2 10 = z.2 10) :
    ∃ o' r' d', KI z' n c (i + 1) K F S r0 tr o0 o' r' d' Fi Si od ps m e := by
  obtain ⟨⟨h1, h2, h3⟩, h4, h5, ⟨h6, h7, h8⟩, h9, h10, h11, ⟨h12, h13, h14⟩, h15, h16, h17, h18⟩ := h
  obtain ⟨o', k1, k2, k3, k4⟩ := g3
  obtain ⟨t1, t2, t3, t4⟩ := hT.1 i hi
  obtain ⟨u1, u2, ⟨a, u3, u4⟩, ⟨b, u5, u6⟩⟩ := t4 hk
  have hri : r (tr i) = tr i := h5 i (Nat.le_refl _) hi
  have ne : ∀ {x}, KP n i r tr x → x ≠ tr i := fun {x} hx q => by
    obtain ⟨-, -, j, q3, q4⟩ := hx
    have := hT.2 j i (by omega) hi (q4.trans q)
    omega
  have lr : ∀ {t}, r t ≠ tr i → us_lr r (tr i) w t = r t := fun {t} q => by unfold us_lr; rw [if_neg q]
  have lrx : ∀ {t}, r t = tr i → us_lr r (tr i) w t = w := fun {t} q => by unfold us_lr; rw [if_pos q]
  have hP : ∀ x, KP n (i + 1) (us_lr r (tr i) w) tr x ↔ KP n i r tr x := fun x => by
    constructor
    · rintro ⟨q1, q2, j, q3, q4⟩
      have hx : x ≠ tr i := fun q => by
        rw [q, lrx hri] at q2; exact ne hw q2
      have hrx : r x = x := by
        by_cases q : r x = tr i
        · rw [lrx q] at q2
          have := hw.2.1
          rw [← q2] at q
          rw [this] at q
          exact absurd (q2 ▸ q) (fun p => hx p)
        · rw [lr q] at q2; exact q2
      refine ⟨q1, hrx, j, ?_, q4⟩
      by_cases q : j = i
      · rw [q] at q4; exact absurd q4.symm hx
      · omega
    · rintro ⟨q1, q2, j, q3, q4⟩
      refine ⟨q1, ?_, j, by omega, q4⟩
      rw [lr (by rw [q2]; exact ne ⟨q1, q2, j, q3, q4⟩)]; exact q2
  have kept : ∀ {y}, KP n i r tr y → us_lr r (tr i) w y = y := fun {y} hy => by rw [lr (by rw [hy.2.1]; exact ne hy)]; exact hy.2.1
  have pf : KP n i r tr f1 := by rw [← hf, h4 _ u1, ← u4]; exact (h11 a u3).1
  have ps' : KP n i r tr s1 := by rw [← hs, h4 _ u2, ← u6]; exact (h11 b u5).1
  have ox : o' (tr i) = tr i := (k1.root t1).mpr hri
  have ow : o' w = w := (k1.root hw.1).mpr hw.2.1
  have hne : tr i ≠ w := fun q => ne hw q.symm
  have hrl := rts_link (y := w) t1 ox hne
  refine ⟨us_up o' (tr i) w, us_lr r (tr i) w, us_ld r d (tr i), ⟨k1.link t1 hw.1 ox ow hne, k2, fun t ht => by have := us_ld_le (r := r) (d := d) (x := tr i) t; have := h3 t ht; omega⟩, fun t ht => ?_, fun j hj hjc => ?_, ⟨g1.trans h6, by omega, by omega⟩, fun a ha => ?_, fun x hx => ?_, fun j hj => ?_, ⟨fun j hj => by rw [g6 j hj]; exact h12 j hj, fun x hx q => ?_, fun j hj hjc q => ?_⟩, ?_, fun x hx q => ?_, fun x y hx hy hxy q e1 e2 => ?_, fun v hv => ?_⟩
  · unfold us_lr; rw [h4 t ht]
  · rw [lr (by rw [h5 j (by omega) hjc]; exact fun q => by have := hT.2 j i hjc hi q; omega)]
    exact h5 j (by omega) hjc
  · rw [g2, hP]; exact h9 a ha
  · rw [hP] at hx; exact h10 x hx
  · by_cases q : j = i
    · rw [q, lrx hri, hP]
      refine ⟨hw, w1, fun _ => ?_⟩
      rw [lr (by rw [hf]; exact ne pf), lr (by rw [hs]; exact ne ps'), hf, hs, w2, w3]
      exact ⟨rfl, rfl⟩
    · obtain ⟨p1, p2, p3⟩ := h11 j (by omega)
      rw [lr (ne p1), hP]
      refine ⟨p1, p2, fun hk2 => ?_⟩
      obtain ⟨p4, p5⟩ := p3 hk2
      have hk3 : 2 ≤ K (r (tr j)) := by rw [p2]; exact hk2
      obtain ⟨p6, p7, -, -⟩ := h16 _ p1 hk3
      rw [lr (by rw [p4]; exact ne p6), lr (by rw [p5]; exact ne p7)]
      exact ⟨p4, p5⟩
  · rw [hP] at hx
    rw [(g7 x (ne hx)).1, (g7 x (ne hx)).2]; exact h13 x hx q
  · have hne2 : tr j ≠ tr i := fun q2 => by have := hT.2 j i hjc hi q2; omega
    rw [(g7 _ hne2).1, (g7 _ hne2).2]; exact h14 j (by omega) hjc q
  · exact (h15.keep g9 g10).cong (fun x => by rw [hP]) (fun x _ => ⟨rfl, rfl, rfl⟩)
  · rw [hP] at hx; rw [hP, hP]; exact h16 x hx q
  · rw [hP] at hx hy; exact h17 x y hx hy hxy q e1 e2
  · rw [us_rsp.link k1 t1 ox, k4 v, h18 v hv]
    refine ⟨fun q => q.1, fun q => ⟨q, ?_⟩⟩
    have q2 := (h18 v hv).mpr q
    have hwn := hw.1
    have hw21 := hw.2.1
    obtain ⟨-, -, j, hj, ej⟩ := hw
    have hjt := hT.1 j (by omega)
    have hkj : 2 ≤ K (tr j) := by rw [ej, w1]; exact hk
    obtain ⟨p1, p2, p3⟩ := h11 j hj
    obtain ⟨p4, p5⟩ := p3 hkj
    obtain ⟨y1, y2, -, -⟩ := hjt.2.2.2 hkj
    have hrw : r (tr j) = w := by rw [ej]; exact hw21
    rw [hrw, w2] at p4
    rw [hrw, w3] at p5
    rw [ej] at p4 p5 y1 y2
    rw [(hv _ t1).2 hk, (hv w hwn).2 (by omega), w1, us_rsp.r h1 q2 u1, us_rsp.r h1 q2 u2, us_rsp.r h1 q2 y1, us_rsp.r h1 q2 y2, hf, hs, p4, p5]
