/-! TypeBench: keepLinks, join, alike, same. -/
theorem nI_dec (j : Nat) : nI j + -1 = nI j - 1 := by
  rw [Int32.sub_eq_add_neg]
theorem nI_back (j : Nat) : nI (j + 1) + -1 = nI j := by rw [nI_dec]; exact nI_pred j
theorem s_keep40 {n : Nat} {o0 r d : Nat → Nat} (hn : n ≤ 600) (hd : ∀ t, t < n → d t < 1000) (hr : ∀ t, t < n → r t < n) : ∀ (k i : Nat) (z : St), i ≤ n → n - i < k → z.1 0 = nI n → FO z n o0 r d → (∀ t, t < i → z.2 0 t = nI (r t)) →
    ∃ z', f_X_keepLinks_l40 k z (nI i) = f_X_keepLinks_l72 FU z' (nI n - 1) ∧ ro z' 0 n r ∧ z'.1 = z.1 ∧ ∀ k, k ≠ 0 → k ≠ 3 → z'.2 k = z.2 k := by
  intro k
  induction k with
  | zero => intro i z _ h; omega
  | succ k ih =>
    intro i z hi hk h0 hF h
    rw [f_X_keepLinks_l40, h0]
    by_cases q : i = n
    · subst q
      rw [if_pos (Int32.le_refl _)]
      exact ⟨z, rfl, h, rfl, fun _ _ _ => rfl⟩
    · rw [if_neg (nI_ge (by omega) (by omega))]
      obtain ⟨z1, a1, a2, a3⟩ := s_rootF (by omega) hF hd (show i < n by omega)
      rw [a1, Option.bind_some, ix_f (by omega) (by decide), cl_ (by omega), nI_1]
      obtain ⟨z', b1, b2, b3, b4⟩ := ih (i + 1) (war z1 0 i (nI (r i))) (by omega) (by omega) (by rw [war_1, a2.1]; exact h0) (a3.keep (war_n _ _ (by decide))) (fun t ht => by
        by_cases q2 : t = i
        · rw [q2, war_s]
        · rw [war_i _ _ q2, a2.2 0 (by simp)]; exact h t (by omega))
      exact ⟨z', b1, b2, by rw [b3, war_1, a2.1], fun k q0 q3 => by rw [b4 k q0 q3, war_n _ _ q0, a2.2 k (by simp [q3])]⟩
theorem s_keep72 {n : Nat} {r : Nat → Nat} (hn : n ≤ 600) (hr : ∀ t, t < n → r t < n) : ∀ (i k : Nat) (z : St) (ls : Nat → Nat), i ≤ n → i < k → ro z 0 n r → (∀ x t, i ≤ t → t < n → r t = x → z.2 1 x = nI (ls x) ∧ ls x < n ∧ r (ls x) = x ∧ ∀ s, i ≤ s → s < ls x → r s ≠ x) →
    ∃ (z' : St) (ls' : Nat → Nat), f_X_keepLinks_l72 k z (nI i - 1) = some z' ∧ (∀ x t, t < n → r t = x → z'.2 1 x = nI (ls' x) ∧ ls' x < n ∧ r (ls' x) = x ∧ ∀ s, s < ls' x → r s ≠ x) ∧ z'.1 = z.1 ∧ ∀ k, k ≠ 1 → z'.2 k = z.2 k := by
  intro i
  induction i with
  | zero =>
    intro k z ls hi hk h0 h
    cases k with
    | zero => omega
    | succ k =>
      rw [f_X_keepLinks_l72, if_pos (by decide)]
      exact ⟨z, ls, rfl, fun x t ht e => by obtain ⟨q1, q2, q3, q4⟩ := h x t (Nat.zero_le _) ht e; exact ⟨q1, q2, q3, fun s hs => q4 s (Nat.zero_le _) hs⟩, rfl, fun _ _ => rfl⟩
  | succ i ih =>
    intro k z ls hi hk h0 h
    cases k with
    | zero => omega
    | succ k =>
      have hri := hr i (by omega)
      rw [f_X_keepLinks_l72, nI_pred, if_neg (nI_pos (by omega)), ix_f (by omega) (by decide), cl_ (by omega), h0 i (by omega), ix_f (by omega) (by decide), cl_ (by omega), nI_dec]
      obtain ⟨z', ls', a1, a2, a3, a4⟩ := ih k (war z 1 (r i) (nI i)) (us_up ls (r i) i) (by omega) (by omega) (h0.keep (war_n _ _ (by decide))) (fun x t h1 h2 h3 => by
        by_cases q : x = r i
        · rw [q, war_s, us_up_s]; exact ⟨rfl, by omega, rfl, fun s h4 h5 => by omega⟩
        · have hti : t ≠ i := fun q2 => q (by rw [← h3, q2])
          obtain ⟨q1, q2, q3, q4⟩ := h x t (by omega) h2 h3
          rw [war_i _ _ q, us_up_n _ q]
          refine ⟨q1, q2, q3, fun s h4 h5 => ?_⟩
          by_cases q5 : s = i
          · rw [q5]; exact fun q6 => q q6.symm
          · exact q4 s (by omega) h5)
      exact ⟨z', ls', a1, a2, a3, fun k hk => by rw [a4 k hk, war_n _ _ hk]⟩
theorem s_keepLinks {z : St} {n m e x y c : Nat} {M : (Nat → Nat) → Prop} {ld ls od K F S ps o0 r0 d0 mk tr : Nat → Nat} (hD : XD z n M m ld ls od K F S ps e)
    (f0 : FO z n o0 r0 d0) (f1 : us_fo n o0 r0 d0) (f3 : ∀ t, t < n → d0 t + rts n o0 ≤ n) (f4 : us_cl n K F S o0 r0 []) (f5 : ∀ t, t < n → LD n ld (r0 t)) (f6 : ∀ v, us_sol n K F S v → (us_rsp n o0 v ↔ us_rsp n ld v ∧ v x = v y)) (k1 : LO z n K F S r0 mk tr c) (k2 : ∀ t, t < n → r0 t = t → mk t = 2) :
    ∃ z', f_X_keepLinks z = some z' ∧ XI z' n (fun v => M v ∧ v x = v y) := by
  obtain ⟨⟨a1, a2, a3, a4⟩, ⟨b1, b2⟩, c1, c2, c3, c4, c5, c6, c7, c8, c9, c10⟩ := id hD
  obtain ⟨-, l2, l3, l4, l5, l6, l7⟩ := k1
  have hPF : ∀ x, LD n ld x → 2 ≤ K x → F x < n ∧ S x < n := fun x hx q => ⟨((c8.2.2.1 x hx).2 q).1.1, ((c8.2.2.1 x hx).2 q).2.1.1⟩
  have hc : c ≤ n := by rw [l4]; exact ct_le _ _
  have htl : ∀ j, j < c → LD n ld (tr j) := fun j hj => by
    have := f5 _ (l5 j hj).2.1
    rw [(l5 j hj).2.2.1] at this
    exact this
  have hT : TR n c K F S r0 tr := ⟨fun j hj => by
    obtain ⟨q1, q2, q3, q4, q5⟩ := l5 j hj
    refine ⟨q2, q3, (c8.2.2.1 _ (htl j hj)).1, fun q => ?_⟩
    obtain ⟨p1, p2⟩ := hPF _ (htl j hj) q
    exact ⟨p1, p2, (q5 q).1, (q5 q).2⟩, l7⟩
  unfold f_X_keepLinks
  obtain ⟨z1, g1, g2, g3⟩ := s_forget z K F S
  rw [g1, Option.bind_some, i0]
  obtain ⟨o1, w1, w2, w3, w4⟩ := f0
  have hK0 : KI (wsc z1 1 (nI 0)) n c 0 K F S r0 tr o0 o1 r0 d0 F S (fun _ => 0) (fun _ => 0) 0 0 := by
    refine ⟨⟨w1, w2.keep (by rw [wsc_2, g3.2 3 (by simp)]), fun t ht => by rw [w4]; exact f3 t ht⟩, fun t ht => (f1.rr ht).symm, fun j _ hj => (l5 j hj).2.2.1, ⟨wsc_s _ _ _, Nat.le_refl _, Nat.le_refl _⟩, fun a ha => by omega, fun x hx => ?_, fun j hj => by omega, ⟨fun j hj => ?_, fun x hx => ?_, fun j _ hj q => ?_⟩, ?_, fun x hx => ?_, fun x y hx => ?_, fun v _ => w3 v⟩
    · obtain ⟨-, -, j, q, -⟩ := hx; omega
    · rw [wsc_2, g3.2 6 (by simp)]; exact (c3 _ (htl j hj)).1
    · obtain ⟨-, -, j, q, -⟩ := hx; omega
    · rw [wsc_2, g3.2 7 (by simp), g3.2 8 (by simp)]; exact (c3 _ (htl j hj)).2 q
    · refine (g2.keep (by rw [wsc_2]) (by rw [wsc_2])).cong (fun x => ⟨fun q => ?_, fun q => q.elim⟩) (fun x q => q.elim)
      obtain ⟨⟨-, -, j, q, -⟩, -⟩ := q; omega
    · obtain ⟨-, -, j, q, -⟩ := hx; omega
    · obtain ⟨-, -, j, q, -⟩ := hx; omega
  obtain ⟨z2, o, r, d, Fi, Si, od', ps', m', e', e1, hK, e3, e4⟩ := s_keep14 a2 (by omega) hT FU 0 (wsc z1 1 (nI 0)) o1 r0 d0 F S (fun _ => 0) (fun _ => 0) 0 0 (Nat.zero_le _) (by unfold FU; omega) (by rw [wsc_n _ _ (by decide), g3.1]; exact l3) (fun j hj => by rw [wsc_2, g3.2 5 (by simp)]; exact (l5 j hj).1) hK0
  obtain ⟨⟨h1, h2, h3⟩, h4, h5, ⟨h6, h7, h8⟩, h9, h10, h11, ⟨h12, h13, h14⟩, h15, h16, h17, h18⟩ := hK
  have e20 : z2.1 0 = nI n := by rw [e3 0 (by decide), wsc_n _ _ (by decide), g3.1]; exact b1
  obtain ⟨z3, y1, y2, y3, y4⟩ := s_keep40 (r := r) (d := d) (o0 := o) a2 (fun t ht => by have := h3 t ht; omega) (fun t ht => (h1 t ht).2.1) FU 0 z2 (Nat.zero_le _) (by unfold FU; omega) e20 ⟨o, h1, h2, fun _ => Iff.rfl, rfl⟩ (fun t ht => by omega)
  obtain ⟨z4, ls', x1, x2, x3, x4⟩ := s_keep72 (r := r) a2 (fun t ht => (h1 t ht).2.1) n FU z3 (fun _ => 0) (Nat.le_refl _) (by unfold FU; omega) y2 (fun x t h1 h2 => by omega)
  rw [e1, i0, y1, x1]
  -- roots
  have hroot : ∀ t, t < n → ∃ j, j < c ∧ tr j = r0 t := fun t ht => l6 _ (f1 t ht).2.1 (k2 _ (f1 t ht).2.1 (f1.rr ht))
  have hLD : ∀ x, LD n r x ↔ KP n c r tr x := fun x => by
    constructor
    · rintro ⟨q1, q2⟩
      obtain ⟨j, hj, ej⟩ := hroot x q1
      have := (h11 j hj).1
      rw [ej, ← h4 x q1, q2] at this
      exact this
    · rintro ⟨q1, q2, -⟩
      exact ⟨q1, q2⟩
  have hKx : ∀ x, LD n r x → (if r x = x then K x else 0) = K x := fun x hx => if_pos hx.2
  have hld : ∀ x, KP n c r tr x → LD n ld x := fun x hx => by
    obtain ⟨-, -, j, hj, ej⟩ := hx
    rw [← ej]; exact htl j hj
  have hrow : ∀ k, k ≠ 0 → k ≠ 1 → k ≠ 3 → z4.2 k = z2.2 k := fun k q0 q1 q3 => by rw [x4 k q1, y4 k q0 q3]
  have hFi : ∀ x, KP n c r tr x → 2 ≤ K x → r (F x) = Fi x ∧ r (S x) = Si x := fun x hx q => by
    obtain ⟨-, hrx, j, hj, ej⟩ := hx
    have := (h11 j hj).2.2 (by rw [ej]; exact q)
    rw [ej, hrx] at this
    exact this
  have hsr : us_rsp n o0 r := fun t ht => by
    rw [h4 t ht, h4 (o0 t) (f1 t ht).1, (f1 t ht).2.2.2.1]
  refine ⟨z4, rfl, m', r, ls', od', fun t => if r t = t then K t else 0, Fi, Si, ps', e', ⟨a1, a2, by omega, by omega⟩, ⟨by rw [x3, y3]; exact e20, by rw [x3, y3]; exact h6⟩, y2.keep (x4 0 (by decide)), fun t ht => ⟨(h1 t ht).2.1, h1.rr ht⟩, fun x hx => ?_, fun x hx => ?_, fun i hi => ?_, fun x hx => ?_, ?_, ⟨fun t ht => ⟨(h1 t ht).2.1, h1.rr ht⟩, fun x hx => ⟨x, hx.1, hx.2⟩, fun x hx => ?_, fun x y hx hy hxy => ?_⟩, fun v => ?_, fun t ht q => ?_⟩
  · dsimp only
    rw [hKx x hx, hrow 6 (by decide) (by decide) (by decide), hrow 7 (by decide) (by decide) (by decide), hrow 8 (by decide) (by decide) (by decide)]
    have hx' := (hLD x).mp hx
    refine ⟨?_, h13 x hx'⟩
    obtain ⟨-, -, j, hj, ej⟩ := hx'
    rw [← ej]; exact h12 j hj
  · exact x2 x x hx.1 hx.2
  · rw [hrow 2 (by decide) (by decide) (by decide), hLD]; exact h9 i hi
  · exact h10 x ((hLD x).mp hx)
  · refine (h15.keep (hrow 9 (by decide) (by decide) (by decide)) (hrow 10 (by decide) (by decide) (by decide))).cong (fun x => ?_) (fun x hx => ⟨hKx x ((hLD x).mpr hx.1), rfl, rfl⟩)
    constructor
    · rintro ⟨q1, q2⟩
      dsimp only at q2
      rw [hKx x q1] at q2
      exact ⟨(hLD x).mp q1, q2⟩
    · rintro ⟨q1, q2⟩
      have := (hLD x).mpr q1
      exact ⟨this, by dsimp only; rw [hKx x this]; exact q2⟩
  · dsimp only
    rw [hKx x hx]
    have hx' := (hLD x).mp hx
    refine ⟨(c8.2.2.1 _ (hld x hx')).1, fun q => ?_⟩
    obtain ⟨p1, p2, p3, p4⟩ := h16 x hx' q
    exact ⟨(hLD _).mpr p1, (hLD _).mpr p2, p3, p4⟩
  · dsimp only at hxy ⊢
    rw [hKx x hx, hKx y hy] at hxy
    rw [hKx x hx]
    have hx' := (hLD x).mp hx
    have hy' := (hLD y).mp hy
    exact ⟨(c8.2.2.2 x y (hld x hx') (hld y hy') hxy).1, fun q => h17 x y hx' hy' hxy q⟩
  · constructor
    · rintro ⟨q1, q2⟩
      obtain ⟨s1, s2⟩ := (hD.sol v).mp q1
      have s3 := (h18 v s1).mpr ((f6 v s1).mpr ⟨s2, q2⟩)
      refine ⟨v, fun t ht => us_rsp.r h1 s3 ht, fun x hx => ?_⟩
      have hx' := (hLD x).mp hx
      dsimp only
      rw [hKx x hx]
      refine ⟨(s1 x hx.1).1, fun q => ?_⟩
      obtain ⟨p1, p2⟩ := hPF x (hld x hx') q
      obtain ⟨p3, p4⟩ := hFi x hx' q
      rw [← p3, ← p4, ← us_rsp.r h1 s3 p1, ← us_rsp.r h1 s3 p2]
      exact (s1 x hx.1).2 q
    · rintro ⟨u, u1, u2⟩
      have s1 : us_sol n K F S v := fun t ht => by
        obtain ⟨j, hj, ej⟩ := hroot t ht
        obtain ⟨p1, p2, p3⟩ := h11 j hj
        have hl := (hLD _).mpr p1
        have hu := u2 _ hl
        dsimp only at hu
        rw [hKx _ hl, p2] at hu
        have hrt : r t = r (tr j) := by rw [h4 t ht, ej]
        rw [u1 t ht, hrt]
        refine ⟨fun q => hu.1 ?_, fun q => ?_⟩
        · rw [ej, (f4 t ht).1 (by omega)]; exact q
        · have kt : K (tr j) = K t := by rw [ej]; exact (f4 t ht).1 (by omega)
          obtain ⟨s1, s2⟩ := (f4 t ht).2 q r hsr (fun q hq => by cases hq)
          have := hu.2 (by rw [kt]; exact q)
          obtain ⟨p4, p5⟩ := p3 (by rw [kt]; exact q)
          obtain ⟨p6, p7⟩ := hPF t ⟨ht, c10 t ht (by omega)⟩ q
          rw [this, kt, u1 _ p6, u1 _ p7, s1, s2, ← ej, p4, p5]
      have s2 : us_rsp n o0 v := fun t ht => by
        rw [u1 t ht, u1 _ (f1 t ht).1, hsr t ht]
      obtain ⟨s3, s4⟩ := (f6 v s1).mp s2
      exact ⟨(hD.sol v).mpr ⟨s1, s3⟩, s4⟩
  · dsimp only at q
    by_cases q2 : r t = t
    · exact q2
    · rw [if_neg q2] at q; exact absurd rfl q
