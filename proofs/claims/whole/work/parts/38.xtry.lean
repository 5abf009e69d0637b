/-! Arrays.fill; TypeBench: layOut, tryToLink. -/
theorem s_fill_l {N : Nat} {x : Int32} {j : Nat} (hN : N ≤ 1000) (hj : j ≤ N) : ∀ (k : Nat) (f : Nat → Int32) (i : Nat), i ≤ j → j - i < k → ∃ g, f_J_fill_l N x (nI j) k f (nI i) = some g ∧ ∀ t, g t = if i ≤ t ∧ t < j then x else f t := by
  intro k
  induction k with
  | zero => intro f i _ h; omega
  | succ k ih =>
    intro f i hi hk
    rw [f_J_fill_l]
    by_cases e : i = j
    · subst e
      rw [if_pos (nI_le (Nat.le_refl _) (by omega))]
      exact ⟨f, rfl, fun t => by rw [if_neg (by omega)]⟩
    · rw [if_neg (nI_ge (by omega) (by omega)), ix_f (by omega) (by omega), cl_ (by omega), nI_1]
      obtain ⟨g, h1, h2⟩ := ih (upd f i x) (i + 1) (by omega) (by omega)
      refine ⟨g, h1, fun t => ?_⟩
      rw [h2 t]
      by_cases q : t = i
      · subst q; rw [if_neg (by omega), if_pos (by omega)]; simp [upd]
      · by_cases q2 : i + 1 ≤ t ∧ t < j
        · rw [if_pos q2, if_pos (by omega)]
        · rw [if_neg q2, if_neg (by omega)]; simp [upd, q]
theorem s_fill4 {N n : Nat} (f : Nat → Int32) (x : Int32) (hN : N ≤ 1000) (hn : n ≤ N) : ∃ g, f_J_fill4 N f 0 (nI n) x = some g ∧ (∀ t, t < n → g t = x) ∧ ∀ t, n ≤ t → g t = f t := by
  unfold f_J_fill4
  have h0 : (0 : Int32) ≤ nI n := nI_pos' (by omega)
  rw [if_neg (fun q => q ⟨h0, by decide, nI_le hn (by omega)⟩), i0]
  obtain ⟨g, h1, h2⟩ := s_fill_l (x := x) hN hn FU f 0 (Nat.zero_le _) (by unfold FU; omega)
  exact ⟨g, h1, fun t ht => by rw [h2 t, if_pos ⟨Nat.zero_le _, ht⟩], fun t ht => by rw [h2 t, if_neg (by omega)]⟩
theorem s_fill2 {N : Nat} (f : Nat → Int32) (x : Int32) (hN : N ≤ 1000) : ∃ g, f_J_fill2 N f x = some g ∧ (∀ t, t < N → g t = x) := by
  unfold f_J_fill2
  rw [i0]
  obtain ⟨g, h1, h2⟩ := s_fill_l (x := x) hN (Nat.le_refl N) FU f 0 (Nat.zero_le _) (by unfold FU; omega)
  exact ⟨g, h1, fun t ht => by rw [h2 t, if_pos ⟨Nat.zero_le _, ht⟩]⟩
theorem s_layOut_l {n : Nat} {o0 K F S r d : Nat → Nat} {P : Nat → Prop} {G : (Nat → Nat) → Prop} (hn : n ≤ 600) (hd : ∀ t, t < n → d t < 1000) (h4 : ∀ t, t < n → K t < 4) (hr : ∀ t, t < n → r t < n ∧ r (r t) = r t) (hP : ∀ t, t < n → P (r t)) (hPF : ∀ x, P x → 2 ≤ K x → F x < n ∧ S x < n)
    (hG : ∀ v, G v → ∀ x, P x → 2 ≤ K x → v (r (F x)) < v x ∧ v (r (S x)) < v x) : ∀ (k a : Nat) (z : St) (mk tr : Nat → Nat) (c : Nat),
    z.1 0 = nI n → FO z n o0 r d → LO z n K F S r mk tr c → (∀ t, t < n → mk t ≠ 1) → shp z P K F S → (∀ t, t < a → r t = t → mk t = 2) → a ≤ n → n - a < k →
    ∃ z' res, f_X_layOut_l20 k z (nI a) = some (res, z') ∧ FO z' n o0 r d ∧ (∀ k, k ≠ 2 → k ≠ 3 → z'.1 k = z.1 k) ∧ (∀ k, k ≠ 3 → k ≠ 4 → k ≠ 5 → k ≠ 11 → z'.2 k = z.2 k) ∧
      ((res = 0 ∧ ∀ v, ¬ G v) ∨ (res = 1 ∧ ∃ mk' tr' c', LO z' n K F S r mk' tr' c' ∧ (∀ t, t < n → r t = t → mk' t = 2))) := by
  intro k
  induction k with
  | zero => intro a z mk tr c _ _ _ _ _ _ _ h; omega
  | succ k ih =>
    intro a z mk tr c hz hf hL h1 hs hdone ha hk
    rw [f_X_layOut_l20, hz]
    by_cases e : a = n
    · subst e
      rw [if_pos (nI_le (Nat.le_refl _) (by omega))]
      exact ⟨z, 1, rfl, hf, fun _ _ _ => rfl, fun _ _ _ _ _ => rfl, Or.inr ⟨rfl, mk, tr, c, hL, fun t ht hrt => hdone t ht hrt⟩⟩
    · have han : a < n := by omega
      obtain ⟨o, ho, hro, hov, hor⟩ := id hf
      rw [if_neg (nI_ge han (by omega))]
      have hm2 := hL.2.1 a han
      simp only [ix_g (show a < 1000 by omega) (show 1000 < 2 ^ 31 by decide), cl_ (show a < 2 ^ 31 by omega), hro a han, hL.1 a han, neq (show o a < 2 ^ 31 by have := (ho a han).1; omega) (show a < 2 ^ 31 by omega), n0 (show mk a < 2 ^ 31 by omega), nI_1]
      have skip : (r a = a → mk a = 2) → ∃ z' res, f_X_layOut_l20 k z (nI (a + 1)) = some (res, z') ∧ FO z' n o0 r d ∧ (∀ k, k ≠ 2 → k ≠ 3 → z'.1 k = z.1 k) ∧ (∀ k, k ≠ 3 → k ≠ 4 → k ≠ 5 → k ≠ 11 → z'.2 k = z.2 k) ∧
          ((res = 0 ∧ ∀ v, ¬ G v) ∨ (res = 1 ∧ ∃ mk' tr' c', LO z' n K F S r mk' tr' c' ∧ (∀ t, t < n → r t = t → mk' t = 2))) := fun hq =>
        ih (a + 1) z mk tr c hz hf hL h1 hs (fun t ht hrt => by
          by_cases q : t = a
          · subst q; exact hq hrt
          · exact hdone t (by omega) hrt) (by omega) (by omega)
      by_cases e1 : o a = a
      · rw [if_pos e1]
        have hra : r a = a := (ho.root han).mp e1
        by_cases e2 : mk a = 0
        · rw [if_pos e2]
          unfold f_X_layOutFrom
          have hp0 : pi (wsc z 3 0) [] := ⟨by rw [wsc_s]; rfl, trivial⟩
          obtain ⟨z1, a1, b1, c1, d1⟩ := s_put hp0 a (by simp)
          rw [a1, Option.bind_some]
          have G1 : ∀ k, k ≠ 3 → z1.1 k = z.1 k := fun k hk => by rw [c1 k hk, wsc_n _ _ hk]
          have G2 : ∀ k, k ≠ 11 → z1.2 k = z.2 k := fun k hk => by rw [d1 k hk, wsc_2]
          have hL1 : LO z1 n K F S r mk tr c := by
            obtain ⟨q1, q2, q3, q4, q5, q6, q7⟩ := hL
            exact ⟨q1.keep (G2 4 (by decide)), q2, by rw [G1 2 (by decide)]; exact q3, q4, fun i hi => by rw [G2 5 (by decide)]; exact q5 i hi, q6, q7⟩
          have hun : uns n mk ≤ n := ct_le _ _
          obtain ⟨z2, res2, a2, f2, g1, g2, cs⟩ := s_layOutFrom_l hn hd h4 hr hP hPF hG FU z1 mk tr c [a] 0 (nI a) (hf.keep (G2 3 (by decide))) hL1 b1
            ⟨fun e9 h9 => by rw [List.mem_singleton.mp h9]; exact ⟨han, hra⟩, fun x hx hm => absurd hm (h1 x hx), fun l1 x l2 hl hn2 hm => absurd hm (h1 x (by
              have : x ∈ [a] := by rw [hl]; exact List.mem_append_right _ List.mem_cons_self
              rw [List.mem_singleton.mp this]; exact han))⟩
            (fun v hv l1 x l2 hl hn2 hm => absurd hm (h1 x (by
              have : x ∈ [a] := by rw [hl]; exact List.mem_append_right _ List.mem_cons_self
              rw [List.mem_singleton.mp this]; exact han)))
            (hs.keep (G2 6 (by decide)) (G2 7 (by decide)) (G2 8 (by decide))) (by unfold FU; simp only [List.length_singleton]; omega) (by simp only [List.length_singleton]; omega) (by simp only [List.length_singleton]; omega)
          rw [nI_0] at a2
          rw [a2, Option.bind_some]
          have H1 : ∀ k, k ≠ 2 → k ≠ 3 → z2.1 k = z.1 k := fun k h1 h2 => by rw [g1 k h1 h2, G1 k h2]
          have H2 : ∀ k, k ≠ 3 → k ≠ 4 → k ≠ 5 → k ≠ 11 → z2.2 k = z.2 k := fun k h1 h2 h3 h5 => by rw [g2 k h1 h2 h3 h5, G2 k h5]
          rcases cs with ⟨rfl, hno⟩ | ⟨rfl, mk', tr', c', j1, j2, j3, j4⟩
          · rw [if_pos rfl]
            exact ⟨z2, 0, rfl, f2, H1, H2, Or.inl ⟨rfl, hno⟩⟩
          · rw [if_neg (show ¬ (1 : Int32) = 0 by decide)]
            obtain ⟨z3, res3, i1, i2, i3, i4, i5⟩ := ih (a + 1) z2 mk' tr' c' (by rw [H1 0 (by decide) (by decide)]; exact hz) f2 j1 j2 (hs.keep (H2 6 (by decide) (by decide) (by decide) (by decide)) (H2 7 (by decide) (by decide) (by decide) (by decide)) (H2 8 (by decide) (by decide) (by decide) (by decide))) (fun t ht hrt => by
              by_cases q : t = a
              · subst q; exact j4 t (List.mem_singleton.mpr rfl)
              · exact j3 t (by omega) (hdone t (by omega) hrt)) (by omega) (by omega)
            exact ⟨z3, res3, i1, i2, fun k h1 h2 => by rw [i3 k h1 h2, H1 k h1 h2], fun k h1 h2 h3 h5 => by rw [i4 k h1 h2 h3 h5, H2 k h1 h2 h3 h5], i5⟩
        · rw [if_neg e2]
          exact skip (fun _ => by have := h1 a han; omega)
      · rw [if_neg e1]
        exact skip (fun q => absurd ((ho.root han).mpr q) e1)
theorem s_layOut {n : Nat} {o0 K F S r d : Nat → Nat} {P : Nat → Prop} {G : (Nat → Nat) → Prop} {z : St} (hn : n ≤ 600) (hd : ∀ t, t < n → d t < 1000) (h4 : ∀ t, t < n → K t < 4) (hr : ∀ t, t < n → r t < n ∧ r (r t) = r t) (hP : ∀ t, t < n → P (r t)) (hPF : ∀ x, P x → 2 ≤ K x → F x < n ∧ S x < n)
    (hG : ∀ v, G v → ∀ x, P x → 2 ≤ K x → v (r (F x)) < v x ∧ v (r (S x)) < v x) (hz : z.1 0 = nI n) (hf : FO z n o0 r d) (hs : shp z P K F S) :
    ∃ z' res, f_X_layOut z = some (res, z') ∧ FO z' n o0 r d ∧ (∀ k, k ≠ 2 → k ≠ 3 → z'.1 k = z.1 k) ∧ (∀ k, k ≠ 3 → k ≠ 4 → k ≠ 5 → k ≠ 11 → z'.2 k = z.2 k) ∧
      ((res = 0 ∧ ∀ v, ¬ G v) ∨ (res = 1 ∧ ∃ mk' tr' c', LO z' n K F S r mk' tr' c' ∧ (∀ t, t < n → r t = t → mk' t = 2))) := by
  unfold f_X_layOut
  obtain ⟨g, h1, h2, h3⟩ := s_fill4 (n := n) (z.2 4) 0 (Nat.le_refl 1000) (by omega)
  rw [hz, h1, Option.bind_some]
  have hL : LO (wsc (wal z 4 g) 2 0) n K F S r (fun _ => 0) (fun _ => 0) 0 := by
    have hc : ct (fun t => decide ((fun _ : Nat => 0) t = 2)) n = 0 := by
      clear hd h4 hr hP hPF hG hz hf hs h1 h2 h3 hn
      induction n with
      | zero => rfl
      | succ n ih => simp only [ct, ih]; rfl
    refine ⟨fun t ht => ?_, fun _ _ => Nat.zero_le _, by rw [wsc_s]; rfl, hc.symm, fun i hi => absurd hi (Nat.not_lt_zero _), fun x _ h => absurd h (show ¬ (0 : Nat) = 2 by decide), fun i j hi => absurd hi (Nat.not_lt_zero _)⟩
    rw [wsc_2, wal_s, h2 t ht]; rfl
  obtain ⟨z', res, i1, i2, i3, i4, i5⟩ := s_layOut_l hn hd h4 hr hP hPF hG FU 0 (wsc (wal z 4 g) 2 0) (fun _ => 0) (fun _ => 0) 0 (by rw [wsc_n _ _ (by decide)]; exact hz) (hf.keep (by rw [wsc_2, wal_n _ _ (by decide)])) hL (fun _ _ => show (0 : Nat) ≠ 1 by decide)
    (hs.keep (by rw [wsc_2, wal_n _ _ (by decide)]) (by rw [wsc_2, wal_n _ _ (by decide)]) (by rw [wsc_2, wal_n _ _ (by decide)])) (fun t ht => by omega) (Nat.zero_le _) (by unfold FU; omega)
  rw [nI_0] at i1
  exact ⟨z', res, i1, i2, fun k h1 h2 => by rw [i3 k h1 h2, wsc_n _ _ h1]; rfl, fun k h1 h2 h3 h5 => by rw [i4 k h1 h2 h3 h5, wsc_2, wal_n _ _ h2], i5⟩
