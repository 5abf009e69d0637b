/-! The reference: put, renamed. -/
theorem nonneg {w : Nat} (h : w < 2 ^ 31) : (0 : Int32) ≤ nI w := by
  rw [i0, Int32.le_iff_toInt_le, nI_toInt (by omega), nI_toInt (by omega)]; omega
theorem m_put {n N : Nat} {M : (Nat → Nat) → Prop} {c K F S ls : Nat → Nat} (hn : n ≤ 600) : ∀ (k : Nat) (z : St) (B : Nat → Nat → Prop) (x y : Nat), NU z n M N c K F S ls → x < N → y < N → x < k → BI z 11 12 N B →
    ∃ z' res, f_M_put k z (nI x) (nI y) = some (res, z') ∧ on [11, 12] z z' ∧ ((res = 0 ∧ ∀ Q, gB (fun j => j < N) K F S Q → Q x y → (∀ a b, B a b → Q a b) → False) ∨
      (res = 1 ∧ ∃ B' : Nat → Nat → Prop, BI z' 11 12 N B' ∧ B' x y ∧ (∀ a b, B a b → B' a b) ∧ (∀ a b, B' a b → B a b ∨ (a < N ∧ b < N ∧ K a = K b ∧ (2 ≤ K a → B' (F a) (F b) ∧ B' (S a) (S b)))) ∧ ∀ Q, gB (fun j => j < N) K F S Q → Q x y → (∀ a b, B a b → Q a b) → ∀ a b, B' a b → Q a b)) := by
  intro k
  induction k with
  | zero => intro z B x y _ _ _ h; omega
  | succ k ih =>
    intro z B x y hU hx hy hk hB
    have hN := hU.1.2
    rw [f_M_put]
    simp only [ix_f (show x < 1000 by omega) (show 1000 < 2 ^ 31 by decide), ix_f (show y < 1000 by omega) (show 1000 < 2 ^ 31 by decide), cl_ (show x < 2 ^ 31 by omega), cl_ (show y < 2 ^ 31 by omega), ix_g (show x < 1000 by omega) (show 1000 < 2 ^ 31 by decide), ix_g (show y < 1000 by omega) (show 1000 < 2 ^ 31 by decide)]
    rcases hB.2.1 x hx with ⟨p1, p2⟩ | ⟨w, p1, p2, p3, p4⟩
    · rw [p1, if_neg (by decide)]
      rcases hB.2.2 y hy with ⟨q1, q2⟩ | ⟨u, q1, q2, q3, q4⟩
      · rw [q1, if_pos (by decide)]
        have hUx := hU.2.2.1 x hx
        have hUy := hU.2.2.1 y hy
        have k4x := (hU.2.2.2.1.2.2.1 x hx).1
        have k4y := (hU.2.2.2.1.2.2.1 y hy).1
        have hB1 := hB.add (by decide) (by omega) hx hy p1 q1
        have hU1 : NU (war (war z 11 x (nI y)) 12 y (nI x)) n M N c K F S ls := hU.keep rfl (fun k h1 h2 => by rw [war_n _ _ (by omega), war_n _ _ (by omega)])
        have hon1 : on [11, 12] z (war (war z 11 x (nI y)) 12 y (nI x)) := (on.war (by simp)).tr (on.war (by simp))
        rw [hUx.1, hUy.1, (hU1.2.2.1 x hx).1]
        simp only [neq (show K x < 2 ^ 31 by omega) (show K y < 2 ^ 31 by omega), n0 (show K x < 2 ^ 31 by omega), n1 (show K x < 2 ^ 31 by omega)]
        by_cases e : K x = K y
        · rw [if_pos e]
          have hlowcase : K x < 2 → ∃ z' res, some ((1 : Int32), war (war z 11 x (nI y)) 12 y (nI x)) = some (res, z') ∧ on [11, 12] z z' ∧ ((res = 0 ∧ ∀ Q, gB (fun j => j < N) K F S Q → Q x y → (∀ a b, B a b → Q a b) → False) ∨
            (res = 1 ∧ ∃ B' : Nat → Nat → Prop, BI z' 11 12 N B' ∧ B' x y ∧ (∀ a b, B a b → B' a b) ∧ (∀ a b, B' a b → B a b ∨ (a < N ∧ b < N ∧ K a = K b ∧ (2 ≤ K a → B' (F a) (F b) ∧ B' (S a) (S b)))) ∧ ∀ Q, gB (fun j => j < N) K F S Q → Q x y → (∀ a b, B a b → Q a b) → ∀ a b, B' a b → Q a b)) := fun hlow => by
            refine ⟨_, 1, rfl, hon1, Or.inr ⟨rfl, _, hB1, Or.inr ⟨rfl, rfl⟩, fun a b q => Or.inl q, fun a b q => ?_, fun Q h1 h2 h3 a b q => ?_⟩⟩
            · rcases q with q | ⟨rfl, rfl⟩
              · exact Or.inl q
              · exact Or.inr ⟨hx, hy, e, fun q => by omega⟩
            · rcases q with q | ⟨rfl, rfl⟩
              · exact h3 a b q
              · exact h2
          by_cases e0 : K x = 0
          · rw [if_pos e0]; exact hlowcase (by omega)
          · rw [if_neg e0]
            by_cases e1 : K x = 1
            · rw [if_pos e1]; exact hlowcase (by omega)
            · rw [if_neg e1]
              have k2 : 2 ≤ K x := by omega
              obtain ⟨f1, f2⟩ := (hU1.2.2.1 x hx).2.1 k2
              obtain ⟨f3, f4⟩ := (hU1.2.2.1 y hy).2.1 (by omega)
              obtain ⟨g1, g2, g3, g4⟩ := (hU.2.2.2.1.2.2.1 x hx).2 k2
              obtain ⟨g5, g6, g7, g8⟩ := (hU.2.2.2.1.2.2.1 y hy).2 (by omega)
              dsimp only at g3 g4
              obtain ⟨z1, res1, c1, c2, c3⟩ := ih _ _ (F x) (F y) hU1 g1 g5 (by omega) hB1
              rw [f1, f3, c1, Option.bind_some]
              dsimp only
              have hall : ∀ Q, gB (fun j => j < N) K F S Q → Q x y → (∀ a b, B a b → Q a b) → ∀ a b, (B a b ∨ (a = x ∧ b = y)) → Q a b := fun Q h1 h2 h3 a b q => by
                rcases q with q | ⟨rfl, rfl⟩
                · exact h3 a b q
                · exact h2
              rcases c3 with ⟨rfl, hno⟩ | ⟨rfl, B1, d1, d2, d3, d4, d5⟩
              · rw [if_pos rfl]
                exact ⟨z1, 0, rfl, hon1.tr c2, Or.inl ⟨rfl, fun Q h1 h2 h3 => hno Q h1 ((h1.1 x y h2).2.2.2 k2).1 (hall Q h1 h2 h3)⟩⟩
              · rw [if_neg (show ¬ (1 : Int32) = 0 by decide)]
                have hU2 : NU z1 n M N c K F S ls := hU1.keep (by rw [c2.1]) (fun k h1 h2 => c2.2 k (by simp; omega))
                obtain ⟨z2, res2, w1, w2, w3⟩ := ih z1 B1 (S x) (S y) hU2 g2 g6 (by omega) d1
                rw [((hU2.2.2.1 x hx).2.1 k2).2, ((hU2.2.2.1 y hy).2.1 (by omega)).2, w1, Option.bind_some]
                dsimp only
                have hall2 : ∀ Q, gB (fun j => j < N) K F S Q → Q x y → (∀ a b, B a b → Q a b) → ∀ a b, B1 a b → Q a b := fun Q h1 h2 h3 => d5 Q h1 ((h1.1 x y h2).2.2.2 k2).1 (hall Q h1 h2 h3)
                rcases w3 with ⟨rfl, hno⟩ | ⟨rfl, B2, s1, s2, s3, s4, s5⟩
                · rw [if_pos rfl]
                  exact ⟨z2, 0, rfl, (hon1.tr c2).tr w2, Or.inl ⟨rfl, fun Q h1 h2 h3 => hno Q h1 ((h1.1 x y h2).2.2.2 k2).2 (hall2 Q h1 h2 h3)⟩⟩
                · rw [if_neg (show ¬ (1 : Int32) = 0 by decide)]
                  refine ⟨z2, 1, rfl, (hon1.tr c2).tr w2, Or.inr ⟨rfl, B2, s1, s3 _ _ (d3 _ _ (Or.inr ⟨rfl, rfl⟩)), fun a b q => s3 _ _ (d3 _ _ (Or.inl q)), fun a b q => ?_, fun Q h1 h2 h3 => s5 Q h1 ((h1.1 x y h2).2.2.2 k2).2 (hall2 Q h1 h2 h3)⟩⟩
                  rcases s4 a b q with q | q
                  · rcases d4 a b q with q | ⟨t1, t2, t3, t4⟩
                    · rcases q with q | ⟨rfl, rfl⟩
                      · exact Or.inl q
                      · exact Or.inr ⟨hx, hy, e, fun _ => ⟨s3 _ _ d2, s2⟩⟩
                    · exact Or.inr ⟨t1, t2, t3, fun r => ⟨s3 _ _ (t4 r).1, s3 _ _ (t4 r).2⟩⟩
                  · exact Or.inr q
        · rw [if_neg e]
          exact ⟨z, 0, rfl, on.rf, Or.inl ⟨rfl, fun Q h1 h2 _ => e (h1.1 x y h2).2.2.1⟩⟩
      · rw [q2, if_neg (nI_pos (by omega)), if_neg (fun q => im1 (show y < 2 ^ 31 by omega) q.symm)]
        refine ⟨z, 0, rfl, on.rf, Or.inl ⟨rfl, fun Q h1 h2 h3 => ?_⟩⟩
        have := h1.2.2 u x y (h3 _ _ q3) h2
        rw [this] at q3
        exact p2 y q3
    · rw [p2, if_pos (nonneg (by omega))]
      simp only [neq (show w < 2 ^ 31 by omega) (show y < 2 ^ 31 by omega)]
      by_cases e : w = y
      · subst e
        rw [if_pos rfl]
        rcases hB.2.2 w hy with ⟨q1, q2⟩ | ⟨u, q1, q2, q3, q4⟩
        · exact absurd p3 (q2 x)
        · have hux : x = u := q4 x p3
          rw [q2, hux, if_pos rfl]
          rw [← hux]
          exact ⟨z, 1, rfl, on.rf, Or.inr ⟨rfl, B, hB, p3, fun _ _ q => q, fun a b q => Or.inl q, fun Q h1 h2 h3 => h3⟩⟩
      · rw [if_neg e]
        refine ⟨z, 0, rfl, on.rf, Or.inl ⟨rfl, fun Q h1 h2 h3 => ?_⟩⟩
        exact e (h1.2.1 x w y (h3 _ _ p3) h2)
theorem m_renamed_l {n N s t : Nat} {M : (Nat → Nat) → Prop} {c K F S ls : Nat → Nat} (hn : n ≤ 600) (hs : s < n) (ht : t < n) : ∀ (k i : Nat) (z : St), NU z n M N c K F S ls → i ≤ N → N - i < k → (∀ x, x < i → z.2 11 x = -1 ∧ z.2 12 x = -1) →
    ∃ z' res, f_M_renamed_l20 k z (nI i) (nI s) (nI t) = some (res, z') ∧ on [11, 12] z z' ∧ ((res = 1 ∧ ∃ Q, gB (fun j => j < N) K F S Q ∧ Q (c s) (c t)) ∨ (res = 0 ∧ ∀ Q, gB (fun j => j < N) K F S Q → Q (c s) (c t) → False)) := by
  intro k
  induction k with
  | zero => intro i z _ _ h; omega
  | succ k ih =>
    intro i z hU hi hk h
    have cs := hU.cn hs
    have ct := hU.cn ht
    have hN := hU.1.2
    rw [f_M_renamed_l20, hU.1.1]
    by_cases q : i = N
    · subst q
      rw [if_pos (Int32.le_refl _), ix_f (by omega) (by decide), ix_f (by omega) (by decide), cl_ (by omega), cl_ (by omega), hU.2.1 s hs, hU.2.1 t ht]
      obtain ⟨z', res, a1, a2, a3⟩ := m_put hn DP z (fun _ _ => False) (c s) (c t) hU cs ct (by unfold DP; omega) ⟨fun _ _ q => q.elim, fun x hx => Or.inl ⟨(h x hx).1, fun _ q => q⟩, fun x hx => Or.inl ⟨(h x hx).2, fun _ q => q⟩⟩
      rw [a1, Option.bind_some]
      dsimp only
      rcases a3 with ⟨rfl, hno⟩ | ⟨rfl, B, b1, b2, b3, b4, b5⟩
      · rw [if_neg (by decide)]
        exact ⟨z', 0, rfl, a2, Or.inr ⟨rfl, fun Q h1 h2 => hno Q h1 h2 (fun _ _ q => q.elim)⟩⟩
      · rw [if_neg (by decide)]
        refine ⟨z', 1, rfl, a2, Or.inl ⟨rfl, B, ⟨fun x y q => ?_, fun x y y' q1 q2 => ?_, fun x x' y q1 q2 => ?_⟩, b2⟩⟩
        · rcases b4 x y q with q | q
          · exact q.elim
          · exact q
        · rcases b1.2.1 x (b1.1 x y q1).1 with ⟨-, p⟩ | ⟨w, -, -, -, p⟩
          · exact absurd q1 (p y)
          · rw [p y q1, p y' q2]
        · rcases b1.2.2 y (b1.1 x y q1).2 with ⟨-, p⟩ | ⟨w, -, -, -, p⟩
          · exact absurd q1 (p x)
          · rw [p x q1, p x' q2]
    · rw [if_neg (nI_ge (by omega) (by omega)), ix_f (by omega) (by decide), ix_f (by omega) (by decide), cl_ (by omega), nI_1]
      obtain ⟨z', res, a1, a2, a3⟩ := ih (i + 1) (war (war z 11 i (-1)) 12 i (-1)) (hU.keep rfl (fun k h1 h2 => by rw [war_n _ _ (by omega), war_n _ _ (by omega)])) (by omega) (by omega) (fun x hx => by
        by_cases e : x = i
        · rw [e, war_s, war_n _ _ (by decide), war_s]; exact ⟨rfl, rfl⟩
        · rw [war_i _ _ e, war_n _ _ (by decide), war_i _ _ e, war_n _ _ (by decide)]; exact h x (by omega))
      exact ⟨z', res, a1, ((on.war (by simp)).tr (on.war (by simp))).tr a2, a3⟩
theorem m_renamed {y : St} {n s t : Nat} {M : (Nat → Nat) → Prop} (h : MI y n M) (hs : s < n) (ht : t < n) : ∃ z' res N c K' F' S' ls, f_M_renamed y (nI s) (nI t) = some (res, z') ∧ z'.1 0 = 0 ∧ MI z' n M ∧ NU z' n M N c K' F' S' ls ∧ ((res = 1 ∧ ∃ Q, gB (fun j => j < N) K' F' S' Q ∧ Q (c s) (c t)) ∨ (res = 0 ∧ ∀ Q, gB (fun j => j < N) K' F' S' Q → Q (c s) (c t) → False)) := by
  obtain ⟨z1, N, c, K', F', S', ls, e1, e2, e3, e4⟩ := m_unknown h hs
  obtain ⟨h1, h2, h6⟩ := e2.types
  have hN := e3.1.2
  unfold f_M_renamed
  rw [e1, Option.bind_some]
  dsimp only
  rw [if_pos rfl, m_none_ok h1 h6 ht, Option.bind_some]
  dsimp only
  rw [if_pos rfl, i0]
  obtain ⟨z', res, a1, a2, a3⟩ := m_renamed_l h6 hs ht FU 0 (wsc z1 0 (nI 0)) (e3.keep (wsc_n _ _ (by decide)) (fun _ _ _ => rfl)) (Nat.zero_le _) (by unfold FU; omega) (fun j hj => by omega)
  rw [a1]
  exact ⟨z', res, N, c, K', F', S', ls, rfl, by rw [a2.1, wsc_s], e2.keepX (fun k hk => by rw [a2.1, wsc_n _ _ hk]) (fun k hk => by rw [a2.2 k (by simp; omega)]; rfl), e3.keep (by rw [a2.1, wsc_n _ _ (by decide)]) (fun k h1 h2 => by rw [a2.2 k (by simp; omega)]; rfl), a3⟩
