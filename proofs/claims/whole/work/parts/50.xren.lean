/-! TypeBench: renamed. -/
/-- rows ka and kb hold the couples B, there and back -/
def BI (z : St) (ka kb n : Nat) (B : Nat → Nat → Prop) : Prop :=
  (∀ x y, B x y → x < n ∧ y < n) ∧ (∀ x, x < n → (z.2 ka x = -1 ∧ ∀ y, ¬ B x y) ∨ (∃ y, y < n ∧ z.2 ka x = nI y ∧ B x y ∧ ∀ y', B x y' → y' = y)) ∧
  (∀ y, y < n → (z.2 kb y = -1 ∧ ∀ x, ¬ B x y) ∨ (∃ x, x < n ∧ z.2 kb y = nI x ∧ B x y ∧ ∀ x', B x' y → x' = x))
theorem BI.keep {z z' : St} {ka kb n : Nat} {B : Nat → Nat → Prop} (h : BI z ka kb n B) (ha : z'.2 ka = z.2 ka) (hb : z'.2 kb = z.2 kb) : BI z' ka kb n B := by
  obtain ⟨h0, h1, h2⟩ := h
  exact ⟨h0, fun x hx => by rw [ha]; exact h1 x hx, fun x hx => by rw [hb]; exact h2 x hx⟩
theorem BI.add {z : St} {ka kb n x y : Nat} {B : Nat → Nat → Prop} (hk : ka ≠ kb) (hn : n ≤ 1000) (h : BI z ka kb n B) (hx : x < n) (hy : y < n) (ex : z.2 ka x = -1) (ey : z.2 kb y = -1) : BI (war (war z ka x (nI y)) kb y (nI x)) ka kb n (fun a b => B a b ∨ (a = x ∧ b = y)) := by
  obtain ⟨h0, h1, h2⟩ := h
  have nx : ∀ b, ¬ B x b := fun b q => by
    rcases h1 x hx with ⟨-, p⟩ | ⟨y', p1, p2, -⟩
    · exact p b q
    · rw [ex] at p2; exact im1 (show y' < 2 ^ 31 by omega) p2.symm
  have ny : ∀ a, ¬ B a y := fun a q => by
    rcases h2 y hy with ⟨-, p⟩ | ⟨x', p1, p2, -⟩
    · exact p a q
    · rw [ey] at p2; exact im1 (show x' < 2 ^ 31 by omega) p2.symm
  refine ⟨fun a b q => ?_, fun a ha => ?_, fun b hb => ?_⟩
  · rcases q with q | ⟨rfl, rfl⟩
    · exact h0 a b q
    · exact ⟨hx, hy⟩
  · rw [war_n _ _ hk]
    by_cases e : a = x
    · subst e
      rw [war_s]
      refine Or.inr ⟨y, hy, rfl, Or.inr ⟨rfl, rfl⟩, fun y' q => ?_⟩
      rcases q with q | q
      · exact absurd q (nx y')
      · exact q.2
    · rw [war_i _ _ e]
      rcases h1 a ha with ⟨p1, p2⟩ | ⟨b, p1, p2, p3, p4⟩
      · refine Or.inl ⟨p1, fun b q => ?_⟩
        rcases q with q | q
        · exact p2 b q
        · exact e q.1
      · refine Or.inr ⟨b, p1, p2, Or.inl p3, fun y' q => ?_⟩
        rcases q with q | q
        · exact p4 y' q
        · exact absurd q.1 e
  · by_cases e : b = y
    · subst e
      rw [war_s]
      refine Or.inr ⟨x, hx, rfl, Or.inr ⟨rfl, rfl⟩, fun x' q => ?_⟩
      rcases q with q | q
      · exact absurd q (ny x')
      · exact q.1
    · rw [war_i _ _ e, war_n _ _ (fun q => hk q.symm)]
      rcases h2 b hb with ⟨p1, p2⟩ | ⟨a, p1, p2, p3, p4⟩
      · refine Or.inl ⟨p1, fun a q => ?_⟩
        rcases q with q | q
        · exact p2 a q
        · exact e q.2
      · refine Or.inr ⟨a, p1, p2, Or.inl p3, fun x' q => ?_⟩
        rcases q with q | q
        · exact p4 x' q
        · exact absurd q.2 e
/-- couples that are one to one, of the same kind, with their parts -/
def gB (P : Nat → Prop) (K F S : Nat → Nat) (Q : Nat → Nat → Prop) : Prop :=
  (∀ x y, Q x y → P x ∧ P y ∧ K x = K y ∧ (2 ≤ K x → Q (F x) (F y) ∧ Q (S x) (S y))) ∧ (∀ x y y', Q x y → Q x y' → y = y') ∧ (∀ x x' y, Q x y → Q x' y → x = x')
theorem gt2000 {st : Nat} (h : st ≤ 2000) : ¬ (2000 : Int32) < nI st := by
  rw [show (2000 : Int32) = nI 2000 by decide]
  intro q
  rw [Int32.lt_iff_toInt_lt, nI_toInt (by omega), nI_toInt (by omega)] at q
  omega
def um (z : St) (n : Nat) : Nat := ct (fun t => decide (z.2 3 t = -1)) n
theorem um_set {z : St} {n x y : Nat} (hx : x < n) (hy : y < 1000) (ex : z.2 3 x = -1) : um (war (war z 3 x (nI y)) 4 y (nI x)) n + 1 = um z n := by
  refine ct_flip (x := x) (by simp [ex]) ?_ (fun t ht => ?_) n hx
  · rw [war_n _ _ (by decide), war_s]; exact decide_eq_false (im1 (by omega))
  · rw [war_n _ _ (by decide), war_i _ _ ht]
theorem s_match_l {n m e a b : Nat} {M : (Nat → Nat) → Prop} {ld ls od K F S ps : Nat → Nat} {v1 v2 : Int32} : ∀ (k st : Nat) (z : St) (B : Nat → Nat → Prop) (l : List (Nat × Nat)), XD z n M m ld ls od K F S ps e → l.length + 2 * um z n < k → st + l.length + 2 * um z n ≤ 2 * n + 1 → l.length + um z n ≤ n + 1 → pi z (fl l) → (∀ q, q ∈ l → LD n ld q.1 ∧ LD n ld q.2) → BI z 3 4 n B →
    (∀ x y, B x y → LD n ld x ∧ LD n ld y ∧ K x = K y ∧ (2 ≤ K x → (B (F x) (F y) ∨ (F x, F y) ∈ l) ∧ (B (S x) (S y) ∨ (S x, S y) ∈ l))) → (B a b ∨ (a, b) ∈ l) → (∀ Q, gB (LD n ld) K F S Q → Q a b → (∀ x y, B x y → Q x y) ∧ ∀ q, q ∈ l → Q q.1 q.2) →
    ∃ z' res, f_X_matchAll_l37 k z (nI st) v1 v2 = some (res, z') ∧ XD z' n M m ld ls od K F S ps e ∧ ((res = 1 ∧ ∃ Q, gB (LD n ld) K F S Q ∧ Q a b) ∨ (res = 0 ∧ ∀ Q, gB (LD n ld) K F S Q → Q a b → False)) := by
  intro k
  induction k with
  | zero => intro st z B l _ h; omega
  | succ k ih =>
    intro st z B l hD hk hst hlen hp hl hB hcl hab hQ
    obtain ⟨⟨a1, a2, a3, a4⟩, ⟨b1, b2⟩, c1, c2, c3, c4, c5, c6, c7, c8, c9, c10⟩ := id hD
    rw [f_X_matchAll_l37, if_neg (gt2000 (by omega))]
    cases l with
    | nil =>
      have h3 := hp.1
      rw [show fl [] = [] from rfl] at h3
      rw [h3, if_pos (by decide)]
      refine ⟨z, 1, rfl, hD, Or.inl ⟨rfl, B, ⟨fun x y q => ?_, fun x y y' q1 q2 => ?_, fun x x' y q1 q2 => ?_⟩, ?_⟩⟩
      · obtain ⟨p1, p2, p3, p4⟩ := hcl x y q
        refine ⟨p1, p2, p3, fun r => ?_⟩
        obtain ⟨p5, p6⟩ := p4 r
        exact ⟨p5.elim id (fun q => by cases q), p6.elim id (fun q => by cases q)⟩
      · rcases hB.2.1 x (hB.1 x y q1).1 with ⟨-, p⟩ | ⟨w, -, -, -, p⟩
        · exact absurd q1 (p y)
        · rw [p y q1, p y' q2]
      · rcases hB.2.2 y (hB.1 x y q1).2 with ⟨-, p⟩ | ⟨w, -, -, -, p⟩
        · exact absurd q1 (p x)
        · rw [p x q1, p x' q2]
      · exact hab.elim id (fun q => by cases q)
    | cons q l =>
      obtain ⟨x, y⟩ := q
      simp only [List.length_cons] at hk hst hlen
      have hll : (fl l).length = 2 * l.length := fl_len l
      have hp' : pi z (y :: x :: fl l) := hp
      have h3 := hp'.1
      obtain ⟨hx, hy⟩ := hl (x, y) List.mem_cons_self
      dsimp only at hx hy
      have hxn := hx.1
      have hyn := hy.1
      rw [if_neg (by rw [h3, i0]; exact nI_ge (by simp) (by simp only [List.length_cons]; omega))]
      obtain ⟨z1, t1, t2, t3, t4⟩ := s_take hp' (by simp only [List.length_cons]; omega)
      rw [t1, Option.bind_some]
      obtain ⟨z2, t5, t6, t7, t8⟩ := s_take t2 (by omega)
      dsimp only
      rw [t5, Option.bind_some]
      have e2 : z2.2 = z.2 := by rw [t8, t4]
      have e1 : ∀ k, k ≠ 3 → z2.1 k = z.1 k := fun k hk => by rw [t7 k hk, t3 k hk]
      dsimp only
      rw [ix_f (by omega) (by decide), cl_ (by omega), nI_1]
      have hD2 : XD z2 n M m ld ls od K F S ps e := hD.keep (e1 0 (by decide)) (e1 1 (by decide)) (fun k _ => by rw [e2])
      have hB2 : BI z2 3 4 n B := hB.keep (by rw [e2]) (by rw [e2])
      have u2 : um z2 n = um z n := by unfold um; rw [e2]
      by_cases q : z2.2 3 x = nI y
      · rw [if_pos q]
        have hxy : B x y := by
          rcases hB2.2.1 x hxn with ⟨p1, p2⟩ | ⟨w, p1, p2, p3, p4⟩
          · rw [p1] at q; exact absurd q.symm (im1 (by omega))
          · rw [p2, neq (by omega) (by omega)] at q
            rw [← q]; exact p3
        refine ih (st + 1) z2 B l hD2 (by rw [u2]; omega) (by rw [u2]; omega) (by rw [u2]; omega) t6 (fun q hq => hl q (List.mem_cons_of_mem _ hq)) hB2 (fun x' y' q' => ?_) ?_ (fun Q h1 h2 => ⟨(hQ Q h1 h2).1, fun q hq => (hQ Q h1 h2).2 q (List.mem_cons_of_mem _ hq)⟩)
        · obtain ⟨p1, p2, p3, p4⟩ := hcl x' y' q'
          refine ⟨p1, p2, p3, fun r => ?_⟩
          obtain ⟨p5, p6⟩ := p4 r
          constructor
          · rcases p5 with p5 | p5
            · exact Or.inl p5
            · rcases List.mem_cons.mp p5 with p5 | p5
              · rw [Prod.mk.injEq] at p5; rw [p5.1, p5.2]; exact Or.inl hxy
              · exact Or.inr p5
          · rcases p6 with p6 | p6
            · exact Or.inl p6
            · rcases List.mem_cons.mp p6 with p6 | p6
              · rw [Prod.mk.injEq] at p6; rw [p6.1, p6.2]; exact Or.inl hxy
              · exact Or.inr p6
        · rcases hab with p | p
          · exact Or.inl p
          · rcases List.mem_cons.mp p with p | p
            · rw [Prod.mk.injEq] at p; rw [p.1, p.2]; exact Or.inl hxy
            · exact Or.inr p
      · rw [if_neg q]
        have hnB : ¬ B x y := fun hxy => by
          rcases hB2.2.1 x hxn with ⟨p1, p2⟩ | ⟨w, p1, p2, p3, p4⟩
          · exact p2 y hxy
          · rw [← p4 y hxy] at p2; exact q p2
        have hQxy : ∀ Q, gB (LD n ld) K F S Q → Q a b → Q x y := fun Q h1 h2 => (hQ Q h1 h2).2 (x, y) List.mem_cons_self
        unfold f_X_matchTwo
        simp only [ix_g (show x < 1000 by omega) (show 1000 < 2 ^ 31 by decide), ix_g (show y < 1000 by omega) (show 1000 < 2 ^ 31 by decide), cl_ (show x < 2 ^ 31 by omega), cl_ (show y < 2 ^ 31 by omega)]
        by_cases e3 : z2.2 3 x = -1
        · rw [if_pos e3]
          by_cases e4 : z2.2 4 y = -1
          · rw [if_pos e4]
            have kx : z2.2 6 x = nI (K x) := by rw [e2]; exact (c3 x hx).1
            have ky : z2.2 6 y = nI (K y) := by rw [e2]; exact (c3 y hy).1
            have k4 := (c8.2.2.1 x hx).1
            have k4y := (c8.2.2.1 y hy).1
            simp only [kx, ky, neq (show K x < 2 ^ 31 by omega) (show K y < 2 ^ 31 by omega)]
            by_cases e5 : K x = K y
            · rw [if_pos e5]
              have hum := um_set (z := z2) (n := n) (x := x) (y := y) hxn (by omega) e3
              obtain ⟨z3, g1, g2, g3, g4⟩ := s_putParts (z := war (war z2 3 x (nI y)) 4 y (nI x)) (P := LD n ld) (K := K) (F := F) (S := S) (l := fl l) (c3.keep (by rw [war_n _ _ (by decide), war_n _ _ (by decide), e2]) (by rw [war_n _ _ (by decide), war_n _ _ (by decide), e2]) (by rw [war_n _ _ (by decide), war_n _ _ (by decide), e2])) hx hy (by omega) (by omega) k4 e5 (t6.keep rfl (by rw [war_n _ _ (by decide), war_n _ _ (by decide)])) (by omega)
              rw [g1, Option.bind_some, Option.bind_some]
              dsimp only
              rw [if_neg (show ¬ (1 : Int32) = 0 by decide)]
              have hD3 : XD z3 n M m ld ls od K F S ps e := hD2.keep (by rw [g3 0 (by decide)]; rfl) (by rw [g3 1 (by decide)]; rfl) (fun k hk => by rw [g4 k (by omega), war_n _ _ (by omega), war_n _ _ (by omega)])
              have hB3 := (hB2.add (by decide) (by omega) hxn hyn e3 e4).keep (z' := z3) (g4 3 (by decide)) (g4 4 (by decide))
              have u3 : um z3 n + 1 = um z n := by rw [← u2, ← hum]; unfold um; rw [g4 3 (by decide)]
              have hnew : ∀ Q, gB (LD n ld) K F S Q → Q a b → ∀ x' y', (B x' y' ∨ (x' = x ∧ y' = y)) → Q x' y' := fun Q h1 h2 x' y' q' => by
                rcases q' with q' | ⟨rfl, rfl⟩
                · exact (hQ Q h1 h2).1 _ _ q'
                · exact hQxy Q h1 h2
              have old : ∀ {c d : Nat} {l' : List (Nat × Nat)}, (∀ q, q ∈ l → q ∈ l') → (B c d ∨ (c, d) ∈ (x, y) :: l) → ((B c d ∨ (c = x ∧ d = y)) ∨ (c, d) ∈ l') := fun {c d l'} hs p => by
                rcases p with p | p
                · exact Or.inl (Or.inl p)
                · rcases List.mem_cons.mp p with p | p
                  · rw [Prod.mk.injEq] at p; exact Or.inl (Or.inr p)
                  · exact Or.inr (hs _ p)
              by_cases e6 : 2 ≤ K x
              · rw [if_pos e6] at g2
                obtain ⟨px1, px2, -, -⟩ := (c8.2.2.1 x hx).2 e6
                obtain ⟨py1, py2, -, -⟩ := (c8.2.2.1 y hy).2 (by omega)
                have hs : ∀ q, q ∈ l → q ∈ (S x, S y) :: (F x, F y) :: l := fun q hq => List.mem_cons_of_mem _ (List.mem_cons_of_mem _ hq)
                refine ih (st + 1) z3 _ ((S x, S y) :: (F x, F y) :: l) hD3 (by simp only [List.length_cons]; omega) (by simp only [List.length_cons]; omega) (by simp only [List.length_cons]; omega) g2 (fun q hq => ?_) hB3 (fun x' y' q' => ?_) (old hs hab) (fun Q h1 h2 => ⟨hnew Q h1 h2, fun q hq => ?_⟩)
                · rcases List.mem_cons.mp hq with rfl | hq
                  · exact ⟨px2, py2⟩
                  · rcases List.mem_cons.mp hq with rfl | hq
                    · exact ⟨px1, py1⟩
                    · exact hl q (List.mem_cons_of_mem _ hq)
                · rcases q' with q' | ⟨rfl, rfl⟩
                  · obtain ⟨p1, p2, p3, p4⟩ := hcl x' y' q'
                    exact ⟨p1, p2, p3, fun r => ⟨old hs (p4 r).1, old hs (p4 r).2⟩⟩
                  · exact ⟨hx, hy, e5, fun _ => ⟨Or.inr (by simp), Or.inr (by simp)⟩⟩
                · obtain ⟨r1, r2⟩ := (h1.1 x y (hQxy Q h1 h2)).2.2.2 e6
                  rcases List.mem_cons.mp hq with rfl | hq
                  · exact r2
                  · rcases List.mem_cons.mp hq with rfl | hq
                    · exact r1
                    · exact (hQ Q h1 h2).2 q (List.mem_cons_of_mem _ hq)
              · rw [if_neg e6] at g2
                refine ih (st + 1) z3 _ l hD3 (by omega) (by omega) (by omega) g2 (fun q hq => hl q (List.mem_cons_of_mem _ hq)) hB3 (fun x' y' q' => ?_) (old (fun _ h => h) hab) (fun Q h1 h2 => ⟨hnew Q h1 h2, fun q hq => (hQ Q h1 h2).2 q (List.mem_cons_of_mem _ hq)⟩)
                rcases q' with q' | ⟨rfl, rfl⟩
                · obtain ⟨p1, p2, p3, p4⟩ := hcl x' y' q'
                  exact ⟨p1, p2, p3, fun r => ⟨old (fun _ h => h) (p4 r).1, old (fun _ h => h) (p4 r).2⟩⟩
                · exact ⟨hx, hy, e5, fun r => absurd r e6⟩
            · rw [if_neg e5, Option.bind_some]
              dsimp only
              rw [if_pos rfl]
              exact ⟨z2, 0, rfl, hD2, Or.inr ⟨rfl, fun Q h1 h2 => e5 (h1.1 x y (hQxy Q h1 h2)).2.2.1⟩⟩
          · rw [if_neg e4, Option.bind_some]
            dsimp only
            rw [if_pos rfl]
            refine ⟨z2, 0, rfl, hD2, Or.inr ⟨rfl, fun Q h1 h2 => ?_⟩⟩
            rcases hB2.2.2 y hyn with ⟨p1, -⟩ | ⟨w, p1, p2, p3, p4⟩
            · exact e4 p1
            · have := h1.2.2 w x y ((hQ Q h1 h2).1 _ _ p3) (hQxy Q h1 h2)
              rw [this] at p3
              exact hnB p3
        · rw [if_neg e3, Option.bind_some]
          dsimp only
          rw [if_pos rfl]
          refine ⟨z2, 0, rfl, hD2, Or.inr ⟨rfl, fun Q h1 h2 => ?_⟩⟩
          rcases hB2.2.1 x hxn with ⟨p1, -⟩ | ⟨w, p1, p2, p3, p4⟩
          · exact e3 p1
          · have := h1.2.1 x w y ((hQ Q h1 h2).1 _ _ p3) (hQxy Q h1 h2)
            rw [this] at p3
            exact hnB p3
theorem s_renamed {z : St} {n m e s t : Nat} {M : (Nat → Nat) → Prop} {ld ls od K F S ps : Nat → Nat} (hD : XD z n M m ld ls od K F S ps e) (hs : s < n) (ht : t < n) :
    ∃ z' res, f_X_renamed z (nI s) (nI t) = some ((0, res), z') ∧ XD z' n M m ld ls od K F S ps e ∧ ((res = 1 ∧ ∃ Q, gB (LD n ld) K F S Q ∧ Q (ld s) (ld t)) ∨ (res = 0 ∧ ∀ Q, gB (LD n ld) K F S Q → Q (ld s) (ld t) → False)) := by
  obtain ⟨⟨a1, a2, a3, a4⟩, ⟨b1, b2⟩, c1, c2, c3, c4, c5, c6, c7, c8, c9, c10⟩ := id hD
  unfold f_X_renamed
  rw [s_leader_ok b1 c1 a2 hs, Option.bind_some]
  dsimp only
  rw [if_pos rfl, s_leader_ok b1 c1 a2 ht, Option.bind_some]
  dsimp only
  rw [if_pos rfl]
  unfold f_X_matchAll
  obtain ⟨g, g1, g2, -⟩ := s_fill4 (N := 1000) (n := n) (z.2 3) (-1) (by decide) (by omega)
  rw [b1, g1, Option.bind_some, wal_1, b1]
  obtain ⟨g', g3, g4, -⟩ := s_fill4 (N := 1000) (n := n) ((wal z 3 g).2 4) (-1) (by decide) (by omega)
  rw [g3, Option.bind_some]
  obtain ⟨z1, h1, h2, h3, h4⟩ := s_startWith (wal (wal z 3 g) 4 g') (ld s) (ld t)
  rw [h1, Option.bind_some, i0]
  have r3 : ∀ x, x < n → z1.2 3 x = -1 := fun x hx => by rw [h4 3 (by decide), wal_n _ _ (by decide), wal_s, g2 x hx]
  have r4 : ∀ x, x < n → z1.2 4 x = -1 := fun x hx => by rw [h4 4 (by decide), wal_s, g4 x hx]
  have hum := ct_le (fun t => decide (z1.2 3 t = -1)) n
  obtain ⟨z', res, d1, d2, d3⟩ := s_match_l (a := ld s) (b := ld t) (v1 := nI (ld s)) (v2 := nI (ld t)) FU 0 z1 (fun _ _ => False) [(ld s, ld t)] (hD.keep (by rw [h3 0 (by decide)]; rfl) (by rw [h3 1 (by decide)]; rfl) (fun k hk => by rw [h4 k (by omega), wal_n _ _ (by omega), wal_n _ _ (by omega)]))
    (by unfold um FU; simp only [List.length_cons, List.length_nil]; omega) (by unfold um; simp only [List.length_cons, List.length_nil]; omega) (by unfold um; simp only [List.length_cons, List.length_nil]; omega) h2 (fun q hq => by
      rcases List.mem_cons.mp hq with rfl | hq
      · exact ⟨c8.1 s hs, c8.1 t ht⟩
      · cases hq)
    ⟨fun _ _ q => q.elim, fun x hx => Or.inl ⟨r3 x hx, fun _ q => q⟩, fun x hx => Or.inl ⟨r4 x hx, fun _ q => q⟩⟩ (fun _ _ q => q.elim) (Or.inr (by simp)) (fun Q q1 q2 => ⟨fun _ _ q => q.elim, fun q hq => by
      rcases List.mem_cons.mp hq with rfl | hq
      · exact q2
      · cases hq⟩)
  rw [d1, Option.bind_some]
  dsimp only
  rcases d3 with ⟨rfl, d3⟩ | ⟨rfl, d3⟩
  · rw [if_neg (by decide)]; exact ⟨z', 1, rfl, d2, Or.inl ⟨rfl, d3⟩⟩
  · rw [if_neg (by decide)]; exact ⟨z', 0, rfl, d2, Or.inr ⟨rfl, d3⟩⟩
