/-! TypeBench: makeWhole, sum, pair, begin, clear. -/
theorem XD.v_ld {z : St} {n m e : Nat} {M : (Nat → Nat) → Prop} {ld ls od K F S ps : Nat → Nat} (h : XD z n M m ld ls od K F S ps e) {v : Nat → Nat} (hv : M v) {t : Nat} (ht : t < n) : v (ld t) = v t := by
  obtain ⟨-, -, -, c2, -, -, -, -, -, -, c9, -⟩ := h
  obtain ⟨u, u1, -⟩ := (c9 v).mp hv
  rw [u1 t ht, u1 _ (c2 t ht).1, (c2 t ht).2]
theorem s_makeWhole {z : St} {n m e k0 f0 s0 : Nat} {M : (Nat → Nat) → Prop} {ld ls od K F S ps : Nat → Nat} (hD : XD z n M m ld ls od K F S ps e) (hn : n + 1 ≤ 600) (hk : 2 ≤ k0) (hk4 : k0 < 4) (hf : LD n ld f0) (hs : LD n ld s0) :
    ∃ z', f_X_makeWhole z (nI k0) (nI f0) (nI s0) = some ((0, nI n), z') ∧ XI z' (n + 1) (fun v => M v ∧ v n = tm_N k0 (v f0) (v s0)) := by
  obtain ⟨⟨a1, a2, a3, a4⟩, ⟨b1, b2⟩, c1, c2, c3, c4, c5, c6, c7, c8, c9, c10⟩ := id hD
  unfold f_X_makeWhole
  rw [s_next b1 (by omega), Option.bind_some]
  dsimp only
  rw [if_pos rfl, s_write _ _ _ (by omega), Option.bind_some]
  generalize hz1 : war (war (war (wsc z 0 (nI (n + 1))) 6 n (nI k0)) 7 n (nI f0)) 8 n (nI s0) = z1
  have g0 : z1.1 0 = nI (n + 1) := by rw [← hz1]; simp only [war_1]; exact wsc_s _ _ _
  have g1 : z1.1 1 = nI m := by rw [← hz1]; simp only [war_1]; rw [wsc_n _ _ (by decide)]; exact b2
  have gk : ∀ k, k ≠ 6 → k ≠ 7 → k ≠ 8 → z1.2 k = z.2 k := fun k h1 h2 h3 => by rw [← hz1, war_n _ _ h3, war_n _ _ h2, war_n _ _ h1, wsc_2]
  have g6 : z1.2 6 n = nI k0 ∧ z1.2 7 n = nI f0 ∧ z1.2 8 n = nI s0 := by
    rw [← hz1]
    refine ⟨?_, ?_, war_s _ _ _ _⟩
    · rw [war_n _ _ (by decide), war_n _ _ (by decide), war_s]
    · rw [war_n _ _ (by decide), war_s]
  have g6x : ∀ x, x ≠ n → z1.2 6 x = z.2 6 x ∧ z1.2 7 x = z.2 7 x ∧ z1.2 8 x = z.2 8 x := fun x hx => by
    rw [← hz1]
    refine ⟨?_, ?_, ?_⟩
    · rw [war_n _ _ (by decide), war_n _ _ (by decide), war_i _ _ hx, wsc_2]
    · rw [war_n _ _ (by decide), war_i _ _ hx, war_n _ _ (by decide), wsc_2]
    · rw [war_i _ _ hx, war_n _ _ (by decide), war_n _ _ (by decide), wsc_2]
  clear hz1
  have hH1 := c7.keep (gk 9 (by decide) (by decide) (by decide)) (gk 10 (by decide) (by decide) (by decide))
  have hE1 : shE z1 (fun x => LD n ld x ∧ 2 ≤ K x) K F S := fun x hx => by
    obtain ⟨q1, q2, q3⟩ := g6x x (by have := hx.1.1; omega)
    obtain ⟨p1, p2⟩ := c3 x hx.1
    obtain ⟨p3, p4⟩ := p2 hx.2
    obtain ⟨p5, p6⟩ := c8.2.2.1 x hx.1
    obtain ⟨p7, p8, -, -⟩ := p6 hx.2
    rw [q1, q2, q3]
    exact ⟨by have := hx.1.1; omega, p1, p3, p4, p5, by have := p7.1; omega, by have := p8.1; omega⟩
  obtain ⟨res, t1, t2⟩ := s_twinOf hH1 (by omega) hE1 (show n < 1000 by omega) g6.1 g6.2.1 g6.2.2 hk4 (by have := hf.1; omega) (by have := hs.1; omega)
  rw [t1, Option.bind_some]
  dsimp only
  rcases t2 with ⟨w, ⟨w1, w2⟩, w3, w4, w5, rfl⟩ | ⟨rfl, hno⟩
  · rw [if_neg (im1 (by have := w1.1; omega)), ix_f (by omega) (by decide), cl_ (by omega)]
    refine ⟨_, rfl, ?_⟩
    obtain ⟨hP, d1, d2⟩ := cf_like c8 c9 w1 hk hf hs w3 w4 w5
    have ne : ∀ {x}, LD n ld x → x ≠ n := fun {x} hx q => by have := hx.1; omega
    refine ⟨m, us_up ld n w, ls, od, us_up K n 0, F, S, ps, e, ⟨by omega, hn, by omega, by omega⟩, ⟨g0, g1⟩, fun t ht => ?_, fun t ht => d1.1 t ht, fun x hx => ?_, fun x hx => ?_, fun i hi => ?_, fun x hx => ?_, ?_, d1, d2, fun t ht q => ?_⟩
    · by_cases q : t = n
      · rw [q, war_s, us_up_s]
      · rw [war_i _ _ q, us_up_n _ q, gk 0 (by decide) (by decide) (by decide)]; exact c1 t (by omega)
    · rw [hP] at hx
      obtain ⟨q1, q2, q3⟩ := g6x x (ne hx)
      rw [war_n _ _ (by decide), war_n _ _ (by decide), war_n _ _ (by decide), q1, q2, q3, us_up_n _ (ne hx)]
      exact c3 x hx
    · rw [hP] at hx
      obtain ⟨q1, q2, q3, q4⟩ := c4 x hx
      rw [war_n _ _ (by decide), gk 1 (by decide) (by decide) (by decide)]
      exact ⟨q1, by omega, by rw [us_up_n _ (by omega)]; exact q3, fun t ht => by rw [us_up_n _ (by omega)]; exact q4 t ht⟩
    · obtain ⟨q1, q2, q3⟩ := c5 i hi
      rw [war_n _ _ (by decide), gk 2 (by decide) (by decide) (by decide), hP]
      exact ⟨q1, q2, q3⟩
    · rw [hP] at hx; exact c6 x hx
    · refine (hH1.keep (war_n _ _ (by decide)) (war_n _ _ (by decide))).cong (fun x => ?_) (fun x hx => ⟨us_up_n _ (ne hx.1), rfl, rfl⟩)
      rw [hP]
      constructor
      · rintro ⟨q1, q2⟩; rw [us_up_n _ (ne q1)] at q2; exact ⟨q1, q2⟩
      · rintro ⟨q1, q2⟩; exact ⟨q1, by rw [us_up_n _ (ne q1)]; exact q2⟩
    · by_cases q2 : t = n
      · rw [q2, us_up_s] at q; omega
      · rw [us_up_n _ q2] at q ⊢; exact c10 t (by omega) q
  · rw [if_pos rfl]
    have ne : ∀ {x}, LD n ld x → x ≠ n := fun {x} hx q => by have := hx.1; omega
    have hH2 : HS z1 (fun x => LD n ld x ∧ 2 ≤ K x) (us_up K n k0) (us_up F n f0) (us_up S n s0) e := hH1.cong (fun _ => Iff.rfl) (fun x hx => ⟨us_up_n _ (ne hx.1), us_up_n _ (ne hx.1), us_up_n _ (ne hx.1)⟩)
    obtain ⟨z2, e1, e2, e3⟩ := s_enter hH2 (show n < 1000 by omega) (fun q => ne q.1 rfl) (by rw [us_up_s]; exact g6.1) (by rw [us_up_s]; exact g6.2.1) (by rw [us_up_s]; exact g6.2.2) (by rw [us_up_s]; exact hk4) (by rw [us_up_s]; have := hf.1; omega) (by rw [us_up_s]; have := hs.1; omega)
    rw [e1, Option.bind_some, s_addLeader (m := m) (by rw [e3.1]; exact g1) (by omega) (by omega), Option.bind_some]
    refine ⟨_, rfl, ?_⟩
    have q2 : ∀ k, k ∉ [9, 10] → k ≠ 0 → k ≠ 1 → k ≠ 2 → (wsc (war (war (war z2 0 n (nI n)) 1 n (nI n)) 2 m (nI n)) 1 (nI (m + 1))).2 k = z1.2 k := fun k h1 h2 h3 h4 => by rw [wsc_2, war_n _ _ h4, war_n _ _ h3, war_n _ _ h2, e3.2 k h1]
    have hX := hD.added (k0 := k0) (f0 := f0) (s0 := s0) (e' := e + 1) (z' := wsc (war (war (war z2 0 n (nI n)) 1 n (nI n)) 2 m (nI n)) 1 (nI (m + 1))) hn (Or.inr ⟨hk, hk4, hf, hs, fun x hx q => hno x ⟨hx, by omega⟩ q⟩)
      (by rw [wsc_n _ _ (by decide)]; simp only [war_1]; rw [e3.1]; exact g0) (wsc_s _ _ _)
      (fun t ht => by
        rw [wsc_2, war_n _ _ (by decide), war_n _ _ (by decide)]
        by_cases q : t = n
        · rw [q, war_s, us_up_s]
        · rw [war_i _ _ q, us_up_n _ q, e3.2 0 (by decide), gk 0 (by decide) (by decide) (by decide)]; exact c1 t (by omega))
      (fun x hx => by rw [wsc_2, war_n _ _ (by decide), war_i _ _ hx, war_n _ _ (by decide), e3.2 1 (by decide), gk 1 (by decide) (by decide) (by decide)]) (by rw [wsc_2, war_n _ _ (by decide), war_s])
      (fun i hi => by rw [wsc_2, war_i _ _ hi, war_n _ _ (by decide), war_n _ _ (by decide), e3.2 2 (by decide), gk 2 (by decide) (by decide) (by decide)]) (by rw [wsc_2, war_s])
      (fun x hx => by rw [q2 6 (by decide) (by decide) (by decide) (by decide), q2 7 (by decide) (by decide) (by decide) (by decide), q2 8 (by decide) (by decide) (by decide) (by decide)]; exact g6x x hx)
      (by rw [q2 6 (by decide) (by decide) (by decide) (by decide), q2 7 (by decide) (by decide) (by decide) (by decide), q2 8 (by decide) (by decide) (by decide) (by decide)]; exact ⟨g6.1, fun _ => g6.2⟩)
      (by
        refine (e2.keep (by rw [wsc_2, war_n _ _ (by decide), war_n _ _ (by decide), war_n _ _ (by decide)]) (by rw [wsc_2, war_n _ _ (by decide), war_n _ _ (by decide), war_n _ _ (by decide)])).cong (fun x => ?_) (fun x hx => ⟨rfl, rfl, rfl⟩)
        constructor
        · rintro ⟨⟨p1, p2⟩, p3⟩
          by_cases q : x = n
          · exact Or.inr q
          · rw [us_up_n _ q] at p2 p3; exact Or.inl ⟨⟨by omega, p2⟩, p3⟩
        · rintro (⟨⟨p1, p2⟩, p3⟩ | q)
          · exact ⟨⟨by omega, by rw [us_up_n _ (by omega)]; exact p2⟩, by rw [us_up_n _ (by omega)]; exact p3⟩
          · rw [q]; exact ⟨⟨by omega, us_up_s _ _ _⟩, by rw [us_up_s]; exact hk⟩) (by omega)
    exact hX.cong (fun v => ⟨fun q => ⟨q.1, fun _ => q.2⟩, fun q => ⟨q.1, q.2 hk⟩⟩)
/-- an argument is a type, or there is none -/
def noT (n : Nat) (a : Int32) : Prop := a < 0 ∨ nI n ≤ a
theorem is_T (a : Int32) {n : Nat} (hn : n ≤ 600) : noT n a ∨ ∃ t, t < n ∧ a = nI t := by
  rcases pk_ix a (show n < 2 ^ 31 by omega) with h | h | h
  · exact Or.inl (Or.inl h)
  · exact Or.inl (Or.inr h)
  · exact Or.inr h
theorem s_whole2 {z : St} {n s t k0 : Nat} {M : (Nat → Nat) → Prop} (h : XI z n M) (hn : n + 1 ≤ 600) (hk : 2 ≤ k0) (hk4 : k0 < 4) (hs : s < n) (ht : t < n) : ∃ ls lt : Nat, f_X_leaderOf z (nI s) = some ((0, nI ls), z) ∧ f_X_leaderOf z (nI t) = some ((0, nI lt), z) ∧
    ∃ z', f_X_makeWhole z (nI k0) (nI ls) (nI lt) = some ((0, nI n), z') ∧ XI z' (n + 1) (fun v => M v ∧ v n = tm_N k0 (v s) (v t)) := by
  obtain ⟨m, ld, ls, od, K, F, S, ps, e, hD⟩ := h
  obtain ⟨⟨a1, a2, a3, a4⟩, ⟨b1, b2⟩, c1, c2, -⟩ := id hD
  obtain ⟨z', h1, h2⟩ := s_makeWhole hD hn hk hk4 (c2 s hs) (c2 t ht)
  refine ⟨ld s, ld t, s_leader_ok b1 c1 a2 hs, s_leader_ok b1 c1 a2 ht, z', h1, h2.cong (fun v => ?_)⟩
  constructor
  · rintro ⟨q1, q2⟩; exact ⟨q1, by rw [q2, hD.v_ld q1 hs, hD.v_ld q1 ht]⟩
  · rintro ⟨q1, q2⟩; exact ⟨q1, by rw [q2, hD.v_ld q1 hs, hD.v_ld q1 ht]⟩
theorem s_sum {z : St} {n s t : Nat} {M : (Nat → Nat) → Prop} (h : XI z n M) (hn : n + 1 ≤ 600) (hs : s < n) (ht : t < n) : ∃ z', f_X_sum z (nI s) (nI t) = some ((0, nI n), z') ∧ XI z' (n + 1) (fun v => M v ∧ v n = tm_N 2 (v s) (v t)) := by
  obtain ⟨ls, lt, h1, h2, z', h3, h4⟩ := s_whole2 h hn (k0 := 2) (by decide) (by decide) hs ht
  refine ⟨z', ?_, h4⟩
  unfold f_X_sum
  rw [h1, Option.bind_some]
  dsimp only
  rw [if_pos rfl, h2, Option.bind_some]
  dsimp only
  rw [if_pos rfl, i2, h3, Option.bind_some]
  dsimp only
  rw [if_pos rfl]
theorem s_pair {z : St} {n s t : Nat} {M : (Nat → Nat) → Prop} (h : XI z n M) (hn : n + 1 ≤ 600) (hs : s < n) (ht : t < n) : ∃ z', f_X_pair z (nI s) (nI t) = some ((0, nI n), z') ∧ XI z' (n + 1) (fun v => M v ∧ v n = tm_N 3 (v s) (v t)) := by
  obtain ⟨ls, lt, h1, h2, z', h3, h4⟩ := s_whole2 h hn (k0 := 3) (by decide) (by decide) hs ht
  refine ⟨z', ?_, h4⟩
  unfold f_X_pair
  rw [h1, Option.bind_some]
  dsimp only
  rw [if_pos rfl, h2, Option.bind_some]
  dsimp only
  rw [if_pos rfl, i3, h3, Option.bind_some]
  dsimp only
  rw [if_pos rfl]
theorem XI.made {z : St} {n : Nat} {M : (Nat → Nat) → Prop} (h : XI z n M) : z.1 0 = nI n ∧ 1 ≤ n ∧ n ≤ 600 := by
  obtain ⟨m, ld, ls, od, K, F, S, ps, e, ⟨a1, a2, a3, a4⟩, ⟨b1, b2⟩, -⟩ := h
  exact ⟨b1, a1, a2⟩
theorem XI.lead {z : St} {n : Nat} {M : (Nat → Nat) → Prop} (h : XI z n M) {t : Nat} (ht : t < n) : ∃ l, f_X_leaderOf z (nI t) = some ((0, nI l), z) := by
  obtain ⟨m, ld, ls, od, K, F, S, ps, e, ⟨a1, a2, a3, a4⟩, ⟨b1, b2⟩, c1, -⟩ := h
  exact ⟨ld t, s_leader_ok b1 c1 a2 ht⟩
theorem s_sum_no {z : St} {n : Nat} {a b : Int32} {M : (Nat → Nat) → Prop} (h : XI z n M) (hab : noT n a ∨ noT n b) : f_X_sum z a b = some ((1, 0), z) := by
  obtain ⟨b1, a1, a2⟩ := h.made
  unfold f_X_sum
  rcases is_T a a2 with ha | ⟨s, hs, rfl⟩
  · rw [s_leader_no b1 ha, Option.bind_some]; rfl
  · obtain ⟨l, hl⟩ := h.lead hs
    rw [hl, Option.bind_some]
    dsimp only
    rw [if_pos rfl]
    rcases hab with ha | hb
    · rw [s_leader_no b1 ha] at hl; simp at hl
    · rw [s_leader_no b1 hb, Option.bind_some]; rfl
theorem s_pair_no {z : St} {n : Nat} {a b : Int32} {M : (Nat → Nat) → Prop} (h : XI z n M) (hab : noT n a ∨ noT n b) : f_X_pair z a b = some ((1, 0), z) := by
  obtain ⟨b1, a1, a2⟩ := h.made
  unfold f_X_pair
  rcases is_T a a2 with ha | ⟨s, hs, rfl⟩
  · rw [s_leader_no b1 ha, Option.bind_some]; rfl
  · obtain ⟨l, hl⟩ := h.lead hs
    rw [hl, Option.bind_some]
    dsimp only
    rw [if_pos rfl]
    rcases hab with ha | hb
    · rw [s_leader_no b1 ha] at hl; simp at hl
    · rw [s_leader_no b1 hb, Option.bind_some]; rfl
