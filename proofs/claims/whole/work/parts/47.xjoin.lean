/-! TypeBench: join, alike, same, kind, part; and with types that there aren't. -/
theorem s_join {z : St} {n s t : Nat} {M : (Nat → Nat) → Prop} (h : XI z n M) (hs : s < n) (ht : t < n) : ∃ z' res, f_X_join z (nI s) (nI t) = some ((0, res), z') ∧ ((res = 0 ∧ XI z' n M ∧ ∀ v, M v → v s = v t → False) ∨ (res = 1 ∧ XI z' n (fun v => M v ∧ v s = v t) ∧ ∃ v, M v ∧ v s = v t)) := by
  obtain ⟨m, ld, ls, od, K, F, S, ps, e, hD⟩ := h
  obtain ⟨⟨a1, a2, a3, a4⟩, ⟨b1, b2⟩, c1, c2, c3, c4, c5, c6, c7, c8, c9, c10⟩ := id hD
  have hls := (c2 s hs).1
  have hlt := (c2 t ht).1
  unfold f_X_join
  rw [s_leader_ok b1 c1 a2 hs, Option.bind_some]
  dsimp only
  rw [if_pos rfl, s_leader_ok b1 c1 a2 ht, Option.bind_some]
  dsimp only
  rw [if_pos rfl]
  simp only [neq (show ld s < 2 ^ 31 by omega) (show ld t < 2 ^ 31 by omega)]
  by_cases q : ld s = ld t
  · rw [if_pos q]
    have hq := (hD.same hs ht).mpr q
    refine ⟨z, 1, rfl, Or.inr ⟨rfl, XI.cong ⟨m, ld, ls, od, K, F, S, ps, e, hD⟩ (fun v => ⟨fun p => p.1, fun p => ⟨p, hq v p⟩⟩), ?_⟩⟩
    obtain ⟨u, hu, -⟩ := cf_gen c8 (fun x => x)
    have hv := (c9 (fun t => u (ld t))).mpr ⟨u, fun _ _ => rfl, hu⟩
    exact ⟨_, hv, hq _ hv⟩
  · rw [if_neg q]
    obtain ⟨z1, res, d1, d2, d3⟩ := s_try hD hls hlt
    rw [d1, Option.bind_some]
    dsimp only
    rcases d3 with ⟨rfl, hno⟩ | ⟨rfl, ⟨v, v1, v2⟩, o, r, d, mk, tr, c, f0, f1, f3, f4, f5, f6, k1, k2⟩
    · rw [if_pos rfl]
      exact ⟨z1, 0, rfl, Or.inl ⟨rfl, ⟨m, ld, ls, od, K, F, S, ps, e, d2⟩, fun v hv he => hno v hv (by rw [hD.v_ld hv hs, hD.v_ld hv ht]; exact he)⟩⟩
    · rw [if_neg (show ¬ (1 : Int32) = 0 by decide)]
      obtain ⟨z', g1, g2⟩ := s_keepLinks d2 f0 f1 f3 f4 f5 f6 k1 k2
      rw [g1, Option.bind_some]
      refine ⟨z', 1, rfl, Or.inr ⟨rfl, g2.cong (fun v => ⟨fun p => ⟨p.1, by rw [hD.v_ld p.1 hs, hD.v_ld p.1 ht]; exact p.2⟩, fun p => ⟨p.1, ?_⟩⟩), v, v1, ?_⟩⟩
      · have := p.2; rw [hD.v_ld p.1 hs, hD.v_ld p.1 ht] at this; exact this
      · rw [hD.v_ld v1 hs, hD.v_ld v1 ht] at v2; exact v2
theorem s_alike {z : St} {n s t : Nat} {M : (Nat → Nat) → Prop} (h : XI z n M) (hs : s < n) (ht : t < n) : ∃ z' res, f_X_alike z (nI s) (nI t) = some ((0, res), z') ∧ XI z' n M ∧ ((res = 0 ∧ ∀ v, M v → v s = v t → False) ∨ (res = 1 ∧ ∃ v, M v ∧ v s = v t)) := by
  obtain ⟨m, ld, ls, od, K, F, S, ps, e, hD⟩ := h
  obtain ⟨⟨a1, a2, a3, a4⟩, ⟨b1, b2⟩, c1, c2, c3, c4, c5, c6, c7, c8, c9, c10⟩ := id hD
  have hls := (c2 s hs).1
  have hlt := (c2 t ht).1
  unfold f_X_alike
  rw [s_leader_ok b1 c1 a2 hs, Option.bind_some]
  dsimp only
  rw [if_pos rfl, s_leader_ok b1 c1 a2 ht, Option.bind_some]
  dsimp only
  rw [if_pos rfl]
  simp only [neq (show ld s < 2 ^ 31 by omega) (show ld t < 2 ^ 31 by omega)]
  by_cases q : ld s = ld t
  · rw [if_pos q]
    have hq := (hD.same hs ht).mpr q
    refine ⟨z, 1, rfl, ⟨m, ld, ls, od, K, F, S, ps, e, hD⟩, Or.inr ⟨rfl, ?_⟩⟩
    obtain ⟨u, hu, -⟩ := cf_gen c8 (fun x => x)
    have hv := (c9 (fun t => u (ld t))).mpr ⟨u, fun _ _ => rfl, hu⟩
    exact ⟨_, hv, hq _ hv⟩
  · rw [if_neg q]
    obtain ⟨z1, res, d1, d2, d3⟩ := s_try hD hls hlt
    rw [d1, Option.bind_some]
    dsimp only
    rcases d3 with ⟨rfl, hno⟩ | ⟨rfl, ⟨v, v1, v2⟩, -⟩
    · rw [if_pos rfl]
      exact ⟨z1, 0, rfl, ⟨m, ld, ls, od, K, F, S, ps, e, d2⟩, Or.inl ⟨rfl, fun v hv he => hno v hv (by rw [hD.v_ld hv hs, hD.v_ld hv ht]; exact he)⟩⟩
    · rw [if_neg (show ¬ (1 : Int32) = 0 by decide)]
      refine ⟨z1, 1, rfl, ⟨m, ld, ls, od, K, F, S, ps, e, d2⟩, Or.inr ⟨rfl, v, v1, ?_⟩⟩
      rw [hD.v_ld v1 hs, hD.v_ld v1 ht] at v2; exact v2
theorem s_same {z : St} {n s t : Nat} {M : (Nat → Nat) → Prop} (h : XI z n M) (hs : s < n) (ht : t < n) : ∃ res, f_X_same z (nI s) (nI t) = some ((0, res), z) ∧ ((res = 1 ∧ ∀ v, M v → v s = v t) ∨ (res = 0 ∧ ¬ ∀ v, M v → v s = v t)) := by
  obtain ⟨m, ld, ls, od, K, F, S, ps, e, hD⟩ := h
  obtain ⟨⟨a1, a2, a3, a4⟩, ⟨b1, b2⟩, c1, c2, -⟩ := id hD
  have hls := (c2 s hs).1
  have hlt := (c2 t ht).1
  unfold f_X_same
  rw [s_leader_ok b1 c1 a2 hs, Option.bind_some]
  dsimp only
  rw [if_pos rfl, s_leader_ok b1 c1 a2 ht, Option.bind_some]
  dsimp only
  rw [if_pos rfl]
  simp only [neq (show ld s < 2 ^ 31 by omega) (show ld t < 2 ^ 31 by omega)]
  by_cases q : ld s = ld t
  · rw [if_pos q]; exact ⟨1, rfl, Or.inl ⟨rfl, (hD.same hs ht).mpr q⟩⟩
  · rw [if_neg q]; exact ⟨0, rfl, Or.inr ⟨rfl, fun p => q ((hD.same hs ht).mp p)⟩⟩
theorem s_two_no {z : St} {n : Nat} {a b : Int32} {M : (Nat → Nat) → Prop} (h : XI z n M) (hab : noT n a ∨ noT n b) {f : St → Int32 → Int32 → Option ((Nat × Int32) × St)} {g : (Nat × Int32) × St → (Nat × Int32) × St → Option ((Nat × Int32) × St)}
    (hf : f z a b = (f_X_leaderOf z a).bind fun q1 => (if q1.1.1 = 0 then ((f_X_leaderOf q1.2 b).bind fun q2 => (if q2.1.1 = 0 then g q1 q2 else some ((q2.1.1, 0), q2.2))) else some ((q1.1.1, 0), q1.2))) : f z a b = some ((1, 0), z) := by
  obtain ⟨h0, h1, h6⟩ := h.made
  rw [hf]
  rcases is_T a h6 with ha | ⟨s, hs, rfl⟩
  · rw [s_leader_no h0 ha, Option.bind_some]; rfl
  · obtain ⟨l, hl⟩ := h.lead hs
    rw [hl, Option.bind_some]
    dsimp only
    rw [if_pos rfl]
    rcases hab with hab | hb
    · exact absurd hab (fun q => by
        rcases q with q | q
        · exact nI_pos (by omega) q
        · exact nI_ge hs (by omega) q)
    · rw [s_leader_no h0 hb, Option.bind_some]; rfl
theorem s_join_no {z : St} {n : Nat} {a b : Int32} {M : (Nat → Nat) → Prop} (h : XI z n M) (hab : noT n a ∨ noT n b) : f_X_join z a b = some ((1, 0), z) := s_two_no h hab rfl
theorem s_alike_no {z : St} {n : Nat} {a b : Int32} {M : (Nat → Nat) → Prop} (h : XI z n M) (hab : noT n a ∨ noT n b) : f_X_alike z a b = some ((1, 0), z) := s_two_no h hab rfl
theorem s_same_no {z : St} {n : Nat} {a b : Int32} {M : (Nat → Nat) → Prop} (h : XI z n M) (hab : noT n a ∨ noT n b) : f_X_same z a b = some ((1, 0), z) := s_two_no h hab rfl
theorem s_renamed_no {z : St} {n : Nat} {a b : Int32} {M : (Nat → Nat) → Prop} (h : XI z n M) (hab : noT n a ∨ noT n b) : f_X_renamed z a b = some ((1, 0), z) := s_two_no h hab rfl
theorem s_one_no {z : St} {n : Nat} {a : Int32} {M : (Nat → Nat) → Prop} (h : XI z n M) (ha : noT n a) : f_X_kind z a = some ((1, 0), z) ∧ (∀ b, f_X_part z a b = some ((1, 0), z)) ∧ f_X_size z a = some ((1, 0), z) ∧ f_X_values z a = some ((1, 0), z) ∧ f_X_frees z a = some ((1, 0), z) := by
  obtain ⟨h0, h1, h6⟩ := h.made
  unfold f_X_kind f_X_part f_X_size f_X_values f_X_frees
  rw [s_leader_no h0 ha]
  exact ⟨rfl, fun _ => rfl, rfl, rfl, rfl⟩
theorem s_kind {z : St} {n m e t : Nat} {M : (Nat → Nat) → Prop} {ld ls od K F S ps : Nat → Nat} (hD : XD z n M m ld ls od K F S ps e) (ht : t < n) : f_X_kind z (nI t) = some ((0, nI (K (ld t))), z) := by
  obtain ⟨⟨a1, a2, a3, a4⟩, ⟨b1, b2⟩, c1, c2, c3, -⟩ := id hD
  have hlt := (c2 t ht).1
  unfold f_X_kind
  rw [s_leader_ok b1 c1 a2 ht, Option.bind_some]
  dsimp only
  rw [if_pos rfl, ix_f (by omega) (by decide), cl_ (by omega), (c3 _ ⟨hlt, (c2 t ht).2⟩).1]
theorem s_part {z : St} {n m e t : Nat} {b : Int32} {M : (Nat → Nat) → Prop} {ld ls od K F S ps : Nat → Nat} (hD : XD z n M m ld ls od K F S ps e) (ht : t < n) : f_X_part z (nI t) b = some (if 2 ≤ K (ld t) then (0, nI (ls (if b = 0 then F (ld t) else S (ld t)))) else (1, 0), z) := by
  obtain ⟨⟨a1, a2, a3, a4⟩, ⟨b1, b2⟩, c1, c2, c3, c4, c5, c6, c7, c8, -⟩ := id hD
  have hlt := (c2 t ht).1
  have hL : LD n ld (ld t) := ⟨hlt, (c2 t ht).2⟩
  unfold f_X_part
  rw [s_leader_ok b1 c1 a2 ht, Option.bind_some]
  dsimp only
  rw [if_pos rfl, s_hasParts (by omega) (c3 _ hL).1 (c8.2.2.1 _ hL).1, Option.bind_some]
  by_cases q : 2 ≤ K (ld t)
  · simp only [if_pos q]
    obtain ⟨p1, p2⟩ := (c3 _ hL).2 q
    obtain ⟨p3, p4, -, -⟩ := (c8.2.2.1 _ hL).2 q
    have p5 := p3.1
    have p6 := p4.1
    rw [if_neg (show ¬ (1 : Int32) = 0 by decide)]
    simp only [ix_g (show ld t < 1000 by omega) (show 1000 < 2 ^ 31 by decide), cl_ (show ld t < 2 ^ 31 by omega), p1, p2, ix_g (show F (ld t) < 1000 by omega) (show 1000 < 2 ^ 31 by decide), ix_g (show S (ld t) < 1000 by omega) (show 1000 < 2 ^ 31 by decide), cl_ (show F (ld t) < 2 ^ 31 by omega), cl_ (show S (ld t) < 2 ^ 31 by omega), (c4 _ p3).1, (c4 _ p4).1]
    by_cases qb : b = 0
    · rw [if_pos qb, if_pos qb]
    · rw [if_neg qb, if_neg qb]
  · simp only [if_neg q]; rfl
