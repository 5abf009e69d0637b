/-! The slots of the sums and pairs: twinOf, enter, forgetWholes. -/
def slN (k f s : Nat) : Nat := ((f * 31 + s) * 2 + k) % 251
theorem s_slotOf {z : St} {x k f s : Nat} (hx : x < 1000) (h6 : z.2 6 x = nI k) (h7 : z.2 7 x = nI f) (h8 : z.2 8 x = nI s) (hk : k < 4) (hf : f < 1000) (hs : s < 1000) : f_S_slotOf z (nI x) = some (nI (slN k f s), z) := by
  unfold f_S_slotOf
  simp only [ix_g hx (show 1000 < 2 ^ 31 by decide), cl_ (show x < 2 ^ 31 by omega), h6, h7, h8]
  rw [show (31 : Int32) = nI 31 by decide, i2, show (251 : Int32) = nI 251 by decide, pk_mul, nI_add, pk_mul, nI_add, pk_rem (by omega) (by decide) (by decide)]
  rfl
theorem s_equalShapes {z : St} {x y k f s k' f' s' : Nat} (hx : x < 1000) (hy : y < 1000) (h6 : z.2 6 x = nI k) (h7 : z.2 7 x = nI f) (h8 : z.2 8 x = nI s) (g6 : z.2 6 y = nI k') (g7 : z.2 7 y = nI f') (g8 : z.2 8 y = nI s') (hk : k < 1000) (hf : f < 1000) (hs : s < 1000) (hk' : k' < 1000) (hf' : f' < 1000) (hs' : s' < 1000) :
    f_S_equalShapes z (nI x) (nI y) = some (if k = k' ∧ f = f' ∧ s = s' then 1 else 0, z) := by
  unfold f_S_equalShapes
  simp only [ix_g hx (show 1000 < 2 ^ 31 by decide), ix_g hy (show 1000 < 2 ^ 31 by decide), cl_ (show x < 2 ^ 31 by omega), cl_ (show y < 2 ^ 31 by omega), h6, h7, h8, g6, g7, g8, neq (show k < 2 ^ 31 by omega) (show k' < 2 ^ 31 by omega), neq (show f < 2 ^ 31 by omega) (show f' < 2 ^ 31 by omega), neq (show s < 2 ^ 31 by omega) (show s' < 2 ^ 31 by omega)]
  by_cases e1 : k = k'
  · rw [if_pos e1]
    by_cases e2 : f = f'
    · rw [if_pos e2]
      by_cases e3 : s = s'
      · rw [if_pos e3, if_pos ⟨e1, e2, e3⟩]
      · rw [if_neg e3, if_neg (fun q => e3 q.2.2)]
    · rw [if_neg e2, if_neg (fun q => e2 q.2.1)]
  · rw [if_neg e1, if_neg (fun q => e1 q.1)]
/-- from h on the row of the next ones leads through l -/
def chn (z : St) : Int32 → List Nat → Prop
  | h, [] => h = -1
  | h, x :: l => h = nI x ∧ x < 1000 ∧ chn z (z.2 10 x) l
theorem chn.up {z z' : St} : ∀ (l : List Nat) (h : Int32), chn z h l → (∀ x, x ∈ l → z'.2 10 x = z.2 10 x) → chn z' h l := by
  intro l
  induction l with
  | nil => intro h hc _; exact hc
  | cons x l ih =>
    intro h hc hk
    exact ⟨hc.1, hc.2.1, by rw [hk x List.mem_cons_self]; exact ih _ hc.2.2 (fun y hy => hk y (List.mem_cons_of_mem _ hy))⟩
/-- the slots hold just the types E, e of them at most -/
def HS (z : St) (E : Nat → Prop) (K F S : Nat → Nat) (e : Nat) : Prop :=
  ∃ ch : Nat → List Nat, (∀ j, j < 251 → chn z (z.2 9 j) (ch j) ∧ (ch j).length ≤ e ∧ ∀ x, x ∈ ch j → E x ∧ slN (K x) (F x) (S x) = j) ∧ ∀ x, E x → x ∈ ch (slN (K x) (F x) (S x))
theorem HS.keep {z z' : St} {E : Nat → Prop} {K F S : Nat → Nat} {e : Nat} (h : HS z E K F S e) (h9 : z'.2 9 = z.2 9) (h10 : z'.2 10 = z.2 10) : HS z' E K F S e := by
  obtain ⟨ch, h1, h2⟩ := h
  exact ⟨ch, fun j hj => ⟨by rw [h9]; exact chn.up _ _ (h1 j hj).1 (fun x _ => by rw [h10]), (h1 j hj).2⟩, h2⟩
theorem HS.cong {z : St} {E E' : Nat → Prop} {K F S K' F' S' : Nat → Nat} {e : Nat} (h : HS z E K F S e) (hE : ∀ x, E' x ↔ E x) (hK : ∀ x, E x → K' x = K x ∧ F' x = F x ∧ S' x = S x) : HS z E' K' F' S' e := by
  obtain ⟨ch, h1, h2⟩ := h
  refine ⟨ch, fun j hj => ⟨(h1 j hj).1, (h1 j hj).2.1, fun x hx => ?_⟩, fun x hx => ?_⟩
  · obtain ⟨q1, q2⟩ := (h1 j hj).2.2 x hx
    obtain ⟨k1, k2, k3⟩ := hK x q1
    exact ⟨(hE x).mpr q1, by rw [k1, k2, k3]; exact q2⟩
  · have q1 := (hE x).mp hx
    obtain ⟨k1, k2, k3⟩ := hK x q1
    rw [k1, k2, k3]; exact h2 x q1
/-- rows of what is entered -/
def shE (z : St) (E : Nat → Prop) (K F S : Nat → Nat) : Prop := ∀ x, E x → x < 1000 ∧ z.2 6 x = nI (K x) ∧ z.2 7 x = nI (F x) ∧ z.2 8 x = nI (S x) ∧ K x < 4 ∧ F x < 1000 ∧ S x < 1000
theorem s_twin_l {z : St} {E : Nat → Prop} {K F S : Nat → Nat} {a k0 f0 s0 : Nat} (hE : shE z E K F S) (ha : a < 1000) (h6 : z.2 6 a = nI k0) (h7 : z.2 7 a = nI f0) (h8 : z.2 8 a = nI s0) (hk0 : k0 < 4) (hf0 : f0 < 1000) (hs0 : s0 < 1000) : ∀ (l : List Nat) (k st : Nat) (h : Int32),
    chn z h l → (∀ x, x ∈ l → E x) → l.length < k → st + l.length < 1000 →
    ∃ res, f_S_twinOf_l13 k z (nI st) h (nI a) = some (res, z) ∧ ((∃ x, x ∈ l ∧ K x = k0 ∧ F x = f0 ∧ S x = s0 ∧ res = nI x) ∨ (res = -1 ∧ ∀ x, x ∈ l → ¬ (K x = k0 ∧ F x = f0 ∧ S x = s0))) := by
  intro l
  induction l with
  | nil =>
    intro k st h hc _ hk hst
    cases k with
    | zero => simp at hk
    | succ k =>
      have hh : h = -1 := hc
      subst hh
      rw [f_S_twinOf_l13, if_neg (le1000 (by simpa using hst)), if_pos rfl]
      exact ⟨-1, rfl, Or.inr ⟨rfl, fun x hx => by cases hx⟩⟩
  | cons x l ih =>
    intro k st h hc hl hk hst
    cases k with
    | zero => simp at hk
    | succ k =>
      obtain ⟨rfl, hx, hc'⟩ := hc
      simp only [List.length_cons] at hk hst
      obtain ⟨-, g6, g7, g8, gk, gf, gs⟩ := hE x (hl x List.mem_cons_self)
      rw [f_S_twinOf_l13, if_neg (le1000 (by omega)), if_neg (im1 (by omega)), s_equalShapes hx ha g6 g7 g8 h6 h7 h8 (by omega) gf gs (by omega) hf0 hs0, Option.bind_some]
      by_cases e : K x = k0 ∧ F x = f0 ∧ S x = s0
      · simp only [if_pos e]
        rw [if_neg (show ¬ (1 : Int32) = 0 by decide)]
        exact ⟨nI x, rfl, Or.inl ⟨x, List.mem_cons_self, e.1, e.2.1, e.2.2, rfl⟩⟩
      · simp only [if_neg e]
        rw [if_pos trivial, ix_f hx (by decide), cl_ (by omega), nI_1]
        obtain ⟨res, h1, h2⟩ := ih k (st + 1) _ hc' (fun y hy => hl y (List.mem_cons_of_mem _ hy)) (by omega) (by omega)
        refine ⟨res, h1, ?_⟩
        rcases h2 with ⟨y, q1, q2⟩ | ⟨q1, q2⟩
        · exact Or.inl ⟨y, List.mem_cons_of_mem _ q1, q2⟩
        · refine Or.inr ⟨q1, fun y hy => ?_⟩
          rcases List.mem_cons.mp hy with q | q
          · rw [q]; exact e
          · exact q2 y q
theorem slN_lt (k f s : Nat) : slN k f s < 251 := Nat.mod_lt _ (by decide)
theorem s_twinOf {z : St} {E : Nat → Prop} {K F S : Nat → Nat} {a k0 f0 s0 e : Nat} (hH : HS z E K F S e) (he : e ≤ 900) (hE : shE z E K F S) (ha : a < 1000) (h6 : z.2 6 a = nI k0) (h7 : z.2 7 a = nI f0) (h8 : z.2 8 a = nI s0) (hk0 : k0 < 4) (hf0 : f0 < 1000) (hs0 : s0 < 1000) :
    ∃ res, f_S_twinOf z (nI a) = some (res, z) ∧ ((∃ x, E x ∧ K x = k0 ∧ F x = f0 ∧ S x = s0 ∧ res = nI x) ∨ (res = -1 ∧ ∀ x, E x → ¬ (K x = k0 ∧ F x = f0 ∧ S x = s0))) := by
  obtain ⟨ch, c1, c2⟩ := hH
  have hj := slN_lt k0 f0 s0
  obtain ⟨q1, q2, q3⟩ := c1 _ hj
  unfold f_S_twinOf
  rw [s_slotOf ha h6 h7 h8 hk0 hf0 hs0, Option.bind_some]
  dsimp only
  rw [ix_f hj (by decide), cl_ (by omega)]
  obtain ⟨res, r1, r2⟩ := s_twin_l hE ha h6 h7 h8 hk0 hf0 hs0 (ch (slN k0 f0 s0)) FU 0 _ q1 (fun x hx => (q3 x hx).1) (by unfold FU; omega) (by omega)
  rw [nI_0] at r1
  refine ⟨res, r1, ?_⟩
  rcases r2 with ⟨x, p1, p2⟩ | ⟨p1, p2⟩
  · exact Or.inl ⟨x, (q3 x p1).1, p2⟩
  · refine Or.inr ⟨p1, fun x hx q => ?_⟩
    have := c2 x hx
    rw [q.1, q.2.1, q.2.2] at this
    exact p2 x this q
theorem s_enter {z : St} {E : Nat → Prop} {K F S : Nat → Nat} {a e : Nat} (hH : HS z E K F S e) (ha : a < 1000) (hn : ¬ E a) (h6 : z.2 6 a = nI (K a)) (h7 : z.2 7 a = nI (F a)) (h8 : z.2 8 a = nI (S a)) (hk0 : K a < 4) (hf0 : F a < 1000) (hs0 : S a < 1000) :
    ∃ z', f_S_enter z (nI a) = some z' ∧ HS z' (fun x => E x ∨ x = a) K F S (e + 1) ∧ on [9, 10] z z' := by
  obtain ⟨ch, c1, c2⟩ := hH
  have hj := slN_lt (K a) (F a) (S a)
  unfold f_S_enter
  rw [s_slotOf ha h6 h7 h8 hk0 hf0 hs0, Option.bind_some]
  dsimp only
  simp only [ix_f hj (show 251 < 2 ^ 31 by decide), ix_f ha (show 1000 < 2 ^ 31 by decide), cl_ (show slN (K a) (F a) (S a) < 2 ^ 31 by omega), cl_ (show a < 2 ^ 31 by omega)]
  rw [ix_g hj (by decide), ix_g ha (by decide), ix_g hj (by decide)]
  refine ⟨_, rfl, ⟨fun j => if j = slN (K a) (F a) (S a) then a :: ch j else ch j, fun j hjj => ?_, fun x hx => ?_⟩, (on.war (by simp)).tr (on.war (by simp))⟩
  · have hnot : ∀ j, j < 251 → a ∉ ch j := fun j hj q => hn (((c1 j hj).2.2 a q).1)
    have keep : ∀ j, j < 251 → ∀ x, x ∈ ch j → (war (war z 10 a (z.2 9 (slN (K a) (F a) (S a)))) 9 (slN (K a) (F a) (S a)) (nI a)).2 10 x = z.2 10 x := fun j hj x hx => by
      rw [war_n _ _ (by decide), war_i _ _ (fun q => hnot j hj (by rw [← q]; exact hx))]
    by_cases e1 : j = slN (K a) (F a) (S a)
    · subst e1
      dsimp only
      rw [if_pos rfl]
      refine ⟨⟨war_s _ _ _ _, ha, ?_⟩, ?_, fun x hx => ?_⟩
      · rw [war_n _ _ (by decide), war_s]
        exact chn.up _ _ (c1 _ hjj).1 (keep _ hjj)
      · rw [List.length_cons]; have := (c1 _ hjj).2.1; omega
      · rcases List.mem_cons.mp hx with q | q
        · rw [q]; exact ⟨Or.inr rfl, rfl⟩
        · obtain ⟨p1, p2⟩ := (c1 _ hjj).2.2 x q
          exact ⟨Or.inl p1, p2⟩
    · dsimp only
      rw [if_neg e1]
      refine ⟨?_, by have := (c1 _ hjj).2.1; omega, fun x hx => ?_⟩
      · rw [war_i _ _ e1, war_n _ _ (by decide)]
        exact chn.up _ _ (c1 _ hjj).1 (keep _ hjj)
      · obtain ⟨p1, p2⟩ := (c1 _ hjj).2.2 x hx
        exact ⟨Or.inl p1, p2⟩
  · dsimp only
    rcases hx with hx | hx
    · by_cases e1 : slN (K x) (F x) (S x) = slN (K a) (F a) (S a)
      · rw [if_pos e1]; exact List.mem_cons_of_mem _ (c2 x hx)
      · rw [if_neg e1]; exact c2 x hx
    · rw [hx, if_pos rfl]; exact List.mem_cons_self
theorem s_forget (z : St) (K F S : Nat → Nat) : ∃ z', f_S_forgetWholes z = some z' ∧ HS z' (fun _ => False) K F S 0 ∧ on [9] z z' := by
  unfold f_S_forgetWholes
  obtain ⟨g, h1, h2⟩ := s_fill2 (N := 251) (z.2 9) (-1) (by decide)
  rw [h1, Option.bind_some]
  refine ⟨_, rfl, ⟨fun _ => [], fun j hj => ⟨?_, Nat.le_refl _, fun x hx => by cases hx⟩, fun x hx => hx.elim⟩, on.wal (by simp)⟩
  show (wal z 9 g).2 9 j = -1
  rw [wal_s, h2 j hj]
