/-! TypeBench: layDown, layOutFrom. -/
theorem first_mem {x : Nat} : ∀ {l : List Nat}, x ∈ l → ∃ l1 l2, l = l1 ++ x :: l2 ∧ x ∉ l1 := by
  intro l
  induction l with
  | nil => intro h; cases h
  | cons y l ih =>
    intro h
    by_cases e : x = y
    · subst e; exact ⟨[], l, rfl, List.not_mem_nil⟩
    · rcases List.mem_cons.mp h with h | h
      · exact absurd h e
      · obtain ⟨l1, l2, h1, h2⟩ := ih h
        refine ⟨y :: l1, l2, by rw [h1]; rfl, fun q => ?_⟩
        rcases List.mem_cons.mp q with q | q
        · exact e q
        · exact h2 q
theorem app_split {y : Nat} {l l3 : List Nat} : ∀ (l' l1 : List Nat), l' ++ l = l1 ++ y :: l3 → y ∉ l' → ∃ k, l1 = l' ++ k ∧ l = k ++ y :: l3 := by
  intro l'
  induction l' with
  | nil => intro l1 h _; exact ⟨l1, rfl, h⟩
  | cons a l' ih =>
    intro l1 h hn
    cases l1 with
    | nil =>
      simp only [List.cons_append, List.nil_append, List.cons.injEq] at h
      exact absurd (by rw [h.1]; exact List.mem_cons_self) hn
    | cons b l1 =>
      simp only [List.cons_append, List.cons.injEq] at h
      obtain ⟨k, h1, h2⟩ := ih l1 h.2 (fun q => hn (List.mem_cons_of_mem _ q))
      exact ⟨k, by rw [h1, h.1]; rfl, h2⟩
/-- the marks and the types laid down so far: parts before wholes -/
def LO (z : St) (n : Nat) (K F S r mk tr : Nat → Nat) (c : Nat) : Prop :=
  ro z 4 n mk ∧ (∀ t, t < n → mk t ≤ 2) ∧ z.1 2 = nI c ∧ c = ct (fun t => decide (mk t = 2)) n ∧
  (∀ i, i < c → z.2 5 i = nI (tr i) ∧ tr i < n ∧ r (tr i) = tr i ∧ mk (tr i) = 2 ∧ (2 ≤ K (tr i) → (∃ j, j < i ∧ tr j = r (F (tr i))) ∧ (∃ j, j < i ∧ tr j = r (S (tr i))))) ∧
  (∀ x, x < n → mk x = 2 → ∃ i, i < c ∧ tr i = x) ∧ (∀ i j, i < c → j < c → tr i = tr j → i = j)
/-- the pile: what is open stands in it, above it its parts that aren't laid down yet -/
def LPi (n : Nat) (K F S r mk : Nat → Nat) (l : List Nat) : Prop :=
  (∀ e, e ∈ l → e < n ∧ r e = e) ∧ (∀ x, x < n → mk x = 1 → x ∈ l) ∧
  (∀ l1 x l2, l = l1 ++ x :: l2 → x ∉ l1 → mk x = 1 → 2 ≤ K x → (mk (r (F x)) = 2 ∨ r (F x) ∈ l1) ∧ (mk (r (S x)) = 2 ∨ r (S x) ∈ l1))
def LQ (mk : Nat → Nat) (l : List Nat) (v : Nat → Nat) : Prop := ∀ l1 x l2, l = l1 ++ x :: l2 → x ∉ l1 → mk x = 1 → ∀ e, e ∈ l1 → v e < v x
def uns (n : Nat) (mk : Nat → Nat) : Nat := ct (fun t => decide (mk t = 0)) n
theorem le4000 {st : Nat} (h : st < 4000) : ¬ (4000 : Int32) ≤ nI st := by
  rw [show (4000 : Int32) = nI 4000 by decide]; exact nI_ge h (by decide)
/-- the top is opened: the marks but for it are as they were -/
theorem LO.opened {z z' : St} {n c x : Nat} {K F S r mk tr : Nat → Nat} (h : LO z n K F S r mk tr c) (hx : mk x = 0) (h4 : ro z' 4 n (us_up mk x 1)) (h5 : z'.2 5 = z.2 5) (h2 : z'.1 2 = z.1 2) : LO z' n K F S r (us_up mk x 1) tr c := by
  obtain ⟨a1, a2, a3, a4, a5, a6, a7⟩ := h
  have e2 : ∀ t, us_up mk x 1 t = 2 ↔ mk t = 2 := fun t => by
    by_cases e : t = x
    · subst e; rw [us_up_s, hx]; constructor <;> intro q <;> omega
    · rw [us_up_n _ e]
  refine ⟨h4, fun t ht => ?_, h2.trans a3, ?_, fun i hi => ?_, fun y hy hm => a6 y hy ((e2 y).mp hm), a7⟩
  · by_cases e : t = x
    · subst e; rw [us_up_s]; omega
    · rw [us_up_n _ e]; exact a2 t ht
  · rw [a4]; exact ct_congr n (fun t _ => by simp only [e2 t])
  · obtain ⟨b1, b2, b3, b4, b5⟩ := a5 i hi
    exact ⟨by rw [h5]; exact b1, b2, b3, (e2 _).mpr b4, b5⟩
theorem uns_open {n x : Nat} {mk : Nat → Nat} (hx : x < n) (h : mk x = 0) {w : Nat} (hw : w ≠ 0) : uns n (us_up mk x w) + 1 = uns n mk :=
  ct_flip (x := x) (by simp [h]) (by simp [us_up_s, hw]) (fun t ht => by simp [us_up_n _ ht]) n hx
theorem s_layDown {z : St} {n c x : Nat} {K F S r mk tr : Nat → Nat} (hn : n ≤ 1000) (h : LO z n K F S r mk tr c) (hx : x < n) (hrx : r x = x) (h0 : mk x ≠ 0) (hparts : mk x = 1 → 2 ≤ K x → r (F x) < n ∧ r (S x) < n ∧ mk (r (F x)) = 2 ∧ mk (r (S x)) = 2) :
    ∃ z' mk' tr' c', f_X_layDown z (nI x) = some z' ∧ LO z' n K F S r mk' tr' c' ∧ (∀ t, t ≠ x → mk' t = mk t) ∧ mk' x = 2 ∧ (∀ k, k ≠ 2 → z'.1 k = z.1 k) ∧ (∀ k, k ≠ 4 → k ≠ 5 → z'.2 k = z.2 k) := by
  obtain ⟨a1, a2, a3, a4, a5, a6, a7⟩ := id h
  have hm2 := a2 x hx
  unfold f_X_layDown
  simp only [ix_g (show x < 1000 by omega) (show 1000 < 2 ^ 31 by decide), cl_ (show x < 2 ^ 31 by omega), a1 x hx, n1 (show mk x < 2 ^ 31 by omega)]
  by_cases e : mk x = 1
  · rw [if_pos e]
    have hflip := ct_flip (p := fun t => decide (us_up mk x 2 t = 2)) (p' := fun t => decide (mk t = 2)) (x := x) (by simp [us_up_s]) (by simp [e]) (fun t ht => by simp [us_up_n _ ht]) n hx
    have hle := ct_le (fun t => decide (us_up mk x 2 t = 2)) n
    have hc : c < n := by omega
    simp only [war_1, a3, ix_g (show c < 1000 by omega) (show 1000 < 2 ^ 31 by decide), cl_ (show c < 2 ^ 31 by omega), nI_1]
    refine ⟨_, us_up mk x 2, us_up tr c x, c + 1, rfl, ⟨?_, fun t ht => ?_, wsc_s _ _ _, by omega, fun i hi => ?_, fun y hy hm => ?_, fun i j hi hj he => ?_⟩, fun t ht => us_up_n _ ht, us_up_s _ _ _, fun k hk => by rw [wsc_n _ _ hk]; rfl, fun k h1 h2 => by rw [wsc_2, war_n _ _ h2, war_n _ _ h1]⟩
    · refine ro.keep (z := war z 4 x 2) (a1.set _ i2) ?_
      rw [wsc_2, war_n _ _ (by decide)]
    · by_cases q : t = x
      · subst q; rw [us_up_s]; omega
      · rw [us_up_n _ q]; exact a2 t ht
    · by_cases q : i = c
      · subst q
        rw [us_up_s]
        refine ⟨by rw [wsc_2, war_s], hx, hrx, us_up_s _ _ _, fun hk => ?_⟩
        obtain ⟨p1, p2, p3, p4⟩ := hparts e hk
        obtain ⟨j1, hj1, e1⟩ := a6 _ p1 p3
        obtain ⟨j2, hj2, e2⟩ := a6 _ p2 p4
        exact ⟨⟨j1, hj1, by rw [us_up_n _ (by omega)]; exact e1⟩, ⟨j2, hj2, by rw [us_up_n _ (by omega)]; exact e2⟩⟩
      · have hi' : i < c := by omega
        obtain ⟨b1, b2, b3, b4, b5⟩ := a5 i hi'
        rw [us_up_n _ q]
        refine ⟨by rw [wsc_2, war_i _ _ q, war_n _ _ (by decide)]; exact b1, b2, b3, ?_, fun hk => ?_⟩
        · rw [us_up_n _ (fun q2 => by rw [q2] at b4; omega)]; exact b4
        · obtain ⟨⟨j1, hj1, e1⟩, ⟨j2, hj2, e2⟩⟩ := b5 hk
          exact ⟨⟨j1, hj1, by rw [us_up_n _ (by omega)]; exact e1⟩, ⟨j2, hj2, by rw [us_up_n _ (by omega)]; exact e2⟩⟩
    · by_cases q : y = x
      · exact ⟨c, by omega, by rw [us_up_s, q]⟩
      · rw [us_up_n _ q] at hm
        obtain ⟨i, hi, e1⟩ := a6 y hy hm
        exact ⟨i, by omega, by rw [us_up_n _ (by omega)]; exact e1⟩
    · have key : ∀ i, i < c → tr i ≠ x := fun i hi q => by have := (a5 i hi).2.2.2.1; rw [q] at this; omega
      by_cases q1 : i = c <;> by_cases q2 : j = c
      · omega
      · subst q1
        rw [us_up_s, us_up_n _ q2] at he
        exact absurd he.symm (key j (by omega))
      · subst q2
        rw [us_up_s, us_up_n _ q1] at he
        exact absurd he (key i (by omega))
      · rw [us_up_n _ q1, us_up_n _ q2] at he
        exact a7 i j (by omega) (by omega) he
  · rw [if_neg e]
    exact ⟨z, mk, tr, c, rfl, h, fun _ _ => rfl, by omega, fun _ _ => rfl, fun _ _ _ => rfl⟩
/-- one is taken from the pile: what holds of the rest -/
theorem LPi.pop {n x : Nat} {K F S r mk mk' : Nat → Nat} {l : List Nat} (h : LPi n K F S r mk (x :: l)) (ho : ∀ t, t ≠ x → mk' t = mk t) (hx : mk' x = 2) : LPi n K F S r mk' l := by
  obtain ⟨h1, h2, h3⟩ := h
  have up2 : ∀ t, mk t = 2 → mk' t = 2 := fun t ht => by
    by_cases e : t = x
    · rw [e]; exact hx
    · rw [ho t e]; exact ht
  refine ⟨fun e he => h1 e (List.mem_cons_of_mem _ he), fun y hy hm => ?_, fun l1 y l2 hl hn hm hk => ?_⟩
  · have e : y ≠ x := fun e => by rw [e, hx] at hm; omega
    rw [ho y e] at hm
    rcases List.mem_cons.mp (h2 y hy hm) with q | q
    · exact absurd q e
    · exact q
  · have e : y ≠ x := fun e => by rw [e, hx] at hm; omega
    rw [ho y e] at hm
    obtain ⟨p1, p2⟩ := h3 (x :: l1) y l2 (by rw [hl]; rfl) (fun q => (List.mem_cons.mp q).elim e hn) hm hk
    refine ⟨?_, ?_⟩
    · rcases p1 with p | p
      · exact Or.inl (up2 _ p)
      · rcases List.mem_cons.mp p with p | p
        · exact Or.inl (by rw [p]; exact hx)
        · exact Or.inr p
    · rcases p2 with p | p
      · exact Or.inl (up2 _ p)
      · rcases List.mem_cons.mp p with p | p
        · exact Or.inl (by rw [p]; exact hx)
        · exact Or.inr p
theorem LQ.pop {x : Nat} {mk mk' : Nat → Nat} {l : List Nat} {v : Nat → Nat} (h : LQ mk (x :: l) v) (ho : ∀ t, t ≠ x → mk' t = mk t) (hx : mk' x = 2) : LQ mk' l v := by
  intro l1 y l2 hl hn hm e he
  have q : y ≠ x := fun q => by rw [q, hx] at hm; omega
  rw [ho y q] at hm
  exact h (x :: l1) y l2 (by rw [hl]; rfl) (fun p => (List.mem_cons.mp p).elim q hn) hm e (List.mem_cons_of_mem _ he)
/-- the top is opened, its unseen parts lie above it -/
theorem LPi.push {n x : Nat} {K F S r mk : Nat → Nat} {l l' : List Nat} (h : LPi n K F S r mk (x :: l)) (hx : mk x = 0) (hl' : ∀ e, e ∈ l' → (e < n ∧ r e = e) ∧ us_up mk x 1 e = 0)
    (hparts : 2 ≤ K x → (us_up mk x 1 (r (F x)) = 2 ∨ r (F x) ∈ l') ∧ (us_up mk x 1 (r (S x)) = 2 ∨ r (S x) ∈ l')) : LPi n K F S r (us_up mk x 1) (l' ++ (x :: l)) := by
  obtain ⟨h1, h2, h3⟩ := h
  have up2 : ∀ t, mk t = 2 → us_up mk x 1 t = 2 := fun t ht => by
    rw [us_up_n _ (fun e => by rw [e] at ht; omega)]; exact ht
  refine ⟨fun e he => ?_, fun y hy hm => ?_, fun l1 y l2 hl hn hm hk => ?_⟩
  · rcases List.mem_append.mp he with he | he
    · exact (hl' e he).1
    · exact h1 e he
  · by_cases e : y = x
    · rw [e]; exact List.mem_append_right _ List.mem_cons_self
    · rw [us_up_n _ e] at hm
      exact List.mem_append_right _ (h2 y hy hm)
  · have hy' : y ∉ l' := fun q => by have := (hl' y q).2; omega
    obtain ⟨k, e1, e2⟩ := app_split l' l1 hl hy'
    by_cases e : y = x
    · subst e
      have hk0 : k = [] := by
        cases k with
        | nil => rfl
        | cons b k =>
          simp only [List.cons_append, List.cons.injEq] at e2
          exact absurd (by rw [e1, ← e2.1]; exact List.mem_append_right _ List.mem_cons_self) hn
      rw [e1, hk0, List.append_nil]
      exact hparts hk
    · rw [us_up_n _ e] at hm
      obtain ⟨p1, p2⟩ := h3 k y l2 e2 (fun q => hn (by rw [e1]; exact List.mem_append_right _ q)) hm hk
      rw [e1]
      exact ⟨p1.elim (fun p => Or.inl (up2 _ p)) (fun p => Or.inr (List.mem_append_right _ p)), p2.elim (fun p => Or.inl (up2 _ p)) (fun p => Or.inr (List.mem_append_right _ p))⟩
theorem LQ.push {x : Nat} {mk : Nat → Nat} {l l' : List Nat} {v : Nat → Nat} (h : LQ mk (x :: l) v) (hl' : ∀ e, e ∈ l' → us_up mk x 1 e = 0) (hv : ∀ e, e ∈ l' → v e < v x) : LQ (us_up mk x 1) (l' ++ (x :: l)) v := by
  intro l1 y l2 hl hn hm e he
  have hy' : y ∉ l' := fun q => by have := hl' y q; omega
  obtain ⟨k, e1, e2⟩ := app_split l' l1 hl hy'
  by_cases q : y = x
  · subst q
    have hk0 : k = [] := by
      cases k with
      | nil => rfl
      | cons b k =>
        simp only [List.cons_append, List.cons.injEq] at e2
        exact absurd (by rw [e1, ← e2.1]; exact List.mem_append_right _ List.mem_cons_self) hn
    rw [e1, hk0, List.append_nil] at he
    exact hv e he
  · rw [us_up_n _ q] at hm
    have hxk : x ∈ k := by
      cases k with
      | nil => simp only [List.nil_append, List.cons.injEq] at e2; exact absurd e2.1.symm q
      | cons b k => simp only [List.cons_append, List.cons.injEq] at e2; rw [e2.1]; exact List.mem_cons_self
    have old := h k y l2 e2 (fun p => hn (by rw [e1]; exact List.mem_append_right _ p)) hm
    rw [e1] at he
    rcases List.mem_append.mp he with he | he
    · exact Nat.lt_trans (hv e he) (old x hxk)
    · exact old e he
theorem s_layOutFrom_l {n : Nat} {o0 K F S r d : Nat → Nat} {P : Nat → Prop} {G : (Nat → Nat) → Prop} (hn : n ≤ 600) (hd : ∀ t, t < n → d t < 1000) (h4 : ∀ t, t < n → K t < 4) (hr : ∀ t, t < n → r t < n ∧ r (r t) = r t) (hP : ∀ t, t < n → P (r t)) (hPF : ∀ x, P x → 2 ≤ K x → F x < n ∧ S x < n)
    (hG : ∀ v, G v → ∀ x, P x → 2 ≤ K x → v (r (F x)) < v x ∧ v (r (S x)) < v x) : ∀ (k : Nat) (z : St) (mk tr : Nat → Nat) (c : Nat) (l : List Nat) (st : Nat) (v1 : Int32),
    FO z n o0 r d → LO z n K F S r mk tr c → pi z l → LPi n K F S r mk l → (∀ v, G v → LQ mk l v) → shp z P K F S → 3 * uns n mk + l.length < k → st + 3 * uns n mk + l.length < 4000 → l.length + 2 * uns n mk ≤ 1300 →
    ∃ z' res, f_X_layOutFrom_l18 k z (nI st) v1 = some (res, z') ∧ FO z' n o0 r d ∧ (∀ k, k ≠ 2 → k ≠ 3 → z'.1 k = z.1 k) ∧ (∀ k, k ≠ 3 → k ≠ 4 → k ≠ 5 → k ≠ 11 → z'.2 k = z.2 k) ∧
      ((res = 0 ∧ ∀ v, ¬ G v) ∨ (res = 1 ∧ ∃ mk' tr' c', LO z' n K F S r mk' tr' c' ∧ (∀ t, t < n → mk' t ≠ 1) ∧ (∀ t, t < n → mk t = 2 → mk' t = 2) ∧ (∀ e, e ∈ l → mk' e = 2))) := by
  intro k
  induction k with
  | zero => intro z mk tr c l st v1 _ _ _ _ _ _ h; omega
  | succ k ih =>
    intro z mk tr c l st v1 hf hL hp hI hQ hs hk hst hsz
    rw [f_X_layOutFrom_l18, if_neg (le4000 (show st < 4000 by omega)), hp.1]
    cases l with
    | nil =>
      rw [if_pos (show nI ([] : List Nat).length ≤ 0 by decide)]
      refine ⟨z, 1, rfl, hf, fun _ _ _ => rfl, fun _ _ _ _ _ => rfl, Or.inr ⟨rfl, mk, tr, c, hL, fun t ht hm => ?_, fun t _ h => h, fun e he => by cases he⟩⟩
      have := hI.2.1 t ht hm
      cases this
    | cons x l =>
      simp only [List.length_cons] at hk hst hsz
      rw [if_neg (nI_nle (by simp) (by rw [List.length_cons]; omega)), s_top hp (by omega), Option.bind_some]
      obtain ⟨hxn, hrx⟩ := hI.1 x List.mem_cons_self
      have hPx : P x := by have := hP x hxn; rw [hrx] at this; exact this
      have hm2 := hL.2.1 x hxn
      simp only [ix_g (show x < 1000 by omega) (show 1000 < 2 ^ 31 by decide), cl_ (show x < 2 ^ 31 by omega), hL.1 x hxn, n0 (show mk x < 2 ^ 31 by omega), nI_1]
      by_cases e : mk x = 0
      · rw [if_pos e]
        have hro1 : ro (war z 4 x 1) 4 n (us_up mk x 1) := hL.1.set _ i1
        have hmk1 : ∀ t, t < n → us_up mk x 1 t ≤ 2 := fun t ht => by
          by_cases q : t = x
          · rw [q, us_up_s]; omega
          · rw [us_up_n _ q]; exact hL.2.1 t ht
        obtain ⟨z1, res1, a1, f1, g1, g2, cs⟩ := s_putUnseenParts (z := war z 4 x 1) (mk := us_up mk x 1) (l := x :: l) (by omega) (hf.keep (war_n _ _ (by decide))) hd (hs.keep (war_n _ _ (by decide)) (war_n _ _ (by decide)) (war_n _ _ (by decide))) hPx hxn (h4 x hxn) (hPF x hPx) (fun t ht => (hr t ht).1) hro1 hmk1 (hp.keep rfl (war_n _ _ (by decide))) (by simp only [List.length_cons]; omega)
        rw [a1, Option.bind_some]
        have hu := uns_open hxn e (w := 1) (by decide)
        have G1 : ∀ k, k ≠ 3 → z1.1 k = z.1 k := fun k hk => by rw [g1 k hk, war_1]
        have G2 : ∀ k, k ≠ 3 → k ≠ 4 → k ≠ 11 → z1.2 k = z.2 k := fun k h1 h2 h3 => by rw [g2 k h1 h3, war_n _ _ h2]
        have hs1 : shp z1 P K F S := hs.keep (G2 6 (by decide) (by decide) (by decide)) (G2 7 (by decide) (by decide) (by decide)) (G2 8 (by decide) (by decide) (by decide))
        have hL1 : LO z1 n K F S r (us_up mk x 1) tr c := hL.opened e (hro1.keep (g2 4 (by decide) (by decide))) (G2 5 (by decide) (by decide) (by decide)) (G1 2 (by decide))
        have fin : ∀ (l' : List Nat), pi z1 (l' ++ (x :: l)) → l'.length ≤ 2 → LPi n K F S r (us_up mk x 1) (l' ++ (x :: l)) → (∀ v, G v → LQ (us_up mk x 1) (l' ++ (x :: l)) v) →
            ∃ z' res, f_X_layOutFrom_l18 k z1 (nI (st + 1)) v1 = some (res, z') ∧ FO z' n o0 r d ∧ (∀ k, k ≠ 2 → k ≠ 3 → z'.1 k = z.1 k) ∧ (∀ k, k ≠ 3 → k ≠ 4 → k ≠ 5 → k ≠ 11 → z'.2 k = z.2 k) ∧
              ((res = 0 ∧ ∀ v, ¬ G v) ∨ (res = 1 ∧ ∃ mk' tr' c', LO z' n K F S r mk' tr' c' ∧ (∀ t, t < n → mk' t ≠ 1) ∧ (∀ t, t < n → mk t = 2 → mk' t = 2) ∧ (∀ e, e ∈ x :: l → mk' e = 2))) := by
          intro l' hp' hlen hI' hQ'
          have hll : (l' ++ (x :: l)).length ≤ l.length + 3 := by rw [List.length_append, List.length_cons]; omega
          obtain ⟨z', res, i1, i2, i3, i4, i5⟩ := ih z1 (us_up mk x 1) tr c (l' ++ (x :: l)) (st + 1) v1 f1 hL1 hp' hI' hQ' hs1 (by omega) (by omega) (by omega)
          refine ⟨z', res, i1, i2, fun k h1 h2 => by rw [i3 k h1 h2, G1 k h2], fun k h1 h2 h3 h5 => by rw [i4 k h1 h2 h3 h5, G2 k h1 h2 h5], ?_⟩
          rcases i5 with h | ⟨h0, mk', tr', c', j1, j2, j3, j4⟩
          · exact Or.inl h
          · refine Or.inr ⟨h0, mk', tr', c', j1, j2, fun t ht hm => j3 t ht ?_, fun e9 he9 => j4 e9 (List.mem_append_right _ he9)⟩
            rw [us_up_n _ (fun q => by rw [q] at hm; omega)]; exact hm
        rcases cs with ⟨c1, rfl, c3⟩ | ⟨c1, rfl, c3⟩ | ⟨c1, rfl, c3, c4, l', c5, c6, c7, c8, c9⟩
        · rw [if_neg (show ¬ (1 : Int32) = 0 by decide)]
          exact fin [] c3 (by simp) (LPi.push (l' := []) hI e (fun e9 h9 => by cases h9) (fun q => by omega)) (fun v hv => LQ.push (l' := []) (hQ v hv) (fun e9 h9 => by cases h9) (fun e9 h9 => by cases h9))
        · rw [if_pos rfl]
          refine ⟨z1, 0, rfl, f1, fun k h1 h2 => G1 k h2, fun k h1 h2 h3 h5 => G2 k h1 h2 h5, Or.inl ⟨rfl, fun v hv => ?_⟩⟩
          obtain ⟨q1, q2⟩ := hG v hv x hPx c1
          obtain ⟨pf, ps⟩ := hPF x hPx c1
          have bad : ∀ y, y < n → us_up mk x 1 y = 1 → v y < v x → False := by
            intro y hy hm hlt
            by_cases q : y = x
            · rw [q] at hlt; omega
            · rw [us_up_n _ q] at hm
              obtain ⟨l1, l2, e1, e2⟩ := first_mem (hI.2.1 y hy hm)
              have hx1 : x ∈ l1 := by
                cases l1 with
                | nil => simp only [List.nil_append, List.cons.injEq] at e1; exact absurd e1.1.symm q
                | cons b l1 => simp only [List.cons_append, List.cons.injEq] at e1; rw [e1.1]; exact List.mem_cons_self
              have := hQ v hv l1 y l2 e1 e2 hm x hx1
              omega
          rcases c3 with c3 | c3
          · exact bad _ (hr _ pf).1 c3 q1
          · exact bad _ (hr _ ps).1 c3 q2
        · rw [if_neg (show ¬ (1 : Int32) = 0 by decide)]
          obtain ⟨pf, ps⟩ := hPF x hPx c1
          have two : ∀ y, y < n → us_up mk x 1 y ≠ 1 → (us_up mk x 1 y = 0 → y ∈ l') → us_up mk x 1 y = 2 ∨ y ∈ l' := fun y hy h1 h2 => by
            have := hmk1 y hy
            by_cases q : us_up mk x 1 y = 0
            · exact Or.inr (h2 q)
            · exact Or.inl (by omega)
          refine fin l' c5 c6 (LPi.push hI e (fun e9 h9 => ⟨?_, (c7 e9 h9).2⟩) (fun _ => ⟨two _ (hr _ pf).1 c3 c8, two _ (hr _ ps).1 c4 c9⟩)) (fun v hv => LQ.push (hQ v hv) (fun e9 h9 => (c7 e9 h9).2) (fun e9 h9 => ?_))
          · rcases (c7 e9 h9).1 with q | q <;> rw [q]
            · exact hr _ pf
            · exact hr _ ps
          · obtain ⟨q1, q2⟩ := hG v hv x hPx c1
            rcases (c7 e9 h9).1 with q | q <;> rw [q]
            · exact q1
            · exact q2
      · rw [if_neg e]
        obtain ⟨z1, a1, b1, c1, d1⟩ := s_take hp (by omega)
        rw [a1, Option.bind_some]
        have hL1 : LO z1 n K F S r mk tr c := by
          obtain ⟨q1, q2, q3, q4, q5, q6, q7⟩ := hL
          exact ⟨q1.keep (by rw [d1]), q2, by rw [c1 2 (by decide)]; exact q3, q4, fun i hi => by rw [d1]; exact q5 i hi, q6, q7⟩
        obtain ⟨z2, mk2, tr2, c2, a2, hL2, m1, m2, g1, g2⟩ := s_layDown (by omega) hL1 hxn hrx e (fun h1 hk2 => by
          obtain ⟨pf, ps⟩ := hPF x hPx hk2
          obtain ⟨p1, p2⟩ := hI.2.2 [] x l rfl List.not_mem_nil h1 hk2
          exact ⟨(hr _ pf).1, (hr _ ps).1, p1.elim id (fun q => by cases q), p2.elim id (fun q => by cases q)⟩)
        rw [a2, Option.bind_some]
        have hun : uns n mk2 = uns n mk := ct_congr n (fun t ht => by
          by_cases q : t = x
          · subst q; simp [m2, e]
          · simp [m1 t q])
        have G2 : ∀ k, k ≠ 4 → k ≠ 5 → z2.2 k = z.2 k := fun k h1 h2 => by rw [g2 k h1 h2, d1]
        obtain ⟨z', res, i1, i2, i3, i4, i5⟩ := ih z2 mk2 tr2 c2 l (st + 1) v1 (hf.keep (G2 3 (by decide) (by decide))) hL2 (b1.keep (g1 3 (by decide)) (g2 11 (by decide) (by decide))) (hI.pop m1 m2) (fun v hv => (hQ v hv).pop m1 m2) (hs.keep (G2 6 (by decide) (by decide)) (G2 7 (by decide) (by decide)) (G2 8 (by decide) (by decide))) (by omega) (by omega) (by omega)
        refine ⟨z', res, i1, i2, fun k h1 h2 => by rw [i3 k h1 h2, g1 k h1, c1 k h2], fun k h1 h2 h3 h5 => by rw [i4 k h1 h2 h3 h5, G2 k h2 h3], ?_⟩
        rcases i5 with h | ⟨h0, mk', tr', c', j1, j2, j3, j4⟩
        · exact Or.inl h
        · refine Or.inr ⟨h0, mk', tr', c', j1, j2, fun t ht hm => j3 t ht ?_, fun e9 he9 => ?_⟩
          · by_cases q : t = x
            · rw [q]; exact m2
            · rw [m1 t q]; exact hm
          · rcases List.mem_cons.mp he9 with q | q
            · rw [q]; exact j3 x hxn m2
            · exact j4 e9 q
