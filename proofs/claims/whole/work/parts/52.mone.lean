/-! The reference: is, one, endless. -/
theorem m_is_l {n : Nat} {o r d : Nat → Nat} {z : St} (hn : n ≤ 600) (hf : us_fo n o r d) (hz : ro z 3 n o) : ∀ (k x : Nat) (v1 : Int32), x < n → d x < k → f_M_is_l2 k z (nI x) v1 = some (nI (r x), z) := by
  intro k
  induction k with
  | zero => intro x v1 _ h; omega
  | succ k ih =>
    intro x v1 hx hk
    have hox := (hf x hx).1
    rw [f_M_is_l2, ix_f (by omega) (by decide), ix_f (by omega) (by decide), cl_ (by omega), hz x hx]
    simp only [neq (show o x < 2 ^ 31 by omega) (show x < 2 ^ 31 by omega)]
    by_cases e : o x = x
    · rw [if_pos e, ((hf x hx).2.2.2.2.1 e).1]
    · rw [if_neg e, ih (o x) v1 hox (by have := (hf x hx).2.2.2.2.2 e; omega), (hf x hx).2.2.2.1]
theorem m_is {n x : Nat} {o r d : Nat → Nat} {z : St} (hn : n ≤ 600) (hf : us_fo n o r d) (hd : ∀ t, t < n → d t + rts n o ≤ n) (hz : ro z 3 n o) (hx : x < n) : f_M_is z (nI x) = some (nI (r x), z) :=
  m_is_l hn hf hz FU x (nI x) hx (by have := hd x hx; unfold FU; omega)
/-- rows of the kinds and parts -/
def mr (z : St) (n : Nat) (K L R : Nat → Nat) : Prop := ro z 0 n K ∧ ∀ t, t < n → 2 ≤ K t → z.2 1 t = nI (L t) ∧ z.2 2 t = nI (R t)
theorem mr.keep {z z' : St} {n : Nat} {K L R : Nat → Nat} (h : mr z n K L R) (h0 : z'.2 0 = z.2 0) (h1 : z'.2 1 = z.2 1) (h2 : z'.2 2 = z.2 2) : mr z' n K L R := ⟨h.1.keep h0, fun t ht q => by rw [h1, h2]; exact h.2 t ht q⟩
theorem m_one {n : Nat} {K L R : Nat → Nat} (hn : n ≤ 600) (h4 : ∀ t, t < n → K t < 4) (hLR : ∀ t, t < n → 2 ≤ K t → L t < n ∧ R t < n) : ∀ (k : Nat) (z : St) (o r d : Nat → Nat) (a b : Nat) (ps : List (Nat × Nat)), us_fo n o r d → (∀ t, t < n → d t + rts n o ≤ n) → ro z 3 n o → mr z n K L R → us_cl n K L R o r ((a, b) :: ps) → a < n → b < n → rts n o < k →
    ∃ z' res, f_M_one k z (nI a) (nI b) = some (res, z') ∧ on [3] z z' ∧ ((res = 0 ∧ ∀ v, us_sol n K L R v → us_rsp n o v → v a = v b → False) ∨
      (res = 1 ∧ ∃ o' r' d', us_fo n o' r' d' ∧ (∀ t, t < n → d' t + rts n o' ≤ n) ∧ ro z' 3 n o' ∧ us_cl n K L R o' r' ps ∧ rts n o' ≤ rts n o ∧ ∀ v, us_sol n K L R v → (us_rsp n o' v ↔ us_rsp n o v ∧ v a = v b))) := by
  intro k
  induction k with
  | zero => intro z o r d a b ps _ _ _ _ _ _ _ h; omega
  | succ k ih =>
    intro z o r d a b ps hf hd hz hm hcl ha hb hk
    have hxn : r a < n := (hf a ha).2.1
    have hyn : r b < n := (hf b hb).2.1
    have ox : o (r a) = r a := (hf a ha).2.2.1
    have oy : o (r b) = r b := (hf b hb).2.2.1
    have hab : ∀ f, us_rsp n o f → f (r a) = f (r b) → f a = f b := fun f h1 h2 => by rw [us_rsp.r hf h1 ha, us_rsp.r hf h1 hb]; exact h2
    have hba : ∀ f, us_rsp n o f → f a = f b → f (r a) = f (r b) := fun f h1 h2 => by rw [← us_rsp.r hf h1 ha, ← us_rsp.r hf h1 hb]; exact h2
    have kx := hm.1 _ hxn
    have ky := hm.1 _ hyn
    have h4x := h4 _ hxn
    have h4y := h4 _ hyn
    rw [f_M_one, m_is hn hf hd hz ha, Option.bind_some]
    dsimp only
    rw [m_is hn hf hd hz hb, Option.bind_some]
    dsimp only
    simp only [ix_f (show r a < 1000 by omega) (show 1000 < 2 ^ 31 by decide), ix_f (show r b < 1000 by omega) (show 1000 < 2 ^ 31 by decide), cl_ (show r a < 2 ^ 31 by omega), cl_ (show r b < 2 ^ 31 by omega), kx, ky, n0 (show K (r a) < 2 ^ 31 by omega), n0 (show K (r b) < 2 ^ 31 by omega), neq (show K (r a) < 2 ^ 31 by omega) (show K (r b) < 2 ^ 31 by omega), neq (show r a < 2 ^ 31 by omega) (show r b < 2 ^ 31 by omega), ix_g (show r a < 1000 by omega) (show 1000 < 2 ^ 31 by decide), ix_g (show r b < 1000 by omega) (show 1000 < 2 ^ 31 by decide)]
    by_cases e : r a = r b
    · rw [if_pos e]
      exact ⟨z, 1, rfl, on.rf, Or.inr ⟨rfl, o, r, d, hf, hd, hz, hcl.skip hf ha hb e, Nat.le_refl _, fun v _ => ⟨fun q => ⟨q, hab v q (by rw [e])⟩, fun q => q.1⟩⟩⟩
    · rw [if_neg e]
      by_cases e0 : K (r a) = 0
      · rw [if_pos e0]
        have hl := rts_link (y := r b) hxn ox e
        refine ⟨_, 1, rfl, on.war (by simp), Or.inr ⟨rfl, us_up o (r a) (r b), us_lr r (r a) (r b), us_ld r d (r a), hf.link hxn hyn ox oy e, fun t ht => by have := us_ld_le (r := r) (d := d) (x := r a) t; have := hd t ht; omega, hz.set _ rfl, hcl.free hf hxn ox e0 hab, by omega, fun v hv => ?_⟩⟩
        rw [us_rsp.link hf hxn ox]
        exact ⟨fun q => ⟨q.1, hab v q.1 q.2⟩, fun q => ⟨q.1, hba v q.1 q.2⟩⟩
      · rw [if_neg e0]
        by_cases e1 : K (r b) = 0
        · rw [if_pos e1]
          have hl := rts_link (y := r a) hyn oy (fun q => e q.symm)
          refine ⟨_, 1, rfl, on.war (by simp), Or.inr ⟨rfl, us_up o (r b) (r a), us_lr r (r b) (r a), us_ld r d (r b), hf.link hyn hxn oy ox (fun q => e q.symm), fun t ht => by have := us_ld_le (r := r) (d := d) (x := r b) t; have := hd t ht; omega, hz.set _ rfl, hcl.free hf hyn oy e1 (fun f h1 h2 => hab f h1 h2.symm), by omega, fun v hv => ?_⟩⟩
          rw [us_rsp.link hf hyn oy]
          exact ⟨fun q => ⟨q.1, hab v q.1 q.2.symm⟩, fun q => ⟨q.1, (hba v q.1 q.2).symm⟩⟩
        · rw [if_neg e1]
          by_cases e2 : K (r a) = K (r b)
          · rw [if_pos e2]
            have hl := rts_link (y := r b) hxn ox e
            have hf1 := hf.link hxn hyn ox oy e
            have hd1 : ∀ t, t < n → us_ld r d (r a) t + rts n (us_up o (r a) (r b)) ≤ n := fun t ht => by have := us_ld_le (r := r) (d := d) (x := r a) t; have := hd t ht; omega
            have hz1 : ro (war z 3 (r a) (nI (r b))) 3 n (us_up o (r a) (r b)) := hz.set _ rfl
            have hm1 : mr (war z 3 (r a) (nI (r b))) n K L R := hm.keep (war_n _ _ (by decide)) (war_n _ _ (by decide)) (war_n _ _ (by decide))
            rw [hm1.1 _ hxn]
            simp only [n1 (show K (r a) < 2 ^ 31 by omega)]
            by_cases e3 : K (r a) = 1
            · rw [if_pos e3]
              refine ⟨_, 1, rfl, on.war (by simp), Or.inr ⟨rfl, us_up o (r a) (r b), us_lr r (r a) (r b), us_ld r d (r a), hf1, hd1, hz1, hcl.ones hf hxn ox (by omega) (by omega) hab, by omega, fun v hv => ?_⟩⟩
              rw [us_rsp.link hf hxn ox]
              exact ⟨fun q => ⟨q.1, hab v q.1 q.2⟩, fun q => ⟨q.1, hba v q.1 q.2⟩⟩
            · rw [if_neg e3]
              have k2x : 2 ≤ K (r a) := by omega
              have k2y : 2 ≤ K (r b) := by omega
              obtain ⟨pl1, pr1⟩ := hLR _ hxn k2x
              obtain ⟨pl2, pr2⟩ := hLR _ hyn k2y
              obtain ⟨ml1, mr1⟩ := hm1.2 _ hxn k2x
              obtain ⟨ml2, mr2⟩ := hm1.2 _ hyn k2y
              have hcl1 : us_cl n K L R (us_up o (r a) (r b)) (us_lr r (r a) (r b)) ((L (r a), L (r b)) :: (R (r a), R (r b)) :: ps) := hcl.both hf hxn ox e2 hab (fun f h => by
                rw [us_pd_c, us_pd_c] at h
                exact ⟨h.1, h.2.1, h.2.2⟩)
              obtain ⟨z1, res1, c1, c2, c3⟩ := ih _ _ _ _ _ _ _ hf1 hd1 hz1 hm1 hcl1 pl1 pl2 (by omega)
              rw [ml1, ml2, c1, Option.bind_some]
              have hon : on [3] z z1 := (on.war (by simp)).tr c2
              have hparts : ∀ v, us_sol n K L R v → us_rsp n o v → v a = v b → us_rsp n (us_up o (r a) (r b)) v ∧ v (L (r a)) = v (L (r b)) ∧ v (R (r a)) = v (R (r b)) := fun v hv h1 h2 => by
                have h3 := hba v h1 h2
                exact ⟨(us_rsp.link hf hxn ox).mpr ⟨h1, h3⟩, hv.parts hxn hyn e2 k2x h4x h3⟩
              dsimp only
              rcases c3 with ⟨rfl, hno⟩ | ⟨rfl, o1, r1, d1, q1, q2, q3, q4, q5, q6⟩
              · rw [if_pos rfl]
                exact ⟨z1, 0, rfl, hon, Or.inl ⟨rfl, fun v hv h1 h2 => hno v hv (hparts v hv h1 h2).1 (hparts v hv h1 h2).2.1⟩⟩
              · rw [if_neg (show ¬ (1 : Int32) = 0 by decide)]
                have hm2 : mr z1 n K L R := hm.keep (hon.2 0 (by simp)) (hon.2 1 (by simp)) (hon.2 2 (by simp))
                obtain ⟨z2, res2, g1, g2, g3⟩ := ih z1 o1 r1 d1 (R (r a)) (R (r b)) ps q1 q2 q3 hm2 q4 pr1 pr2 (by omega)
                rw [(hm2.2 _ hxn k2x).2, (hm2.2 _ hyn k2y).2, g1, Option.bind_some]
                dsimp only
                rcases g3 with ⟨rfl, hno⟩ | ⟨rfl, o2, r2, d2, w1, w2, w3, w4, w5, w6⟩
                · rw [if_pos rfl]
                  refine ⟨z2, 0, rfl, hon.tr g2, Or.inl ⟨rfl, fun v hv h1 h2 => ?_⟩⟩
                  obtain ⟨p1, p2, p3⟩ := hparts v hv h1 h2
                  exact hno v hv ((q6 v hv).mpr ⟨p1, p2⟩) p3
                · rw [if_neg (show ¬ (1 : Int32) = 0 by decide)]
                  refine ⟨z2, 1, rfl, hon.tr g2, Or.inr ⟨rfl, o2, r2, d2, w1, w2, w3, w4, by omega, fun v hv => ?_⟩⟩
                  rw [w6 v hv, q6 v hv]
                  constructor
                  · rintro ⟨⟨p1, p2⟩, p3⟩
                    obtain ⟨p4, p5⟩ := (us_rsp.link hf hxn ox).mp p1
                    exact ⟨p4, hab v p4 p5⟩
                  · rintro ⟨p1, p2⟩
                    obtain ⟨p3, p4, p5⟩ := hparts v hv p1 p2
                    exact ⟨⟨p3, p4⟩, p5⟩
          · rw [if_neg e2]
            exact ⟨z, 0, rfl, on.rf, Or.inl ⟨rfl, fun v hv h1 h2 => hv.clash hxn hyn e0 e1 h4x h4y e2 (hba v h1 h2)⟩⟩
/-- what is done: its parts are done before it -/
def EN (n : Nat) (K L R r st fin : Nat → Nat) (cnt : Nat) : Prop :=
  (∀ x, x < n → st x ≤ 2) ∧ (∀ x, x < n → st x = 2 → fin x < cnt) ∧ ∀ x, x < n → r x = x → st x = 2 → 2 ≤ K x → (K (r (L x)) < 2 ∨ (st (r (L x)) = 2 ∧ fin (r (L x)) < fin x)) ∧ (K (r (R x)) < 2 ∨ (st (r (R x)) = 2 ∧ fin (r (R x)) < fin x))
theorem m_endless {n : Nat} {K L R o r d : Nat → Nat} (hn : n ≤ 600) (h4 : ∀ t, t < n → K t < 4) (hLR : ∀ t, t < n → 2 ≤ K t → L t < n ∧ R t < n) (hf : us_fo n o r d) (hd : ∀ t, t < n → d t + rts n o ≤ n) : ∀ (k : Nat) (z : St) (st fin : Nat → Nat) (cnt t : Nat), ro z 3 n o → mr z n K L R → ro z 10 n st → EN n K L R r st fin cnt → t < n → ct (fun x => decide (st x = 0)) n < k →
    (∀ v, us_sol n K L R v ∧ us_rsp n o v → ∀ x, x < n → st x = 1 → v t < v x) →
    ∃ z' res, f_M_endless k z (nI t) = some (res, z') ∧ on [10] z z' ∧ ((res = 1 ∧ ∀ v, us_sol n K L R v ∧ us_rsp n o v → False) ∨ (res = 0 ∧ ∃ st' fin' cnt', ro z' 10 n st' ∧ EN n K L R r st' fin' cnt' ∧ (K (r t) < 2 ∨ st' (r t) = 2) ∧ (∀ x, x < n → (st' x = 1 ↔ st x = 1)) ∧ (∀ x, x < n → st x = 2 → st' x = 2) ∧ ct (fun x => decide (st' x = 0)) n ≤ ct (fun x => decide (st x = 0)) n)) := by
  intro k
  induction k with
  | zero => intro z st fin cnt t _ _ _ _ _ h; omega
  | succ k ih =>
    intro z st fin cnt t hz hm hst hE ht hk hG
    have hxn : r t < n := (hf t ht).2.1
    have hrx : r (r t) = r t := hf.rr ht
    have kx := hm.1 _ hxn
    have h4x := h4 _ hxn
    have hs2 := hE.1 _ hxn
    rw [f_M_endless, m_is hn hf hd hz ht, Option.bind_some]
    dsimp only
    simp only [ix_f (show r t < 1000 by omega) (show 1000 < 2 ^ 31 by decide), cl_ (show r t < 2 ^ 31 by omega), ix_g (show r t < 1000 by omega) (show 1000 < 2 ^ 31 by decide), kx, n0 (show K (r t) < 2 ^ 31 by omega), n1 (show K (r t) < 2 ^ 31 by omega), hst _ hxn, n1 (show st (r t) < 2 ^ 31 by omega), n2 (show st (r t) < 2 ^ 31 by omega)]
    by_cases e0 : K (r t) = 0
    · rw [if_pos e0]
      exact ⟨z, 0, rfl, on.rf, Or.inr ⟨rfl, st, fin, cnt, hst, hE, Or.inl (by omega), fun _ _ => Iff.rfl, fun _ _ q => q, Nat.le_refl _⟩⟩
    · rw [if_neg e0]
      by_cases e1 : K (r t) = 1
      · rw [if_pos e1]
        exact ⟨z, 0, rfl, on.rf, Or.inr ⟨rfl, st, fin, cnt, hst, hE, Or.inl (by omega), fun _ _ => Iff.rfl, fun _ _ q => q, Nat.le_refl _⟩⟩
      · rw [if_neg e1]
        by_cases e2 : st (r t) = 2
        · rw [if_pos e2]
          exact ⟨z, 0, rfl, on.rf, Or.inr ⟨rfl, st, fin, cnt, hst, hE, Or.inr e2, fun _ _ => Iff.rfl, fun _ _ q => q, Nat.le_refl _⟩⟩
        · rw [if_neg e2]
          by_cases e3 : st (r t) = 1
          · rw [if_pos e3]
            refine ⟨z, 1, rfl, on.rf, Or.inl ⟨rfl, fun v hv => ?_⟩⟩
            have := hG v hv _ hxn e3
            rw [us_rsp.r hf hv.2 ht] at this
            omega
          · rw [if_neg e3]
            have es : st (r t) = 0 := by omega
            have k2 : 2 ≤ K (r t) := by omega
            obtain ⟨pl, pr⟩ := hLR _ hxn k2
            have hm1 : mr (war z 10 (r t) 1) n K L R := hm.keep (war_n _ _ (by decide)) (war_n _ _ (by decide)) (war_n _ _ (by decide))
            have hst1 : ro (war z 10 (r t) 1) 10 n (us_up st (r t) 1) := hst.set _ i1
            have hct := ct_flip (p := fun x => decide (st x = 0)) (p' := fun x => decide (us_up st (r t) 1 x = 0)) (x := r t) (by simp [es]) (by simp [us_up]) (fun s hs => by simp [us_up, hs]) n hxn
            have hE1 : EN n K L R r (us_up st (r t) 1) fin cnt := by
              have h2 : ∀ x, us_up st (r t) 1 x = 2 → x ≠ r t ∧ st x = 2 := fun x q => by
                by_cases e : x = r t
                · rw [e, us_up_s] at q; omega
                · rw [us_up_n _ e] at q; exact ⟨e, q⟩
              have h3 : ∀ x, st x = 2 → us_up st (r t) 1 x = 2 := fun x q => by
                rw [us_up_n _ (fun e => by rw [e] at q; omega)]; exact q
              refine ⟨fun x hx => ?_, fun x hx q => hE.2.1 x hx (h2 x q).2, fun x hx q1 q2 q3 => ?_⟩
              · by_cases e : x = r t
                · rw [e, us_up_s]; omega
                · rw [us_up_n _ e]; exact hE.1 x hx
              · obtain ⟨p1, p2⟩ := hE.2.2 x hx q1 (h2 x q2).2 q3
                exact ⟨p1.imp id (fun p => ⟨h3 _ p.1, p.2⟩), p2.imp id (fun p => ⟨h3 _ p.1, p.2⟩)⟩
            have hlow : ∀ v, us_sol n K L R v ∧ us_rsp n o v → v (L (r t)) < v (r t) ∧ v (R (r t)) < v (r t) ∧ v (r t) = v t := fun v hv => by
              have := (hv.1 _ hxn).2 k2
              rw [this]
              exact ⟨tm_N_fst k2, tm_N_snd k2, by rw [← this]; exact (us_rsp.r hf hv.2 ht).symm⟩
            have hG1 : ∀ v, us_sol n K L R v ∧ us_rsp n o v → ∀ x, x < n → us_up st (r t) 1 x = 1 → v (L (r t)) < v x ∧ v (R (r t)) < v x := fun v hv x hx q => by
              obtain ⟨p1, p2, p3⟩ := hlow v hv
              by_cases e : x = r t
              · rw [e]; exact ⟨p1, p2⟩
              · rw [us_up_n _ e] at q
                have := hG v hv x hx q
                omega
            obtain ⟨z1, res1, c1, c2, c3⟩ := ih (war z 10 (r t) 1) (us_up st (r t) 1) fin cnt (L (r t)) (hz.keep (war_n _ _ (by decide))) hm1 hst1 hE1 pl (by omega) (fun v hv x hx q => (hG1 v hv x hx q).1)
            rw [(hm1.2 _ hxn k2).1, c1, Option.bind_some]
            have hon : on [10] z z1 := (on.war (by simp)).tr c2
            dsimp only
            rcases c3 with ⟨rfl, hno⟩ | ⟨rfl, st2, fin2, cnt2, f1, f2, f3, f4, f5, f6⟩
            · rw [if_neg (show ¬ (1 : Int32) = 0 by decide)]
              exact ⟨_, 1, rfl, hon.tr (on.war (by simp)), Or.inl ⟨rfl, hno⟩⟩
            · rw [if_pos rfl]
              have hm2 : mr z1 n K L R := hm.keep (hon.2 0 (by simp)) (hon.2 1 (by simp)) (hon.2 2 (by simp))
              obtain ⟨z2, res2, g1, g2, g3⟩ := ih z1 st2 fin2 cnt2 (R (r t)) (hz.keep (hon.2 3 (by simp))) hm2 f1 f2 pr (by omega) (fun v hv x hx q => (hG1 v hv x hx ((f4 x hx).mp q)).2)
              rw [(hm2.2 _ hxn k2).2, g1, Option.bind_some]
              dsimp only
              rcases g3 with ⟨rfl, hno⟩ | ⟨rfl, st3, fin3, cnt3, w1, w2, w3, w4, w5, w6⟩
              · rw [if_neg (show ¬ (1 : Int32) = 0 by decide)]
                exact ⟨_, 1, rfl, (hon.tr g2).tr (on.war (by simp)), Or.inl ⟨rfl, hno⟩⟩
              · rw [if_pos rfl]
                have x3 : st3 (r t) = 1 := by rw [w4 _ hxn, f4 _ hxn, us_up_s]
                have hne : ∀ x, st3 x = 2 → x ≠ r t := fun x q e => by rw [e] at q; omega
                have h3 : ∀ x, st3 x = 2 → us_up st3 (r t) 2 x = 2 ∧ us_up fin3 (r t) cnt3 x = fin3 x := fun x q => by
                  rw [us_up_n _ (hne x q), us_up_n _ (hne x q)]; exact ⟨q, rfl⟩
                refine ⟨_, 0, rfl, (hon.tr g2).tr (on.war (by simp)), Or.inr ⟨rfl, us_up st3 (r t) 2, us_up fin3 (r t) cnt3, cnt3 + 1, w1.set _ i2, ⟨fun x hx => ?_, fun x hx q => ?_, fun x hx q1 q2 q3 => ?_⟩, Or.inr (us_up_s _ _ _), fun x hx => ?_, fun x hx q => ?_, ?_⟩⟩
                · by_cases e : x = r t
                  · rw [e, us_up_s]; omega
                  · rw [us_up_n _ e]; exact w2.1 x hx
                · by_cases e : x = r t
                  · rw [e, us_up_s]; omega
                  · rw [us_up_n _ e] at q ⊢
                    have := w2.2.1 x hx q
                    omega
                · by_cases e : x = r t
                  · rw [e, us_up_s]
                    have p1 : K (r (L (r t))) < 2 ∨ st3 (r (L (r t))) = 2 := f3.imp id (fun q => w5 _ (hf _ pl).2.1 q)
                    constructor
                    · rcases p1 with p | p
                      · exact Or.inl p
                      · rw [(h3 _ p).1, (h3 _ p).2]; exact Or.inr ⟨rfl, w2.2.1 _ (hf _ pl).2.1 p⟩
                    · rcases w3 with p | p
                      · exact Or.inl p
                      · rw [(h3 _ p).1, (h3 _ p).2]; exact Or.inr ⟨rfl, w2.2.1 _ (hf _ pr).2.1 p⟩
                  · rw [us_up_n _ e] at q2
                    obtain ⟨p1, p2⟩ := w2.2.2 x hx q1 q2 q3
                    rw [us_up_n _ e]
                    constructor
                    · rcases p1 with p | p
                      · exact Or.inl p
                      · rw [(h3 _ p.1).1, (h3 _ p.1).2]; exact Or.inr ⟨rfl, p.2⟩
                    · rcases p2 with p | p
                      · exact Or.inl p
                      · rw [(h3 _ p.1).1, (h3 _ p.1).2]; exact Or.inr ⟨rfl, p.2⟩
                · by_cases e : x = r t
                  · rw [e, us_up_s, es]; constructor <;> intro q <;> omega
                  · rw [us_up_n _ e, w4 x hx, f4 x hx, us_up_n _ e]
                · by_cases e : x = r t
                  · rw [e, us_up_s]
                  · rw [us_up_n _ e]
                    exact w5 x hx (f5 x hx (by rw [us_up_n _ e]; exact q))
                · have : ct (fun x => decide (us_up st3 (r t) 2 x = 0)) n = ct (fun x => decide (st3 x = 0)) n := ct_congr n (fun s hs => by
                    by_cases e : s = r t
                    · rw [e, us_up_s, x3]; rfl
                    · rw [us_up_n _ e])
                  omega
