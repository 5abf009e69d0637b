/-! The law from its entry, given what its pure function answers. -/
def LawOk : Prop := ∀ (L : Nat) (xs : Nat → Int32), L ≤ 1536 → ∃ zx zy : St, f_X_begin z00 = some zx ∧ f_M_begin z00 = some zy ∧ f_L_law L xs FU zx (fun _ => 0) zy 0 = some 1
theorem NW_tbl : ∀ w ∈ NW, w ∈ lw_tbl := by
  have h : NW.all (fun w => decide (w ∈ lw_tbl)) = true := by decide +kernel
  intro w hw
  exact of_decide_eq_true (List.all_eq_true.mp h w hw)
section NL
variable {p : Program} {l : Launch} {e : Env} {R : Room} {s : State} {m : MethodId} {args : Array Value} {below : List Frame} {meth : Method} {c : Code} {H : Heap} {locs : List Loc} {cells slots mc ms : Nat} {Q : State → Prop}
variable {cc : ByteArray} {nL pc : Nat} {ls : Array Slot} {rest : List Value} {own : String} {D : Gd} {tys tc : List (ClassId × FieldType)} {A : Nat → Prop} {w w' wr wc w1 : va_W} {a : Nat} {cJ : ClassId}
theorem r_newl {n : Int32} {N : Nat} (F : Fx p s m args meth c cc nL own D tys A) (X : Wd D A s w H locs) (ht : tys[1]? = some (cJ, .long)) (harr : Cond.arrayClass .long ∈ LW) (hn : ¬ n < 0) (hN : n.toNatClampNeg = N) (hb : N * componentBytes .long ≤ 536870912) (hc : cells + 1 ≤ R.cells) (hs : slots + N ≤ R.slots) (hdg : decode cc pc = .ok (.newarray .long, 2))
    (kk : ∀ (q : Nat) (H : Heap), Wd D A s (w ++ [(q, .inl (cJ, N, .inr (.inl (fun _ => 0))))]) H locs → W p l e R s m args below meth c H locs (cells + 1) (slots + N) Q (F0 m (pc + 2) ls (.ref q :: rest))) : W p l e R s m args below meth c H locs cells slots Q (F0 m pc ls (.int n :: rest)) := by
  obtain ⟨hx, hb0, hml, ho, hts, hK, hE, hA, hlk⟩ := id F
  refine va_newa hx hb0 (atype := .long) (hts _ harr) (ty := .long) rfl hK X.1 X.2.1 X.2.2 hA (n := n) (N' := N) (a0 := (N, .inr (.inl (fun _ => 0)))) (fun _ => rfl) hn hN hb hc hs hdg (fun q cA H1 hK1 hP1 hD1 hS1 => ?_)
  have e : cA = cJ := by
    have h1 := va_nm_long (hK1.2 tys.length (cA, .long) (by rw [List.getElem?_append_right (Nat.le_refl _), Nat.sub_self]; rfl)).2
    have h2 := va_nm_long (hK.2 1 _ ht).2
    exact Option.some.inj (h1.symm.trans h2)
  subst e
  exact kk q H1 ⟨hP1, hD1, hS1⟩
end NL
theorem K_arr {args : Array Value} {s : State} {ty : FieldType} (h : (Cond.arrayClass ty).before args s = true) (hp : ∀ C, ty ≠ .object C) : ∃ cA : ClassId, ArrOfT s cA ty ∧ va_RA s cA ty := by
  obtain ⟨cA, kA, comp, h1, h2, h3⟩ := Cond.arrayClass_spec h
  refine ⟨cA, fun n z => ⟨fun k h => (by cases h), kA, h2, comp, h3⟩, ?_⟩
  cases ty with
  | object C => exact absurd rfl (hp C)
  | _ => exact h1
set_option maxRecDepth 100000 in
set_option maxHeartbeats 4000000 in
theorem whole_start {p : Program} {e : Env} {s : State} {m : MethodId} {below : List Frame} {meth : Method} {c : Code} (hok : LawOk) (l : Launch) (hst : l.stackTraces = false) {b L : Nat} {xs : Nat → Int32} (hL : L ≤ 1536) (C0 : lw_At p s m meth c b L xs) : W p l e room_1 s m #[Value.ref b] below meth c s.heap [] 0 0 (lw_Z below #[Value.ref b] s) (entryFrame m ([Value.ref b] : List Value).toArray 7) := by
  obtain ⟨hx, hb, hr, hml, hown, hts, hX, hbl, hlk, hgv⟩ := C0
  have htsL : ∀ w ∈ LW, w.before #[Value.ref b] s = true := fun w h => hts w (List.mem_filter.mp h).1
  obtain ⟨c0, i0, k0⟩ := u_known htsL in_X (htsL _ mt_14)
  obtain ⟨c1, i1, k1⟩ := u_known htsL in_S (htsL _ mt_22)
  obtain ⟨c2, i2, k2⟩ := u_known htsL in_P (htsL _ mt_48)
  obtain ⟨c3, i3, k3⟩ := u_known htsL in_M (htsL _ mt_426)
  obtain ⟨cI, aI, rI⟩ := K_arr (htsL _ mt_46) (fun C h => by cases h)
  obtain ⟨cJ, aJ, rJ⟩ := K_arr (htsL _ mt_608) (fun C h => by cases h)
  have hK : va_K (fun k => match k with | 0 => c0 | 1 => c1 | 2 => c2 | _ => c3, fun k => match k with | 0 => i0 | 1 => i1 | 2 => i2 | _ => i3) clX [(cI, .int), (cJ, .long)] s := by
    refine ⟨fun k q hq => ?_, fun k q hq => ?_⟩
    · match k, hq with
      | 0, hq => cases hq; exact k0
      | 1, hq => cases hq; exact k1
      | 2, hq => cases hq; exact k2
      | 3, hq => cases hq; exact k3
      | k + 4, hq => cases hq
    · match k, hq with
      | 0, hq => cases hq; exact ⟨aI, rI⟩
      | 1, hq => cases hq; exact ⟨aJ, rJ⟩
      | k + 2, hq => cases hq
  generalize ((fun k => match k with | 0 => c0 | 1 => c1 | 2 => c2 | _ => c3, fun k => match k with | 0 => i0 | 1 => i1 | 2 => i2 | _ => i3) : Gd) = D at hK
  have hgf := flat_of_before _ hgv
  have hE : EV (fun q => s.heap.size ≤ q) s :=
    ⟨fun w hw => va_Nw.of (NW_tab hw) (hts w (NW_tbl w hw)),
     vx_Zqof (args := #[Value.ref b]) (hts _ (List.mem_append_right _ (List.mem_of_getElem? (i := 165) (by decide +kernel)))) (htsL _ mt_6) (hgf _ (by decide +kernel)) (fun a h1 h2 => by omega),
     vx_Zqof (args := #[Value.ref b]) (hts _ (List.mem_append_right _ (List.mem_of_getElem? (i := 167) (by decide +kernel)))) (htsL _ mt_6) (hgf _ (by decide +kernel)) (fun a h1 h2 => by omega),
     va_Nc.of (args := #[Value.ref b]) (hgf _ (by decide +kernel))⟩
  have F : Fx p s m #[Value.ref b] meth c b_L_law 7 "TypeBenchLaw" D [(cI, .int), (cJ, .long)] (fun q => s.heap.size ≤ q) := ⟨hx, hb, hml, hown, htsL, hK, hE, fun q h => h, hlk⟩
  obtain ⟨zx, zy, hzx, hzy, hlaw⟩ := hok L xs hL
  generalize hA : (fun q => s.heap.size ≤ q) = A at F
  have hAs : ∀ q, A q → s.heap.size ≤ q := fun q h => by rw [← hA] at h; exact h
  have hbA : ¬ A b := fun h => by have := hAs b h; omega
  have X : Wd D A s [] s.heap [] := ⟨fun k q h => (by cases h), ⟨fun i j x y h => (by cases h), fun k q h => (by cases h)⟩, va_S.rf⟩
  have hl := lv_entry ([.ref b]) (n := 7) (Nat.le_of_ble_eq_true rfl)
  rw [lg_entry_eq]
  generalize (lg_sl ([.ref b]) ++ List.replicate (7 - (lg_sl ([.ref b])).length) Slot.unset).toArray = ls at hl ⊢
  have hl : lv_has ls 7 [(0, .ref b)] := hl
  refine r_new (ci := 0) (fs := [.int 0, .null, .null, .null, .null, .int 0, .null, .null, .null, .null, .int 0]) F X in_X t_X_ok mt_13 mt_14 mt_1 rfl (fun j hj => by rcases (show j = 0 ∨ j = 1 ∨ j = 2 ∨ j = 3 ∨ j = 4 ∨ j = 5 ∨ j = 6 ∨ j = 7 ∨ j = 8 ∨ j = 9 ∨ j = 10 by omega) with rfl | rfl | rfl | rfl | rfl | rfl | rfl | rfl | rfl | rfl | rfl <;> rfl) (by decide) (by decide) d_L_law_0 (fun x0 H X => ?_)
  refine lv_dup F.x F.b d_L_law_3 rfl ?_
  refine r_ci (wr := []) F (F.2.2.2.2.2.1.sub (tys' := [(cI, .int)]) [0] rfl) X hl.1 (c_X_init l D cI x0 zx hzx) mt_15 rfl mt_16 mt_1 mt_17 hd_X_init ⟨by decide, by decide⟩ ⟨rfl, rfl⟩ ⟨by decide, by decide⟩ rfl (Nat.le_of_ble_eq_true rfl) d_L_law_4 rfl (fun H locs u hu X => ?_)
  obtain ⟨ad, rfl, rfl⟩ := hu
  refine lv_astore_n F.x F.b d_L_law_7 rfl hl (by decide) (lv' := [(1, .ref (ad 0)), (0, .ref b)]) rfl (fun ls hl => ?_)
  have X : Wd D A s (cX cI ad zx) H locs := X
  refine r_new (ci := 3) (fs := [.int 0, .null, .null, .null, .null, .null, .int 0, .null, .null, .null, .null, .null, .int 0, .int 0, .null, .null, .null, .null]) F X in_M t_M_ok mt_425 mt_426 mt_5 rfl (fun j hj => by rcases (show j = 0 ∨ j = 1 ∨ j = 2 ∨ j = 3 ∨ j = 4 ∨ j = 5 ∨ j = 6 ∨ j = 7 ∨ j = 8 ∨ j = 9 ∨ j = 10 ∨ j = 11 ∨ j = 12 ∨ j = 13 ∨ j = 14 ∨ j = 15 ∨ j = 16 ∨ j = 17 by omega) with rfl | rfl | rfl | rfl | rfl | rfl | rfl | rfl | rfl | rfl | rfl | rfl | rfl | rfl | rfl | rfl | rfl | rfl <;> rfl) (by decide) (by decide) d_L_law_8 (fun y0 H X => ?_)
  refine lv_dup F.x F.b d_L_law_11 rfl ?_
  refine r_ci F (F.2.2.2.2.2.1.sub (tys' := [(cI, .int)]) [0] rfl) X hl.1 (c_M_init l D cI y0 zy hzy) mt_427 rfl mt_428 mt_5 mt_429 hd_M_init ⟨by decide, by decide⟩ ⟨rfl, rfl⟩ ⟨by decide, by decide⟩ rfl (Nat.le_of_ble_eq_true rfl) d_L_law_12 rfl (fun H locs u hu X => ?_)
  obtain ⟨bd, rfl, rfl⟩ := hu
  refine lv_astore_n F.x F.b d_L_law_15 rfl hl (by decide) (lv' := [(2, .ref (bd 0)), (1, .ref (ad 0)), (0, .ref b)]) rfl (fun ls hl => ?_)
  refine lv_iconst (v := (1 : Int32)) F.x F.b d_L_law_16 (by decide) ?_
  refine r_newl (N := 1) F X rfl mt_608 (by decide) (by decide) (by decide) (by decide) (by decide) d_L_law_17 (fun ao H X => ?_)
  refine lv_astore_n F.x F.b d_L_law_19 rfl hl (by decide) (lv' := [(3, .ref ao), (2, .ref (bd 0)), (1, .ref (ad 0)), (0, .ref b)]) rfl (fun ls hl => ?_)
  refine lv_iconst (v := (0 : Int32)) F.x F.b d_L_law_20 (by decide) ?_
  refine lv_istore F.x F.b d_L_law_21 hl (by decide) (lv' := [(4, .int 0), (3, .ref ao), (2, .ref (bd 0)), (1, .ref (ad 0)), (0, .ref b)]) rfl (fun ls hl => ?_)
  have X : Wd D A s ([oc cJ ao (fun _ => 0)] ++ (cX cI ad zx ++ cM cI bd zy)) H locs := X.swap
  rw [← List.append_assoc] at X
  have X := X.swap
  exact w_L_law l hst D cI cJ ad bd ao F hr hX hbl hbA hAs FU zx _ zy 0 _ _ _ _ _ X (lv_sub hl [0, 4, 3, 2, 1] rfl) (by unfold FU; omega) (by unfold FU; omega) hlaw
