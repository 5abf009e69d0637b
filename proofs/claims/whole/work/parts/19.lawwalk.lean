/-! THE CLAIM OUT OF ONE WALK OF THE LAW'S BODY. Your part is whole_start (and what it stands on); all else here is the same for every law, but numbers. -/
def R_law : String := "TypeBenchLaw"
def lw_P (b : Addr) (xs : List Int32) (args : Array Value) (s : State) : Prop := args = #[.ref b] ∧ s.IntsAt b xs ∧ xs.length ≤ 1536 ∧ (Jvm.Cond.and given_1 narrow_1).before args s = true
def lw_Q (_ : Array Value) (s : State) (o : Outcome) (t : State) : Prop := o = .returned (some (.int 1)) ∧ Framed s o t [] 601024 7293034
def lw_Z (below : List Frame) (a : Array Value) (s : State) : State → Prop := fun t => ∃ o, t.status = .running ∧ Ended t below o ∧ lw_Q a s o t
/-- the law's own end, with 1 on the stack, nothing written that was there before, its room as the claim has it -/
theorem lw_ret {p : Program} {l : Launch} {e : Env} {s : State} {m : MethodId} {below : List Frame} {meth : Method} {c : Code} {b : Nat} (hx : p.tables.exec = Jvm.exec) (hb : c.code = code) (hr : meth.sig.returnType = ret) (hlocks : meth.locks = false) {pc : Nat} {H : Heap} {ls : Array Slot} (hdg : decode code pc = .ok (.ireturn, 1)) : W p l e room_1 s m #[Value.ref b] below meth c H [] 601024 7293034 (lw_Z below #[Value.ref b] s) (F0 m pc ls [.int 1]) := by
  intro T hT X
  obtain ⟨fs, hret, hrun, hended, hW, hframe⟩ := X.leave (v := some (.int 1)) (hlocks := hlocks) (fun h => by rw [hr] at h; cases h)
  have hmeth' : T.vm.method? m = some meth := X.method'
  refine ⟨T.setFrames fs, ?_, .returned (some (.int 1)), hrun, hended, rfl, ⟨_, rfl⟩, hW, hframe⟩
  jvm_step X.here [X.here.top, hx, hb, hdg, hmeth', hr, ret, narrow_b1]
  (try refine ⟨rfl, ?_⟩); (try refine ⟨rfl, ?_⟩)
  first | (intro acts; rw [hret _ acts rfl rfl rfl]) | rw [hret _ _ rfl rfl rfl]
  exact Steps.refl _
/-- what holds at the law's entry: the machine, the code, the tables' words (any of lw_tbl by 'hts w (by decide +kernel)'), the script of L ints xs at the cell b, what the Statement gives of the start (any of its parts by flat_of_before) -/
def lw_At (p : Program) (s : State) (m : MethodId) (meth : Method) (c : Code) (b L : Nat) (xs : Nat → Int32) : Prop :=
  p.tables.exec = Jvm.exec ∧ c.code = code ∧ meth.sig.returnType = ret ∧ c.maxLocals = 7 ∧ s.vm.findClass R_law = some m.cls ∧ (∀ w ∈ lw_tbl, w.before #[Value.ref b] s = true) ∧ va_X b L xs s s.heap ∧ b < s.heap.size ∧ meth.locks = false ∧ (Jvm.Cond.and given_1 narrow_1).before #[Value.ref b] s = true
theorem vp01 : vp_in (0 : Int32) 1 := by unfold vp_in; decide
set_option maxRecDepth 100000 in
set_option maxHeartbeats 16000000 in
theorem w_L_law {p : Program} {e : Env} {s : State} {m : MethodId} {below : List Frame} {meth : Method} {c : Code} {b L : Nat} {xs : Nat → Int32} {A : Nat → Prop} (l : Launch) (hst : l.stackTraces = false) (D : Gd) (cI cJ : ClassId) (ad bd : Nat → Nat) (ao : Nat) (F : Fx p s m #[Value.ref b] meth c b_L_law 7 "TypeBenchLaw" D [(cI, .int), (cJ, .long)] A) (hr : meth.sig.returnType = ret) (hX : va_X b L xs s s.heap) (hbl : b < s.heap.size) (hbA : ¬ A b) (hAs : ∀ q, A q → s.heap.size ≤ q) :
    ∀ (n : Nat) (z : St) (g : Nat → Int64) (y : St) (v4 : Int32) (cells slots : Nat) (H : Heap) (locs : List Loc) (ls : Array Slot), Wd D A s (cM cI bd y ++ ([oc cJ ao g] ++ cX cI ad z)) H locs → lv_has ls 7 [(4, .int (v4)), (0, .ref (b)), (1, .ref (ad 0)), (2, .ref (bd 0)), (3, .ref (ao))] → cells + 3 * n ≤ 400000 → slots + 18 * n ≤ 2000000 → f_L_law L xs n z g y v4 = some 1 → W p l e room_1 s m #[Value.ref b] below meth c H locs cells slots (lw_Z below #[Value.ref b] s) (F0 m 23 ls []) := by
  intro n
  induction n with
  | zero => intro z g y v4 cells slots H locs ls X hl hc1 hc2 h; cases h
  | succ n ih =>
    intro z g y v4 cells slots H locs ls X hl hc1 hc2 h
    rw [f_L_law] at h
    refine lv_iload F.x F.b d_L_law_23 (lv_at hl 0 rfl) ?_
    refine lv_aload_n F.x F.b d_L_law_25 rfl (lv_at hl 1 rfl) ?_
    refine va_slen F.x F.b hX hbl hbA X.2.2 d_L_law_26 ?_
    refine lv_iconst (v := (3 : Int32)) F.x F.b d_L_law_27 (by decide) ?_
    refine lv_isub F.x F.b d_L_law_28 ?_
    refine lv_icmp_gt (tgt := 940) F.x F.b d_L_law_29 (by decide) (fun hc => ?_) (fun hc => ?_)
    · have h := it_t hc h
      refine lv_iconst (v := (1 : Int32)) F.x F.b d_L_law_940 (by decide) ?_
      refine va_forget (fun q hq => hAs _ (X.2.2.2.2 q hq)) ?_
      refine W.widen (k := 601024) (n := 7293034) (by omega) (by omega) ?_
      exact lw_ret F.x F.b hr F.2.2.2.2.2.2.2.2 d_L_law_941
    · have h := it_e hc h
      refine lv_aload_n F.x F.b d_L_law_32 rfl (lv_at hl 1 rfl) ?_
      refine lv_iload F.x F.b d_L_law_33 (lv_at hl 0 rfl) ?_
      obtain ⟨hb1, h⟩ := it_b h
      refine va_sld F.x F.b hX hbl hbA X.2.2 hb1 d_L_law_35 ?_
      refine lv_bipush (v := (15 : Int32)) F.x F.b d_L_law_36 (by decide) ?_
      refine lv_iand F.x F.b d_L_law_38 ?_
      by_cases hc0 : ((xs (v4).toNatClampNeg) &&& ((15 : Int32))) = (0 : Int32)
      · have h := it_t hc0 h
        refine lv_tableIn (off := 69) (tgt := 108) F.x F.b d_L_law_39 (by rw [hc0]; decide) (by rw [hc0]; decide) (by rw [hc0]; decide) (by decide) ?_
        refine lv_aload_n F.x F.b d_L_law_108 rfl (lv_at hl 2 rfl) ?_
        refine lv_aload_n F.x F.b d_L_law_109 rfl (lv_at hl 4 rfl) ?_
        obtain ⟨q86, hq86, h⟩ := it_c h
        refine r_sr F F.2.2.2.2.2.1 X hl.1 (c_L_free l hst D cI cJ ad ao z g q86 hq86) mt_126 mt_127 mt_0 mt_128 hd_L_free ⟨by decide, by decide⟩ ⟨rfl, rfl⟩ ⟨by show _ ≤ 601024; omega, by show _ ≤ 7293034; omega⟩ rfl (Nat.le_of_ble_eq_true rfl) d_L_law_110 rfl (fun H locs X => ?_)
        refine lv_istore F.x F.b d_L_law_113 hl (by decide) (lv' := [(5, .int (q86.1)), (4, .int (v4)), (0, .ref (b)), (1, .ref (ad 0)), (2, .ref (bd 0)), (3, .ref (ao))]) rfl (fun ls hl => ?_)
        refine lv_aload_n F.x F.b d_L_law_115 rfl (lv_at hl 4 rfl) ?_
        obtain ⟨q87, hq87, h⟩ := it_c h
        have X := X.swap
        refine r_vr F (F.2.2.2.2.2.1.sub (tys' := [(cI, .int)]) [0] rfl) X hl.1 (c_M_free l D cI bd y q87 hq87) (gM_0 cI bd y) rfl mt_498 mt_499 mt_500 mt_5 mt_501 ⟨rfl, hd_M_free⟩ ⟨by decide, by decide⟩ ⟨rfl, rfl⟩ ⟨by show _ ≤ 601024; omega, by show _ ≤ 7293034; omega⟩ rfl (Nat.le_of_ble_eq_true rfl) d_L_law_116 rfl (fun H locs X => ?_)
        have X := X.swap
        refine lv_istore F.x F.b d_L_law_119 hl (by decide) (lv' := [(6, .int (q87.1)), (5, .int (q86.1)), (4, .int (v4)), (0, .ref (b)), (1, .ref (ad 0)), (2, .ref (bd 0)), (3, .ref (ao))]) rfl (fun ls hl => ?_)
        refine lv_aload_n F.x F.b d_L_law_121 rfl (lv_at hl 5 rfl) ?_
        obtain ⟨q88, hq88, h⟩ := it_c h
        have X := X.swap
        refine r_vr F (F.2.2.2.2.2.1.sub (tys' := [(cI, .int)]) [0] rfl) X hl.1 (c_M_thrown l D cI bd q87.2 q88 hq88) (gM_0 cI bd q87.2) rfl mt_494 mt_495 mt_496 mt_5 mt_497 ⟨rfl, hd_M_thrown⟩ ⟨by decide, by decide⟩ ⟨rfl, rfl⟩ ⟨by show _ ≤ 601024; omega, by show _ ≤ 7293034; omega⟩ rfl (Nat.le_of_ble_eq_true rfl) d_L_law_122 rfl (fun H locs X => ?_)
        have X := X.swap
        refine lv_iload F.x F.b d_L_law_125 (lv_at hl 1 rfl) ?_
        refine lv_icmp_eq (tgt := 132) F.x F.b d_L_law_127 (by decide) (fun hc => ?_) (fun hc => ?_)
        · have h := it_t hc h
          refine lv_iload F.x F.b d_L_law_132 (lv_at hl 1 rfl) ?_
          refine lv_if_ne (tgt := 149) F.x F.b d_L_law_134 (by decide) (fun hc => ?_) (fun hc => ?_)
          · have h := it_e hc h
            refine lv_goto (tgt := 934) F.x F.b d_L_law_149 (by decide) ?_
            refine lv_iinc (k := 2) (v := (v4) + 3) F.x F.b d_L_law_934 hl rfl (ii_3 _) (by decide) (lv' := [(4, .int ((v4) + 3)), (6, .int (q87.1)), (5, .int (q86.1)), (0, .ref (b)), (1, .ref (ad 0)), (2, .ref (bd 0)), (3, .ref (ao))]) rfl (fun ls hl => ?_)
            refine lv_goto (tgt := 23) F.x F.b d_L_law_937 (by decide) ?_
            exact ih q86.2.1 q86.2.2 q88.2 ((v4) + 3) _ _ _ _ _ X (lv_sub hl [0, 3, 4, 5, 6] rfl) (by omega) (by omega) h
          · have h := it_t hc h
            refine lv_aload_n F.x F.b d_L_law_137 rfl (lv_at hl 6 rfl) ?_
            refine lv_iconst (v := (0 : Int32)) F.x F.b d_L_law_138 (by decide) ?_
            refine va_lald F.x F.b F.2.2.2.2.2.1 X.1 15 1 (f := q86.2.2) rfl rfl vp01 d_L_law_139 ?_
            refine lv_iload F.x F.b d_L_law_140 (lv_at hl 0 rfl) ?_
            refine lv_i2l (v := (q87.1).toInt64) F.x F.b d_L_law_142 rfl ?_
            refine W.lcmp F.x F.b d_L_law_143 ?_
            refine lv_if_eq (tgt := 149) F.x F.b d_L_law_144 (by decide) (fun hc => ?_) (fun hc => ?_)
            · have h := it_t hc h
              refine lv_goto (tgt := 934) F.x F.b d_L_law_149 (by decide) ?_
              refine lv_iinc (k := 2) (v := (v4) + 3) F.x F.b d_L_law_934 hl rfl (ii_3 _) (by decide) (lv' := [(4, .int ((v4) + 3)), (6, .int (q87.1)), (5, .int (q86.1)), (0, .ref (b)), (1, .ref (ad 0)), (2, .ref (bd 0)), (3, .ref (ao))]) rfl (fun ls hl => ?_)
              refine lv_goto (tgt := 23) F.x F.b d_L_law_937 (by decide) ?_
              exact ih q86.2.1 q86.2.2 q88.2 ((v4) + 3) _ _ _ _ _ X (lv_sub hl [0, 3, 4, 5, 6] rfl) (by omega) (by omega) h
            · have h := it_e hc h
              refine lv_iconst (v := (0 : Int32)) F.x F.b d_L_law_147 (by decide) ?_
              exact absurd h (by decide)
        · have h := it_e hc h
          refine lv_iconst (v := (0 : Int32)) F.x F.b d_L_law_130 (by decide) ?_
          exact absurd h (by decide)
      · have h := it_e hc0 h
        by_cases hc1 : ((xs (v4).toNatClampNeg) &&& ((15 : Int32))) = (1 : Int32)
        · have h := it_t hc1 h
          refine lv_tableIn (off := 113) (tgt := 152) F.x F.b d_L_law_39 (by rw [hc1]; decide) (by rw [hc1]; decide) (by rw [hc1]; decide) (by decide) ?_
          refine lv_aload_n F.x F.b d_L_law_152 rfl (lv_at hl 2 rfl) ?_
          refine lv_aload_n F.x F.b d_L_law_153 rfl (lv_at hl 1 rfl) ?_
          refine lv_iload F.x F.b d_L_law_154 (lv_at hl 0 rfl) ?_
          refine lv_iconst (v := (1 : Int32)) F.x F.b d_L_law_156 (by decide) ?_
          refine lv_iadd F.x F.b d_L_law_157 ?_
          obtain ⟨hb79, h⟩ := it_b h
          refine va_sld F.x F.b hX hbl hbA X.2.2 hb79 d_L_law_158 ?_
          refine lv_aload_n F.x F.b d_L_law_159 rfl (lv_at hl 1 rfl) ?_
          refine lv_iload F.x F.b d_L_law_160 (lv_at hl 0 rfl) ?_
          refine lv_iconst (v := (2 : Int32)) F.x F.b d_L_law_162 (by decide) ?_
          refine lv_iadd F.x F.b d_L_law_163 ?_
          obtain ⟨hb80, h⟩ := it_b h
          refine va_sld F.x F.b hX hbl hbA X.2.2 hb80 d_L_law_164 ?_
          refine lv_aload_n F.x F.b d_L_law_165 rfl (lv_at hl 4 rfl) ?_
          obtain ⟨q81, hq81, h⟩ := it_c h
          refine r_sr F F.2.2.2.2.2.1 X hl.1 (c_L_sum l hst D cI cJ ad ao z g (xs ((v4) + ((1 : Int32))).toNatClampNeg) (xs ((v4) + ((2 : Int32))).toNatClampNeg) q81 hq81) mt_200 mt_201 mt_0 mt_202 hd_L_sum ⟨by decide, by decide⟩ ⟨rfl, rfl⟩ ⟨by show _ ≤ 601024; omega, by show _ ≤ 7293034; omega⟩ rfl (Nat.le_of_ble_eq_true rfl) d_L_law_166 rfl (fun H locs X => ?_)
          refine lv_istore F.x F.b d_L_law_169 hl (by decide) (lv' := [(5, .int (q81.1)), (4, .int (v4)), (0, .ref (b)), (1, .ref (ad 0)), (2, .ref (bd 0)), (3, .ref (ao))]) rfl (fun ls hl => ?_)
          refine lv_aload_n F.x F.b d_L_law_171 rfl (lv_at hl 4 rfl) ?_
          refine lv_aload_n F.x F.b d_L_law_172 rfl (lv_at hl 2 rfl) ?_
          refine lv_iload F.x F.b d_L_law_173 (lv_at hl 1 rfl) ?_
          refine lv_iconst (v := (1 : Int32)) F.x F.b d_L_law_175 (by decide) ?_
          refine lv_iadd F.x F.b d_L_law_176 ?_
          obtain ⟨hb82, h⟩ := it_b h
          refine va_sld F.x F.b hX hbl hbA X.2.2 hb82 d_L_law_177 ?_
          refine lv_aload_n F.x F.b d_L_law_178 rfl (lv_at hl 2 rfl) ?_
          refine lv_iload F.x F.b d_L_law_179 (lv_at hl 1 rfl) ?_
          refine lv_iconst (v := (2 : Int32)) F.x F.b d_L_law_181 (by decide) ?_
          refine lv_iadd F.x F.b d_L_law_182 ?_
          obtain ⟨hb83, h⟩ := it_b h
          refine va_sld F.x F.b hX hbl hbA X.2.2 hb83 d_L_law_183 ?_
          obtain ⟨q84, hq84, h⟩ := it_c h
          have X := X.swap
          refine r_vr F (F.2.2.2.2.2.1.sub (tys' := [(cI, .int)]) [0] rfl) X hl.1 (c_M_sum l D cI bd y (xs ((v4) + ((1 : Int32))).toNatClampNeg) (xs ((v4) + ((2 : Int32))).toNatClampNeg) q84 hq84) (gM_0 cI bd y) rfl mt_506 mt_507 mt_508 mt_5 mt_509 ⟨rfl, hd_M_sum⟩ ⟨by decide, by decide⟩ ⟨rfl, rfl⟩ ⟨by show _ ≤ 601024; omega, by show _ ≤ 7293034; omega⟩ rfl (Nat.le_of_ble_eq_true rfl) d_L_law_184 rfl (fun H locs X => ?_)
          have X := X.swap
          refine lv_istore F.x F.b d_L_law_187 hl (by decide) (lv' := [(6, .int (q84.1)), (5, .int (q81.1)), (4, .int (v4)), (0, .ref (b)), (1, .ref (ad 0)), (2, .ref (bd 0)), (3, .ref (ao))]) rfl (fun ls hl => ?_)
          refine lv_aload_n F.x F.b d_L_law_189 rfl (lv_at hl 5 rfl) ?_
          obtain ⟨q85, hq85, h⟩ := it_c h
          have X := X.swap
          refine r_vr F (F.2.2.2.2.2.1.sub (tys' := [(cI, .int)]) [0] rfl) X hl.1 (c_M_thrown l D cI bd q84.2 q85 hq85) (gM_0 cI bd q84.2) rfl mt_494 mt_495 mt_496 mt_5 mt_497 ⟨rfl, hd_M_thrown⟩ ⟨by decide, by decide⟩ ⟨rfl, rfl⟩ ⟨by show _ ≤ 601024; omega, by show _ ≤ 7293034; omega⟩ rfl (Nat.le_of_ble_eq_true rfl) d_L_law_190 rfl (fun H locs X => ?_)
          have X := X.swap
          refine lv_iload F.x F.b d_L_law_193 (lv_at hl 1 rfl) ?_
          refine lv_icmp_eq (tgt := 200) F.x F.b d_L_law_195 (by decide) (fun hc => ?_) (fun hc => ?_)
          · have h := it_t hc h
            refine lv_iload F.x F.b d_L_law_200 (lv_at hl 1 rfl) ?_
            refine lv_if_ne (tgt := 217) F.x F.b d_L_law_202 (by decide) (fun hc => ?_) (fun hc => ?_)
            · have h := it_e hc h
              refine lv_goto (tgt := 934) F.x F.b d_L_law_217 (by decide) ?_
              refine lv_iinc (k := 2) (v := (v4) + 3) F.x F.b d_L_law_934 hl rfl (ii_3 _) (by decide) (lv' := [(4, .int ((v4) + 3)), (6, .int (q84.1)), (5, .int (q81.1)), (0, .ref (b)), (1, .ref (ad 0)), (2, .ref (bd 0)), (3, .ref (ao))]) rfl (fun ls hl => ?_)
              refine lv_goto (tgt := 23) F.x F.b d_L_law_937 (by decide) ?_
              exact ih q81.2.1 q81.2.2 q85.2 ((v4) + 3) _ _ _ _ _ X (lv_sub hl [0, 3, 4, 5, 6] rfl) (by omega) (by omega) h
            · have h := it_t hc h
              refine lv_aload_n F.x F.b d_L_law_205 rfl (lv_at hl 6 rfl) ?_
              refine lv_iconst (v := (0 : Int32)) F.x F.b d_L_law_206 (by decide) ?_
              refine va_lald F.x F.b F.2.2.2.2.2.1 X.1 15 1 (f := q81.2.2) rfl rfl vp01 d_L_law_207 ?_
              refine lv_iload F.x F.b d_L_law_208 (lv_at hl 0 rfl) ?_
              refine lv_i2l (v := (q84.1).toInt64) F.x F.b d_L_law_210 rfl ?_
              refine W.lcmp F.x F.b d_L_law_211 ?_
              refine lv_if_eq (tgt := 217) F.x F.b d_L_law_212 (by decide) (fun hc => ?_) (fun hc => ?_)
              · have h := it_t hc h
                refine lv_goto (tgt := 934) F.x F.b d_L_law_217 (by decide) ?_
                refine lv_iinc (k := 2) (v := (v4) + 3) F.x F.b d_L_law_934 hl rfl (ii_3 _) (by decide) (lv' := [(4, .int ((v4) + 3)), (6, .int (q84.1)), (5, .int (q81.1)), (0, .ref (b)), (1, .ref (ad 0)), (2, .ref (bd 0)), (3, .ref (ao))]) rfl (fun ls hl => ?_)
                refine lv_goto (tgt := 23) F.x F.b d_L_law_937 (by decide) ?_
                exact ih q81.2.1 q81.2.2 q85.2 ((v4) + 3) _ _ _ _ _ X (lv_sub hl [0, 3, 4, 5, 6] rfl) (by omega) (by omega) h
              · have h := it_e hc h
                refine lv_iconst (v := (0 : Int32)) F.x F.b d_L_law_215 (by decide) ?_
                exact absurd h (by decide)
          · have h := it_e hc h
            refine lv_iconst (v := (0 : Int32)) F.x F.b d_L_law_198 (by decide) ?_
            exact absurd h (by decide)
        · have h := it_e hc1 h
          by_cases hc2 : ((xs (v4).toNatClampNeg) &&& ((15 : Int32))) = (2 : Int32)
          · have h := it_t hc2 h
            refine lv_tableIn (off := 181) (tgt := 220) F.x F.b d_L_law_39 (by rw [hc2]; decide) (by rw [hc2]; decide) (by rw [hc2]; decide) (by decide) ?_
            refine lv_aload_n F.x F.b d_L_law_220 rfl (lv_at hl 2 rfl) ?_
            refine lv_aload_n F.x F.b d_L_law_221 rfl (lv_at hl 1 rfl) ?_
            refine lv_iload F.x F.b d_L_law_222 (lv_at hl 0 rfl) ?_
            refine lv_iconst (v := (1 : Int32)) F.x F.b d_L_law_224 (by decide) ?_
            refine lv_iadd F.x F.b d_L_law_225 ?_
            obtain ⟨hb72, h⟩ := it_b h
            refine va_sld F.x F.b hX hbl hbA X.2.2 hb72 d_L_law_226 ?_
            refine lv_aload_n F.x F.b d_L_law_227 rfl (lv_at hl 1 rfl) ?_
            refine lv_iload F.x F.b d_L_law_228 (lv_at hl 0 rfl) ?_
            refine lv_iconst (v := (2 : Int32)) F.x F.b d_L_law_230 (by decide) ?_
            refine lv_iadd F.x F.b d_L_law_231 ?_
            obtain ⟨hb73, h⟩ := it_b h
            refine va_sld F.x F.b hX hbl hbA X.2.2 hb73 d_L_law_232 ?_
            refine lv_aload_n F.x F.b d_L_law_233 rfl (lv_at hl 4 rfl) ?_
            obtain ⟨q74, hq74, h⟩ := it_c h
            refine r_sr F F.2.2.2.2.2.1 X hl.1 (c_L_pair l hst D cI cJ ad ao z g (xs ((v4) + ((1 : Int32))).toNatClampNeg) (xs ((v4) + ((2 : Int32))).toNatClampNeg) q74 hq74) mt_247 mt_248 mt_0 mt_249 hd_L_pair ⟨by decide, by decide⟩ ⟨rfl, rfl⟩ ⟨by show _ ≤ 601024; omega, by show _ ≤ 7293034; omega⟩ rfl (Nat.le_of_ble_eq_true rfl) d_L_law_234 rfl (fun H locs X => ?_)
            refine lv_istore F.x F.b d_L_law_237 hl (by decide) (lv' := [(5, .int (q74.1)), (4, .int (v4)), (0, .ref (b)), (1, .ref (ad 0)), (2, .ref (bd 0)), (3, .ref (ao))]) rfl (fun ls hl => ?_)
            refine lv_aload_n F.x F.b d_L_law_239 rfl (lv_at hl 4 rfl) ?_
            refine lv_aload_n F.x F.b d_L_law_240 rfl (lv_at hl 2 rfl) ?_
            refine lv_iload F.x F.b d_L_law_241 (lv_at hl 1 rfl) ?_
            refine lv_iconst (v := (1 : Int32)) F.x F.b d_L_law_243 (by decide) ?_
            refine lv_iadd F.x F.b d_L_law_244 ?_
            obtain ⟨hb75, h⟩ := it_b h
            refine va_sld F.x F.b hX hbl hbA X.2.2 hb75 d_L_law_245 ?_
            refine lv_aload_n F.x F.b d_L_law_246 rfl (lv_at hl 2 rfl) ?_
            refine lv_iload F.x F.b d_L_law_247 (lv_at hl 1 rfl) ?_
            refine lv_iconst (v := (2 : Int32)) F.x F.b d_L_law_249 (by decide) ?_
            refine lv_iadd F.x F.b d_L_law_250 ?_
            obtain ⟨hb76, h⟩ := it_b h
            refine va_sld F.x F.b hX hbl hbA X.2.2 hb76 d_L_law_251 ?_
            obtain ⟨q77, hq77, h⟩ := it_c h
            have X := X.swap
            refine r_vr F (F.2.2.2.2.2.1.sub (tys' := [(cI, .int)]) [0] rfl) X hl.1 (c_M_pair l D cI bd y (xs ((v4) + ((1 : Int32))).toNatClampNeg) (xs ((v4) + ((2 : Int32))).toNatClampNeg) q77 hq77) (gM_0 cI bd y) rfl mt_518 mt_519 mt_520 mt_5 mt_521 ⟨rfl, hd_M_pair⟩ ⟨by decide, by decide⟩ ⟨rfl, rfl⟩ ⟨by show _ ≤ 601024; omega, by show _ ≤ 7293034; omega⟩ rfl (Nat.le_of_ble_eq_true rfl) d_L_law_252 rfl (fun H locs X => ?_)
            have X := X.swap
            refine lv_istore F.x F.b d_L_law_255 hl (by decide) (lv' := [(6, .int (q77.1)), (5, .int (q74.1)), (4, .int (v4)), (0, .ref (b)), (1, .ref (ad 0)), (2, .ref (bd 0)), (3, .ref (ao))]) rfl (fun ls hl => ?_)
            refine lv_aload_n F.x F.b d_L_law_257 rfl (lv_at hl 5 rfl) ?_
            obtain ⟨q78, hq78, h⟩ := it_c h
            have X := X.swap
            refine r_vr F (F.2.2.2.2.2.1.sub (tys' := [(cI, .int)]) [0] rfl) X hl.1 (c_M_thrown l D cI bd q77.2 q78 hq78) (gM_0 cI bd q77.2) rfl mt_494 mt_495 mt_496 mt_5 mt_497 ⟨rfl, hd_M_thrown⟩ ⟨by decide, by decide⟩ ⟨rfl, rfl⟩ ⟨by show _ ≤ 601024; omega, by show _ ≤ 7293034; omega⟩ rfl (Nat.le_of_ble_eq_true rfl) d_L_law_258 rfl (fun H locs X => ?_)
            have X := X.swap
            refine lv_iload F.x F.b d_L_law_261 (lv_at hl 1 rfl) ?_
            refine lv_icmp_eq (tgt := 268) F.x F.b d_L_law_263 (by decide) (fun hc => ?_) (fun hc => ?_)
            · have h := it_t hc h
              refine lv_iload F.x F.b d_L_law_268 (lv_at hl 1 rfl) ?_
              refine lv_if_ne (tgt := 285) F.x F.b d_L_law_270 (by decide) (fun hc => ?_) (fun hc => ?_)
              · have h := it_e hc h
                refine lv_goto (tgt := 934) F.x F.b d_L_law_285 (by decide) ?_
                refine lv_iinc (k := 2) (v := (v4) + 3) F.x F.b d_L_law_934 hl rfl (ii_3 _) (by decide) (lv' := [(4, .int ((v4) + 3)), (6, .int (q77.1)), (5, .int (q74.1)), (0, .ref (b)), (1, .ref (ad 0)), (2, .ref (bd 0)), (3, .ref (ao))]) rfl (fun ls hl => ?_)
                refine lv_goto (tgt := 23) F.x F.b d_L_law_937 (by decide) ?_
                exact ih q74.2.1 q74.2.2 q78.2 ((v4) + 3) _ _ _ _ _ X (lv_sub hl [0, 3, 4, 5, 6] rfl) (by omega) (by omega) h
              · have h := it_t hc h
                refine lv_aload_n F.x F.b d_L_law_273 rfl (lv_at hl 6 rfl) ?_
                refine lv_iconst (v := (0 : Int32)) F.x F.b d_L_law_274 (by decide) ?_
                refine va_lald F.x F.b F.2.2.2.2.2.1 X.1 15 1 (f := q74.2.2) rfl rfl vp01 d_L_law_275 ?_
                refine lv_iload F.x F.b d_L_law_276 (lv_at hl 0 rfl) ?_
                refine lv_i2l (v := (q77.1).toInt64) F.x F.b d_L_law_278 rfl ?_
                refine W.lcmp F.x F.b d_L_law_279 ?_
                refine lv_if_eq (tgt := 285) F.x F.b d_L_law_280 (by decide) (fun hc => ?_) (fun hc => ?_)
                · have h := it_t hc h
                  refine lv_goto (tgt := 934) F.x F.b d_L_law_285 (by decide) ?_
                  refine lv_iinc (k := 2) (v := (v4) + 3) F.x F.b d_L_law_934 hl rfl (ii_3 _) (by decide) (lv' := [(4, .int ((v4) + 3)), (6, .int (q77.1)), (5, .int (q74.1)), (0, .ref (b)), (1, .ref (ad 0)), (2, .ref (bd 0)), (3, .ref (ao))]) rfl (fun ls hl => ?_)
                  refine lv_goto (tgt := 23) F.x F.b d_L_law_937 (by decide) ?_
                  exact ih q74.2.1 q74.2.2 q78.2 ((v4) + 3) _ _ _ _ _ X (lv_sub hl [0, 3, 4, 5, 6] rfl) (by omega) (by omega) h
                · have h := it_e hc h
                  refine lv_iconst (v := (0 : Int32)) F.x F.b d_L_law_283 (by decide) ?_
                  exact absurd h (by decide)
            · have h := it_e hc h
              refine lv_iconst (v := (0 : Int32)) F.x F.b d_L_law_266 (by decide) ?_
              exact absurd h (by decide)
          · have h := it_e hc2 h
            by_cases hc3 : ((xs (v4).toNatClampNeg) &&& ((15 : Int32))) = (3 : Int32)
            · have h := it_t hc3 h
              refine lv_tableIn (off := 249) (tgt := 288) F.x F.b d_L_law_39 (by rw [hc3]; decide) (by rw [hc3]; decide) (by rw [hc3]; decide) (by decide) ?_
              refine lv_aload_n F.x F.b d_L_law_288 rfl (lv_at hl 2 rfl) ?_
              refine lv_aload_n F.x F.b d_L_law_289 rfl (lv_at hl 1 rfl) ?_
              refine lv_iload F.x F.b d_L_law_290 (lv_at hl 0 rfl) ?_
              refine lv_iconst (v := (1 : Int32)) F.x F.b d_L_law_292 (by decide) ?_
              refine lv_iadd F.x F.b d_L_law_293 ?_
              obtain ⟨hb65, h⟩ := it_b h
              refine va_sld F.x F.b hX hbl hbA X.2.2 hb65 d_L_law_294 ?_
              refine lv_aload_n F.x F.b d_L_law_295 rfl (lv_at hl 1 rfl) ?_
              refine lv_iload F.x F.b d_L_law_296 (lv_at hl 0 rfl) ?_
              refine lv_iconst (v := (2 : Int32)) F.x F.b d_L_law_298 (by decide) ?_
              refine lv_iadd F.x F.b d_L_law_299 ?_
              obtain ⟨hb66, h⟩ := it_b h
              refine va_sld F.x F.b hX hbl hbA X.2.2 hb66 d_L_law_300 ?_
              refine lv_aload_n F.x F.b d_L_law_301 rfl (lv_at hl 4 rfl) ?_
              obtain ⟨q67, hq67, h⟩ := it_c h
              refine r_sr F F.2.2.2.2.2.1 X hl.1 (c_L_join l hst D cI cJ ad ao z g (xs ((v4) + ((1 : Int32))).toNatClampNeg) (xs ((v4) + ((2 : Int32))).toNatClampNeg) q67 hq67) mt_254 mt_255 mt_0 mt_256 hd_L_join ⟨by decide, by decide⟩ ⟨rfl, rfl⟩ ⟨by show _ ≤ 601024; omega, by show _ ≤ 7293034; omega⟩ rfl (Nat.le_of_ble_eq_true rfl) d_L_law_302 rfl (fun H locs X => ?_)
              refine lv_istore F.x F.b d_L_law_305 hl (by decide) (lv' := [(5, .int (q67.1)), (4, .int (v4)), (0, .ref (b)), (1, .ref (ad 0)), (2, .ref (bd 0)), (3, .ref (ao))]) rfl (fun ls hl => ?_)
              refine lv_aload_n F.x F.b d_L_law_307 rfl (lv_at hl 4 rfl) ?_
              refine lv_aload_n F.x F.b d_L_law_308 rfl (lv_at hl 2 rfl) ?_
              refine lv_iload F.x F.b d_L_law_309 (lv_at hl 1 rfl) ?_
              refine lv_iconst (v := (1 : Int32)) F.x F.b d_L_law_311 (by decide) ?_
              refine lv_iadd F.x F.b d_L_law_312 ?_
              obtain ⟨hb68, h⟩ := it_b h
              refine va_sld F.x F.b hX hbl hbA X.2.2 hb68 d_L_law_313 ?_
              refine lv_aload_n F.x F.b d_L_law_314 rfl (lv_at hl 2 rfl) ?_
              refine lv_iload F.x F.b d_L_law_315 (lv_at hl 1 rfl) ?_
              refine lv_iconst (v := (2 : Int32)) F.x F.b d_L_law_317 (by decide) ?_
              refine lv_iadd F.x F.b d_L_law_318 ?_
              obtain ⟨hb69, h⟩ := it_b h
              refine va_sld F.x F.b hX hbl hbA X.2.2 hb69 d_L_law_319 ?_
              obtain ⟨q70, hq70, h⟩ := it_c h
              have X := X.swap
              refine r_vr F (F.2.2.2.2.2.1.sub (tys' := [(cI, .int)]) [0] rfl) X hl.1 (c_M_join l D cI bd y (xs ((v4) + ((1 : Int32))).toNatClampNeg) (xs ((v4) + ((2 : Int32))).toNatClampNeg) q70 hq70) (gM_0 cI bd y) rfl mt_522 mt_523 mt_524 mt_5 mt_525 ⟨rfl, hd_M_join⟩ ⟨by decide, by decide⟩ ⟨rfl, rfl⟩ ⟨by show _ ≤ 601024; omega, by show _ ≤ 7293034; omega⟩ rfl (Nat.le_of_ble_eq_true rfl) d_L_law_320 rfl (fun H locs X => ?_)
              have X := X.swap
              refine lv_istore F.x F.b d_L_law_323 hl (by decide) (lv' := [(6, .int (q70.1)), (5, .int (q67.1)), (4, .int (v4)), (0, .ref (b)), (1, .ref (ad 0)), (2, .ref (bd 0)), (3, .ref (ao))]) rfl (fun ls hl => ?_)
              refine lv_aload_n F.x F.b d_L_law_325 rfl (lv_at hl 5 rfl) ?_
              obtain ⟨q71, hq71, h⟩ := it_c h
              have X := X.swap
              refine r_vr F (F.2.2.2.2.2.1.sub (tys' := [(cI, .int)]) [0] rfl) X hl.1 (c_M_thrown l D cI bd q70.2 q71 hq71) (gM_0 cI bd q70.2) rfl mt_494 mt_495 mt_496 mt_5 mt_497 ⟨rfl, hd_M_thrown⟩ ⟨by decide, by decide⟩ ⟨rfl, rfl⟩ ⟨by show _ ≤ 601024; omega, by show _ ≤ 7293034; omega⟩ rfl (Nat.le_of_ble_eq_true rfl) d_L_law_326 rfl (fun H locs X => ?_)
              have X := X.swap
              refine lv_iload F.x F.b d_L_law_329 (lv_at hl 1 rfl) ?_
              refine lv_icmp_eq (tgt := 336) F.x F.b d_L_law_331 (by decide) (fun hc => ?_) (fun hc => ?_)
              · have h := it_t hc h
                refine lv_iload F.x F.b d_L_law_336 (lv_at hl 1 rfl) ?_
                refine lv_if_ne (tgt := 360) F.x F.b d_L_law_338 (by decide) (fun hc => ?_) (fun hc => ?_)
                · have h := it_e hc h
                  refine lv_goto (tgt := 934) F.x F.b d_L_law_360 (by decide) ?_
                  refine lv_iinc (k := 2) (v := (v4) + 3) F.x F.b d_L_law_934 hl rfl (ii_3 _) (by decide) (lv' := [(4, .int ((v4) + 3)), (6, .int (q70.1)), (5, .int (q67.1)), (0, .ref (b)), (1, .ref (ad 0)), (2, .ref (bd 0)), (3, .ref (ao))]) rfl (fun ls hl => ?_)
                  refine lv_goto (tgt := 23) F.x F.b d_L_law_937 (by decide) ?_
                  exact ih q67.2.1 q67.2.2 q71.2 ((v4) + 3) _ _ _ _ _ X (lv_sub hl [0, 3, 4, 5, 6] rfl) (by omega) (by omega) h
                · have h := it_t hc h
                  refine lv_aload_n F.x F.b d_L_law_341 rfl (lv_at hl 6 rfl) ?_
                  refine lv_iconst (v := (0 : Int32)) F.x F.b d_L_law_342 (by decide) ?_
                  refine va_lald F.x F.b F.2.2.2.2.2.1 X.1 15 1 (f := q67.2.2) rfl rfl vp01 d_L_law_343 ?_
                  refine lv_iload F.x F.b d_L_law_344 (lv_at hl 0 rfl) ?_
                  refine lv_if_eq (tgt := 353) F.x F.b d_L_law_346 (by decide) (fun hc => ?_) (fun hc => ?_)
                  · have h := it_t hc h
                    refine lv_lconst (v := (0 : Int64)) F.x F.b d_L_law_353 (by decide) ?_
                    refine W.lcmp F.x F.b d_L_law_354 ?_
                    refine lv_if_eq (tgt := 360) F.x F.b d_L_law_355 (by decide) (fun hc => ?_) (fun hc => ?_)
                    · have h := it_t hc h
                      refine lv_goto (tgt := 934) F.x F.b d_L_law_360 (by decide) ?_
                      refine lv_iinc (k := 2) (v := (v4) + 3) F.x F.b d_L_law_934 hl rfl (ii_3 _) (by decide) (lv' := [(4, .int ((v4) + 3)), (6, .int (q70.1)), (5, .int (q67.1)), (0, .ref (b)), (1, .ref (ad 0)), (2, .ref (bd 0)), (3, .ref (ao))]) rfl (fun ls hl => ?_)
                      refine lv_goto (tgt := 23) F.x F.b d_L_law_937 (by decide) ?_
                      exact ih q67.2.1 q67.2.2 q71.2 ((v4) + 3) _ _ _ _ _ X (lv_sub hl [0, 3, 4, 5, 6] rfl) (by omega) (by omega) h
                    · have h := it_e hc h
                      refine lv_iconst (v := (0 : Int32)) F.x F.b d_L_law_358 (by decide) ?_
                      exact absurd h (by decide)
                  · have h := it_e hc h
                    refine lv_lconst (v := (1 : Int64)) F.x F.b d_L_law_349 (by decide) ?_
                    refine lv_goto (tgt := 354) F.x F.b d_L_law_350 (by decide) ?_
                    refine W.lcmp F.x F.b d_L_law_354 ?_
                    refine lv_if_eq (tgt := 360) F.x F.b d_L_law_355 (by decide) (fun hc => ?_) (fun hc => ?_)
                    · have h := it_t hc h
                      refine lv_goto (tgt := 934) F.x F.b d_L_law_360 (by decide) ?_
                      refine lv_iinc (k := 2) (v := (v4) + 3) F.x F.b d_L_law_934 hl rfl (ii_3 _) (by decide) (lv' := [(4, .int ((v4) + 3)), (6, .int (q70.1)), (5, .int (q67.1)), (0, .ref (b)), (1, .ref (ad 0)), (2, .ref (bd 0)), (3, .ref (ao))]) rfl (fun ls hl => ?_)
                      refine lv_goto (tgt := 23) F.x F.b d_L_law_937 (by decide) ?_
                      exact ih q67.2.1 q67.2.2 q71.2 ((v4) + 3) _ _ _ _ _ X (lv_sub hl [0, 3, 4, 5, 6] rfl) (by omega) (by omega) h
                    · have h := it_e hc h
                      refine lv_iconst (v := (0 : Int32)) F.x F.b d_L_law_358 (by decide) ?_
                      exact absurd h (by decide)
              · have h := it_e hc h
                refine lv_iconst (v := (0 : Int32)) F.x F.b d_L_law_334 (by decide) ?_
                exact absurd h (by decide)
            · have h := it_e hc3 h
              by_cases hc4 : ((xs (v4).toNatClampNeg) &&& ((15 : Int32))) = (4 : Int32)
              · have h := it_t hc4 h
                refine lv_tableIn (off := 324) (tgt := 363) F.x F.b d_L_law_39 (by rw [hc4]; decide) (by rw [hc4]; decide) (by rw [hc4]; decide) (by decide) ?_
                refine lv_aload_n F.x F.b d_L_law_363 rfl (lv_at hl 2 rfl) ?_
                refine lv_aload_n F.x F.b d_L_law_364 rfl (lv_at hl 1 rfl) ?_
                refine lv_iload F.x F.b d_L_law_365 (lv_at hl 0 rfl) ?_
                refine lv_iconst (v := (1 : Int32)) F.x F.b d_L_law_367 (by decide) ?_
                refine lv_iadd F.x F.b d_L_law_368 ?_
                obtain ⟨hb58, h⟩ := it_b h
                refine va_sld F.x F.b hX hbl hbA X.2.2 hb58 d_L_law_369 ?_
                refine lv_aload_n F.x F.b d_L_law_370 rfl (lv_at hl 1 rfl) ?_
                refine lv_iload F.x F.b d_L_law_371 (lv_at hl 0 rfl) ?_
                refine lv_iconst (v := (2 : Int32)) F.x F.b d_L_law_373 (by decide) ?_
                refine lv_iadd F.x F.b d_L_law_374 ?_
                obtain ⟨hb59, h⟩ := it_b h
                refine va_sld F.x F.b hX hbl hbA X.2.2 hb59 d_L_law_375 ?_
                refine lv_aload_n F.x F.b d_L_law_376 rfl (lv_at hl 4 rfl) ?_
                obtain ⟨q60, hq60, h⟩ := it_c h
                refine r_sr F F.2.2.2.2.2.1 X hl.1 (c_L_alike l hst D cI cJ ad ao z g (xs ((v4) + ((1 : Int32))).toNatClampNeg) (xs ((v4) + ((2 : Int32))).toNatClampNeg) q60 hq60) mt_338 mt_339 mt_0 mt_340 hd_L_alike ⟨by decide, by decide⟩ ⟨rfl, rfl⟩ ⟨by show _ ≤ 601024; omega, by show _ ≤ 7293034; omega⟩ rfl (Nat.le_of_ble_eq_true rfl) d_L_law_377 rfl (fun H locs X => ?_)
                refine lv_istore F.x F.b d_L_law_380 hl (by decide) (lv' := [(5, .int (q60.1)), (4, .int (v4)), (0, .ref (b)), (1, .ref (ad 0)), (2, .ref (bd 0)), (3, .ref (ao))]) rfl (fun ls hl => ?_)
                refine lv_aload_n F.x F.b d_L_law_382 rfl (lv_at hl 4 rfl) ?_
                refine lv_aload_n F.x F.b d_L_law_383 rfl (lv_at hl 2 rfl) ?_
                refine lv_iload F.x F.b d_L_law_384 (lv_at hl 1 rfl) ?_
                refine lv_iconst (v := (1 : Int32)) F.x F.b d_L_law_386 (by decide) ?_
                refine lv_iadd F.x F.b d_L_law_387 ?_
                obtain ⟨hb61, h⟩ := it_b h
                refine va_sld F.x F.b hX hbl hbA X.2.2 hb61 d_L_law_388 ?_
                refine lv_aload_n F.x F.b d_L_law_389 rfl (lv_at hl 2 rfl) ?_
                refine lv_iload F.x F.b d_L_law_390 (lv_at hl 1 rfl) ?_
                refine lv_iconst (v := (2 : Int32)) F.x F.b d_L_law_392 (by decide) ?_
                refine lv_iadd F.x F.b d_L_law_393 ?_
                obtain ⟨hb62, h⟩ := it_b h
                refine va_sld F.x F.b hX hbl hbA X.2.2 hb62 d_L_law_394 ?_
                obtain ⟨q63, hq63, h⟩ := it_c h
                have X := X.swap
                refine r_vr F (F.2.2.2.2.2.1.sub (tys' := [(cI, .int)]) [0] rfl) X hl.1 (c_M_alike l D cI bd y (xs ((v4) + ((1 : Int32))).toNatClampNeg) (xs ((v4) + ((2 : Int32))).toNatClampNeg) q63 hq63) (gM_0 cI bd y) rfl mt_547 mt_548 mt_549 mt_5 mt_550 ⟨rfl, hd_M_alike⟩ ⟨by decide, by decide⟩ ⟨rfl, rfl⟩ ⟨by show _ ≤ 601024; omega, by show _ ≤ 7293034; omega⟩ rfl (Nat.le_of_ble_eq_true rfl) d_L_law_395 rfl (fun H locs X => ?_)
                have X := X.swap
                refine lv_istore F.x F.b d_L_law_398 hl (by decide) (lv' := [(6, .int (q63.1)), (5, .int (q60.1)), (4, .int (v4)), (0, .ref (b)), (1, .ref (ad 0)), (2, .ref (bd 0)), (3, .ref (ao))]) rfl (fun ls hl => ?_)
                refine lv_aload_n F.x F.b d_L_law_400 rfl (lv_at hl 5 rfl) ?_
                obtain ⟨q64, hq64, h⟩ := it_c h
                have X := X.swap
                refine r_vr F (F.2.2.2.2.2.1.sub (tys' := [(cI, .int)]) [0] rfl) X hl.1 (c_M_thrown l D cI bd q63.2 q64 hq64) (gM_0 cI bd q63.2) rfl mt_494 mt_495 mt_496 mt_5 mt_497 ⟨rfl, hd_M_thrown⟩ ⟨by decide, by decide⟩ ⟨rfl, rfl⟩ ⟨by show _ ≤ 601024; omega, by show _ ≤ 7293034; omega⟩ rfl (Nat.le_of_ble_eq_true rfl) d_L_law_401 rfl (fun H locs X => ?_)
                have X := X.swap
                refine lv_iload F.x F.b d_L_law_404 (lv_at hl 1 rfl) ?_
                refine lv_icmp_eq (tgt := 411) F.x F.b d_L_law_406 (by decide) (fun hc => ?_) (fun hc => ?_)
                · have h := it_t hc h
                  refine lv_iload F.x F.b d_L_law_411 (lv_at hl 1 rfl) ?_
                  refine lv_if_ne (tgt := 435) F.x F.b d_L_law_413 (by decide) (fun hc => ?_) (fun hc => ?_)
                  · have h := it_e hc h
                    refine lv_goto (tgt := 934) F.x F.b d_L_law_435 (by decide) ?_
                    refine lv_iinc (k := 2) (v := (v4) + 3) F.x F.b d_L_law_934 hl rfl (ii_3 _) (by decide) (lv' := [(4, .int ((v4) + 3)), (6, .int (q63.1)), (5, .int (q60.1)), (0, .ref (b)), (1, .ref (ad 0)), (2, .ref (bd 0)), (3, .ref (ao))]) rfl (fun ls hl => ?_)
                    refine lv_goto (tgt := 23) F.x F.b d_L_law_937 (by decide) ?_
                    exact ih q60.2.1 q60.2.2 q64.2 ((v4) + 3) _ _ _ _ _ X (lv_sub hl [0, 3, 4, 5, 6] rfl) (by omega) (by omega) h
                  · have h := it_t hc h
                    refine lv_aload_n F.x F.b d_L_law_416 rfl (lv_at hl 6 rfl) ?_
                    refine lv_iconst (v := (0 : Int32)) F.x F.b d_L_law_417 (by decide) ?_
                    refine va_lald F.x F.b F.2.2.2.2.2.1 X.1 15 1 (f := q60.2.2) rfl rfl vp01 d_L_law_418 ?_
                    refine lv_iload F.x F.b d_L_law_419 (lv_at hl 0 rfl) ?_
                    refine lv_if_eq (tgt := 428) F.x F.b d_L_law_421 (by decide) (fun hc => ?_) (fun hc => ?_)
                    · have h := it_t hc h
                      refine lv_lconst (v := (0 : Int64)) F.x F.b d_L_law_428 (by decide) ?_
                      refine W.lcmp F.x F.b d_L_law_429 ?_
                      refine lv_if_eq (tgt := 435) F.x F.b d_L_law_430 (by decide) (fun hc => ?_) (fun hc => ?_)
                      · have h := it_t hc h
                        refine lv_goto (tgt := 934) F.x F.b d_L_law_435 (by decide) ?_
                        refine lv_iinc (k := 2) (v := (v4) + 3) F.x F.b d_L_law_934 hl rfl (ii_3 _) (by decide) (lv' := [(4, .int ((v4) + 3)), (6, .int (q63.1)), (5, .int (q60.1)), (0, .ref (b)), (1, .ref (ad 0)), (2, .ref (bd 0)), (3, .ref (ao))]) rfl (fun ls hl => ?_)
                        refine lv_goto (tgt := 23) F.x F.b d_L_law_937 (by decide) ?_
                        exact ih q60.2.1 q60.2.2 q64.2 ((v4) + 3) _ _ _ _ _ X (lv_sub hl [0, 3, 4, 5, 6] rfl) (by omega) (by omega) h
                      · have h := it_e hc h
                        refine lv_iconst (v := (0 : Int32)) F.x F.b d_L_law_433 (by decide) ?_
                        exact absurd h (by decide)
                    · have h := it_e hc h
                      refine lv_lconst (v := (1 : Int64)) F.x F.b d_L_law_424 (by decide) ?_
                      refine lv_goto (tgt := 429) F.x F.b d_L_law_425 (by decide) ?_
                      refine W.lcmp F.x F.b d_L_law_429 ?_
                      refine lv_if_eq (tgt := 435) F.x F.b d_L_law_430 (by decide) (fun hc => ?_) (fun hc => ?_)
                      · have h := it_t hc h
                        refine lv_goto (tgt := 934) F.x F.b d_L_law_435 (by decide) ?_
                        refine lv_iinc (k := 2) (v := (v4) + 3) F.x F.b d_L_law_934 hl rfl (ii_3 _) (by decide) (lv' := [(4, .int ((v4) + 3)), (6, .int (q63.1)), (5, .int (q60.1)), (0, .ref (b)), (1, .ref (ad 0)), (2, .ref (bd 0)), (3, .ref (ao))]) rfl (fun ls hl => ?_)
                        refine lv_goto (tgt := 23) F.x F.b d_L_law_937 (by decide) ?_
                        exact ih q60.2.1 q60.2.2 q64.2 ((v4) + 3) _ _ _ _ _ X (lv_sub hl [0, 3, 4, 5, 6] rfl) (by omega) (by omega) h
                      · have h := it_e hc h
                        refine lv_iconst (v := (0 : Int32)) F.x F.b d_L_law_433 (by decide) ?_
                        exact absurd h (by decide)
                · have h := it_e hc h
                  refine lv_iconst (v := (0 : Int32)) F.x F.b d_L_law_409 (by decide) ?_
                  exact absurd h (by decide)
              · have h := it_e hc4 h
                by_cases hc5 : ((xs (v4).toNatClampNeg) &&& ((15 : Int32))) = (5 : Int32)
                · have h := it_t hc5 h
                  refine lv_tableIn (off := 399) (tgt := 438) F.x F.b d_L_law_39 (by rw [hc5]; decide) (by rw [hc5]; decide) (by rw [hc5]; decide) (by decide) ?_
                  refine lv_aload_n F.x F.b d_L_law_438 rfl (lv_at hl 2 rfl) ?_
                  refine lv_aload_n F.x F.b d_L_law_439 rfl (lv_at hl 1 rfl) ?_
                  refine lv_iload F.x F.b d_L_law_440 (lv_at hl 0 rfl) ?_
                  refine lv_iconst (v := (1 : Int32)) F.x F.b d_L_law_442 (by decide) ?_
                  refine lv_iadd F.x F.b d_L_law_443 ?_
                  obtain ⟨hb51, h⟩ := it_b h
                  refine va_sld F.x F.b hX hbl hbA X.2.2 hb51 d_L_law_444 ?_
                  refine lv_aload_n F.x F.b d_L_law_445 rfl (lv_at hl 1 rfl) ?_
                  refine lv_iload F.x F.b d_L_law_446 (lv_at hl 0 rfl) ?_
                  refine lv_iconst (v := (2 : Int32)) F.x F.b d_L_law_448 (by decide) ?_
                  refine lv_iadd F.x F.b d_L_law_449 ?_
                  obtain ⟨hb52, h⟩ := it_b h
                  refine va_sld F.x F.b hX hbl hbA X.2.2 hb52 d_L_law_450 ?_
                  refine lv_aload_n F.x F.b d_L_law_451 rfl (lv_at hl 4 rfl) ?_
                  obtain ⟨q53, hq53, h⟩ := it_c h
                  refine r_sr F F.2.2.2.2.2.1 X hl.1 (c_L_same l hst D cI cJ ad ao z g (xs ((v4) + ((1 : Int32))).toNatClampNeg) (xs ((v4) + ((2 : Int32))).toNatClampNeg) q53 hq53) mt_345 mt_346 mt_0 mt_347 hd_L_same ⟨by decide, by decide⟩ ⟨rfl, rfl⟩ ⟨by show _ ≤ 601024; omega, by show _ ≤ 7293034; omega⟩ rfl (Nat.le_of_ble_eq_true rfl) d_L_law_452 rfl (fun H locs X => ?_)
                  refine lv_istore F.x F.b d_L_law_455 hl (by decide) (lv' := [(5, .int (q53.1)), (4, .int (v4)), (0, .ref (b)), (1, .ref (ad 0)), (2, .ref (bd 0)), (3, .ref (ao))]) rfl (fun ls hl => ?_)
                  refine lv_aload_n F.x F.b d_L_law_457 rfl (lv_at hl 4 rfl) ?_
                  refine lv_aload_n F.x F.b d_L_law_458 rfl (lv_at hl 2 rfl) ?_
                  refine lv_iload F.x F.b d_L_law_459 (lv_at hl 1 rfl) ?_
                  refine lv_iconst (v := (1 : Int32)) F.x F.b d_L_law_461 (by decide) ?_
                  refine lv_iadd F.x F.b d_L_law_462 ?_
                  obtain ⟨hb54, h⟩ := it_b h
                  refine va_sld F.x F.b hX hbl hbA X.2.2 hb54 d_L_law_463 ?_
                  refine lv_aload_n F.x F.b d_L_law_464 rfl (lv_at hl 2 rfl) ?_
                  refine lv_iload F.x F.b d_L_law_465 (lv_at hl 1 rfl) ?_
                  refine lv_iconst (v := (2 : Int32)) F.x F.b d_L_law_467 (by decide) ?_
                  refine lv_iadd F.x F.b d_L_law_468 ?_
                  obtain ⟨hb55, h⟩ := it_b h
                  refine va_sld F.x F.b hX hbl hbA X.2.2 hb55 d_L_law_469 ?_
                  obtain ⟨q56, hq56, h⟩ := it_c h
                  have X := X.swap
                  refine r_vr F (F.2.2.2.2.2.1.sub (tys' := [(cI, .int)]) [0] rfl) X hl.1 (c_M_same l D cI bd y (xs ((v4) + ((1 : Int32))).toNatClampNeg) (xs ((v4) + ((2 : Int32))).toNatClampNeg) q56 hq56) (gM_0 cI bd y) rfl mt_551 mt_552 mt_553 mt_5 mt_554 ⟨rfl, hd_M_same⟩ ⟨by decide, by decide⟩ ⟨rfl, rfl⟩ ⟨by show _ ≤ 601024; omega, by show _ ≤ 7293034; omega⟩ rfl (Nat.le_of_ble_eq_true rfl) d_L_law_470 rfl (fun H locs X => ?_)
                  have X := X.swap
                  refine lv_istore F.x F.b d_L_law_473 hl (by decide) (lv' := [(6, .int (q56.1)), (5, .int (q53.1)), (4, .int (v4)), (0, .ref (b)), (1, .ref (ad 0)), (2, .ref (bd 0)), (3, .ref (ao))]) rfl (fun ls hl => ?_)
                  refine lv_aload_n F.x F.b d_L_law_475 rfl (lv_at hl 5 rfl) ?_
                  obtain ⟨q57, hq57, h⟩ := it_c h
                  have X := X.swap
                  refine r_vr F (F.2.2.2.2.2.1.sub (tys' := [(cI, .int)]) [0] rfl) X hl.1 (c_M_thrown l D cI bd q56.2 q57 hq57) (gM_0 cI bd q56.2) rfl mt_494 mt_495 mt_496 mt_5 mt_497 ⟨rfl, hd_M_thrown⟩ ⟨by decide, by decide⟩ ⟨rfl, rfl⟩ ⟨by show _ ≤ 601024; omega, by show _ ≤ 7293034; omega⟩ rfl (Nat.le_of_ble_eq_true rfl) d_L_law_476 rfl (fun H locs X => ?_)
                  have X := X.swap
                  refine lv_iload F.x F.b d_L_law_479 (lv_at hl 1 rfl) ?_
                  refine lv_icmp_eq (tgt := 486) F.x F.b d_L_law_481 (by decide) (fun hc => ?_) (fun hc => ?_)
                  · have h := it_t hc h
                    refine lv_iload F.x F.b d_L_law_486 (lv_at hl 1 rfl) ?_
                    refine lv_if_ne (tgt := 510) F.x F.b d_L_law_488 (by decide) (fun hc => ?_) (fun hc => ?_)
                    · have h := it_e hc h
                      refine lv_goto (tgt := 934) F.x F.b d_L_law_510 (by decide) ?_
                      refine lv_iinc (k := 2) (v := (v4) + 3) F.x F.b d_L_law_934 hl rfl (ii_3 _) (by decide) (lv' := [(4, .int ((v4) + 3)), (6, .int (q56.1)), (5, .int (q53.1)), (0, .ref (b)), (1, .ref (ad 0)), (2, .ref (bd 0)), (3, .ref (ao))]) rfl (fun ls hl => ?_)
                      refine lv_goto (tgt := 23) F.x F.b d_L_law_937 (by decide) ?_
                      exact ih q53.2.1 q53.2.2 q57.2 ((v4) + 3) _ _ _ _ _ X (lv_sub hl [0, 3, 4, 5, 6] rfl) (by omega) (by omega) h
                    · have h := it_t hc h
                      refine lv_aload_n F.x F.b d_L_law_491 rfl (lv_at hl 6 rfl) ?_
                      refine lv_iconst (v := (0 : Int32)) F.x F.b d_L_law_492 (by decide) ?_
                      refine va_lald F.x F.b F.2.2.2.2.2.1 X.1 15 1 (f := q53.2.2) rfl rfl vp01 d_L_law_493 ?_
                      refine lv_iload F.x F.b d_L_law_494 (lv_at hl 0 rfl) ?_
                      refine lv_if_eq (tgt := 503) F.x F.b d_L_law_496 (by decide) (fun hc => ?_) (fun hc => ?_)
                      · have h := it_t hc h
                        refine lv_lconst (v := (0 : Int64)) F.x F.b d_L_law_503 (by decide) ?_
                        refine W.lcmp F.x F.b d_L_law_504 ?_
                        refine lv_if_eq (tgt := 510) F.x F.b d_L_law_505 (by decide) (fun hc => ?_) (fun hc => ?_)
                        · have h := it_t hc h
                          refine lv_goto (tgt := 934) F.x F.b d_L_law_510 (by decide) ?_
                          refine lv_iinc (k := 2) (v := (v4) + 3) F.x F.b d_L_law_934 hl rfl (ii_3 _) (by decide) (lv' := [(4, .int ((v4) + 3)), (6, .int (q56.1)), (5, .int (q53.1)), (0, .ref (b)), (1, .ref (ad 0)), (2, .ref (bd 0)), (3, .ref (ao))]) rfl (fun ls hl => ?_)
                          refine lv_goto (tgt := 23) F.x F.b d_L_law_937 (by decide) ?_
                          exact ih q53.2.1 q53.2.2 q57.2 ((v4) + 3) _ _ _ _ _ X (lv_sub hl [0, 3, 4, 5, 6] rfl) (by omega) (by omega) h
                        · have h := it_e hc h
                          refine lv_iconst (v := (0 : Int32)) F.x F.b d_L_law_508 (by decide) ?_
                          exact absurd h (by decide)
                      · have h := it_e hc h
                        refine lv_lconst (v := (1 : Int64)) F.x F.b d_L_law_499 (by decide) ?_
                        refine lv_goto (tgt := 504) F.x F.b d_L_law_500 (by decide) ?_
                        refine W.lcmp F.x F.b d_L_law_504 ?_
                        refine lv_if_eq (tgt := 510) F.x F.b d_L_law_505 (by decide) (fun hc => ?_) (fun hc => ?_)
                        · have h := it_t hc h
                          refine lv_goto (tgt := 934) F.x F.b d_L_law_510 (by decide) ?_
                          refine lv_iinc (k := 2) (v := (v4) + 3) F.x F.b d_L_law_934 hl rfl (ii_3 _) (by decide) (lv' := [(4, .int ((v4) + 3)), (6, .int (q56.1)), (5, .int (q53.1)), (0, .ref (b)), (1, .ref (ad 0)), (2, .ref (bd 0)), (3, .ref (ao))]) rfl (fun ls hl => ?_)
                          refine lv_goto (tgt := 23) F.x F.b d_L_law_937 (by decide) ?_
                          exact ih q53.2.1 q53.2.2 q57.2 ((v4) + 3) _ _ _ _ _ X (lv_sub hl [0, 3, 4, 5, 6] rfl) (by omega) (by omega) h
                        · have h := it_e hc h
                          refine lv_iconst (v := (0 : Int32)) F.x F.b d_L_law_508 (by decide) ?_
                          exact absurd h (by decide)
                  · have h := it_e hc h
                    refine lv_iconst (v := (0 : Int32)) F.x F.b d_L_law_484 (by decide) ?_
                    exact absurd h (by decide)
                · have h := it_e hc5 h
                  by_cases hc6 : ((xs (v4).toNatClampNeg) &&& ((15 : Int32))) = (6 : Int32)
                  · have h := it_t hc6 h
                    refine lv_tableIn (off := 474) (tgt := 513) F.x F.b d_L_law_39 (by rw [hc6]; decide) (by rw [hc6]; decide) (by rw [hc6]; decide) (by decide) ?_
                    refine lv_aload_n F.x F.b d_L_law_513 rfl (lv_at hl 2 rfl) ?_
                    refine lv_aload_n F.x F.b d_L_law_514 rfl (lv_at hl 1 rfl) ?_
                    refine lv_iload F.x F.b d_L_law_515 (lv_at hl 0 rfl) ?_
                    refine lv_iconst (v := (1 : Int32)) F.x F.b d_L_law_517 (by decide) ?_
                    refine lv_iadd F.x F.b d_L_law_518 ?_
                    obtain ⟨hb44, h⟩ := it_b h
                    refine va_sld F.x F.b hX hbl hbA X.2.2 hb44 d_L_law_519 ?_
                    refine lv_aload_n F.x F.b d_L_law_520 rfl (lv_at hl 1 rfl) ?_
                    refine lv_iload F.x F.b d_L_law_521 (lv_at hl 0 rfl) ?_
                    refine lv_iconst (v := (2 : Int32)) F.x F.b d_L_law_523 (by decide) ?_
                    refine lv_iadd F.x F.b d_L_law_524 ?_
                    obtain ⟨hb45, h⟩ := it_b h
                    refine va_sld F.x F.b hX hbl hbA X.2.2 hb45 d_L_law_525 ?_
                    refine lv_aload_n F.x F.b d_L_law_526 rfl (lv_at hl 4 rfl) ?_
                    obtain ⟨q46, hq46, h⟩ := it_c h
                    refine r_sr F F.2.2.2.2.2.1 X hl.1 (c_L_renamed l hst D cI cJ ad ao z g (xs ((v4) + ((1 : Int32))).toNatClampNeg) (xs ((v4) + ((2 : Int32))).toNatClampNeg) q46 hq46) mt_352 mt_353 mt_0 mt_354 hd_L_renamed ⟨by decide, by decide⟩ ⟨rfl, rfl⟩ ⟨by show _ ≤ 601024; omega, by show _ ≤ 7293034; omega⟩ rfl (Nat.le_of_ble_eq_true rfl) d_L_law_527 rfl (fun H locs X => ?_)
                    refine lv_istore F.x F.b d_L_law_530 hl (by decide) (lv' := [(5, .int (q46.1)), (4, .int (v4)), (0, .ref (b)), (1, .ref (ad 0)), (2, .ref (bd 0)), (3, .ref (ao))]) rfl (fun ls hl => ?_)
                    refine lv_aload_n F.x F.b d_L_law_532 rfl (lv_at hl 4 rfl) ?_
                    refine lv_aload_n F.x F.b d_L_law_533 rfl (lv_at hl 2 rfl) ?_
                    refine lv_iload F.x F.b d_L_law_534 (lv_at hl 1 rfl) ?_
                    refine lv_iconst (v := (1 : Int32)) F.x F.b d_L_law_536 (by decide) ?_
                    refine lv_iadd F.x F.b d_L_law_537 ?_
                    obtain ⟨hb47, h⟩ := it_b h
                    refine va_sld F.x F.b hX hbl hbA X.2.2 hb47 d_L_law_538 ?_
                    refine lv_aload_n F.x F.b d_L_law_539 rfl (lv_at hl 2 rfl) ?_
                    refine lv_iload F.x F.b d_L_law_540 (lv_at hl 1 rfl) ?_
                    refine lv_iconst (v := (2 : Int32)) F.x F.b d_L_law_542 (by decide) ?_
                    refine lv_iadd F.x F.b d_L_law_543 ?_
                    obtain ⟨hb48, h⟩ := it_b h
                    refine va_sld F.x F.b hX hbl hbA X.2.2 hb48 d_L_law_544 ?_
                    obtain ⟨q49, hq49, h⟩ := it_c h
                    have X := X.swap
                    refine r_vr F (F.2.2.2.2.2.1.sub (tys' := [(cI, .int)]) [0] rfl) X hl.1 (c_M_renamed l D cI bd y (xs ((v4) + ((1 : Int32))).toNatClampNeg) (xs ((v4) + ((2 : Int32))).toNatClampNeg) q49 hq49) (gM_0 cI bd y) rfl mt_567 mt_568 mt_569 mt_5 mt_570 ⟨rfl, hd_M_renamed⟩ ⟨by decide, by decide⟩ ⟨rfl, rfl⟩ ⟨by show _ ≤ 601024; omega, by show _ ≤ 7293034; omega⟩ rfl (Nat.le_of_ble_eq_true rfl) d_L_law_545 rfl (fun H locs X => ?_)
                    have X := X.swap
                    refine lv_istore F.x F.b d_L_law_548 hl (by decide) (lv' := [(6, .int (q49.1)), (5, .int (q46.1)), (4, .int (v4)), (0, .ref (b)), (1, .ref (ad 0)), (2, .ref (bd 0)), (3, .ref (ao))]) rfl (fun ls hl => ?_)
                    refine lv_aload_n F.x F.b d_L_law_550 rfl (lv_at hl 5 rfl) ?_
                    obtain ⟨q50, hq50, h⟩ := it_c h
                    have X := X.swap
                    refine r_vr F (F.2.2.2.2.2.1.sub (tys' := [(cI, .int)]) [0] rfl) X hl.1 (c_M_thrown l D cI bd q49.2 q50 hq50) (gM_0 cI bd q49.2) rfl mt_494 mt_495 mt_496 mt_5 mt_497 ⟨rfl, hd_M_thrown⟩ ⟨by decide, by decide⟩ ⟨rfl, rfl⟩ ⟨by show _ ≤ 601024; omega, by show _ ≤ 7293034; omega⟩ rfl (Nat.le_of_ble_eq_true rfl) d_L_law_551 rfl (fun H locs X => ?_)
                    have X := X.swap
                    refine lv_iload F.x F.b d_L_law_554 (lv_at hl 1 rfl) ?_
                    refine lv_icmp_eq (tgt := 561) F.x F.b d_L_law_556 (by decide) (fun hc => ?_) (fun hc => ?_)
                    · have h := it_t hc h
                      refine lv_iload F.x F.b d_L_law_561 (lv_at hl 1 rfl) ?_
                      refine lv_if_ne (tgt := 585) F.x F.b d_L_law_563 (by decide) (fun hc => ?_) (fun hc => ?_)
                      · have h := it_e hc h
                        refine lv_goto (tgt := 934) F.x F.b d_L_law_585 (by decide) ?_
                        refine lv_iinc (k := 2) (v := (v4) + 3) F.x F.b d_L_law_934 hl rfl (ii_3 _) (by decide) (lv' := [(4, .int ((v4) + 3)), (6, .int (q49.1)), (5, .int (q46.1)), (0, .ref (b)), (1, .ref (ad 0)), (2, .ref (bd 0)), (3, .ref (ao))]) rfl (fun ls hl => ?_)
                        refine lv_goto (tgt := 23) F.x F.b d_L_law_937 (by decide) ?_
                        exact ih q46.2.1 q46.2.2 q50.2 ((v4) + 3) _ _ _ _ _ X (lv_sub hl [0, 3, 4, 5, 6] rfl) (by omega) (by omega) h
                      · have h := it_t hc h
                        refine lv_aload_n F.x F.b d_L_law_566 rfl (lv_at hl 6 rfl) ?_
                        refine lv_iconst (v := (0 : Int32)) F.x F.b d_L_law_567 (by decide) ?_
                        refine va_lald F.x F.b F.2.2.2.2.2.1 X.1 15 1 (f := q46.2.2) rfl rfl vp01 d_L_law_568 ?_
                        refine lv_iload F.x F.b d_L_law_569 (lv_at hl 0 rfl) ?_
                        refine lv_if_eq (tgt := 578) F.x F.b d_L_law_571 (by decide) (fun hc => ?_) (fun hc => ?_)
                        · have h := it_t hc h
                          refine lv_lconst (v := (0 : Int64)) F.x F.b d_L_law_578 (by decide) ?_
                          refine W.lcmp F.x F.b d_L_law_579 ?_
                          refine lv_if_eq (tgt := 585) F.x F.b d_L_law_580 (by decide) (fun hc => ?_) (fun hc => ?_)
                          · have h := it_t hc h
                            refine lv_goto (tgt := 934) F.x F.b d_L_law_585 (by decide) ?_
                            refine lv_iinc (k := 2) (v := (v4) + 3) F.x F.b d_L_law_934 hl rfl (ii_3 _) (by decide) (lv' := [(4, .int ((v4) + 3)), (6, .int (q49.1)), (5, .int (q46.1)), (0, .ref (b)), (1, .ref (ad 0)), (2, .ref (bd 0)), (3, .ref (ao))]) rfl (fun ls hl => ?_)
                            refine lv_goto (tgt := 23) F.x F.b d_L_law_937 (by decide) ?_
                            exact ih q46.2.1 q46.2.2 q50.2 ((v4) + 3) _ _ _ _ _ X (lv_sub hl [0, 3, 4, 5, 6] rfl) (by omega) (by omega) h
                          · have h := it_e hc h
                            refine lv_iconst (v := (0 : Int32)) F.x F.b d_L_law_583 (by decide) ?_
                            exact absurd h (by decide)
                        · have h := it_e hc h
                          refine lv_lconst (v := (1 : Int64)) F.x F.b d_L_law_574 (by decide) ?_
                          refine lv_goto (tgt := 579) F.x F.b d_L_law_575 (by decide) ?_
                          refine W.lcmp F.x F.b d_L_law_579 ?_
                          refine lv_if_eq (tgt := 585) F.x F.b d_L_law_580 (by decide) (fun hc => ?_) (fun hc => ?_)
                          · have h := it_t hc h
                            refine lv_goto (tgt := 934) F.x F.b d_L_law_585 (by decide) ?_
                            refine lv_iinc (k := 2) (v := (v4) + 3) F.x F.b d_L_law_934 hl rfl (ii_3 _) (by decide) (lv' := [(4, .int ((v4) + 3)), (6, .int (q49.1)), (5, .int (q46.1)), (0, .ref (b)), (1, .ref (ad 0)), (2, .ref (bd 0)), (3, .ref (ao))]) rfl (fun ls hl => ?_)
                            refine lv_goto (tgt := 23) F.x F.b d_L_law_937 (by decide) ?_
                            exact ih q46.2.1 q46.2.2 q50.2 ((v4) + 3) _ _ _ _ _ X (lv_sub hl [0, 3, 4, 5, 6] rfl) (by omega) (by omega) h
                          · have h := it_e hc h
                            refine lv_iconst (v := (0 : Int32)) F.x F.b d_L_law_583 (by decide) ?_
                            exact absurd h (by decide)
                    · have h := it_e hc h
                      refine lv_iconst (v := (0 : Int32)) F.x F.b d_L_law_559 (by decide) ?_
                      exact absurd h (by decide)
                  · have h := it_e hc6 h
                    by_cases hc7 : ((xs (v4).toNatClampNeg) &&& ((15 : Int32))) = (7 : Int32)
                    · have h := it_t hc7 h
                      refine lv_tableIn (off := 549) (tgt := 588) F.x F.b d_L_law_39 (by rw [hc7]; decide) (by rw [hc7]; decide) (by rw [hc7]; decide) (by decide) ?_
                      refine lv_aload_n F.x F.b d_L_law_588 rfl (lv_at hl 2 rfl) ?_
                      refine lv_aload_n F.x F.b d_L_law_589 rfl (lv_at hl 1 rfl) ?_
                      refine lv_iload F.x F.b d_L_law_590 (lv_at hl 0 rfl) ?_
                      refine lv_iconst (v := (1 : Int32)) F.x F.b d_L_law_592 (by decide) ?_
                      refine lv_iadd F.x F.b d_L_law_593 ?_
                      obtain ⟨hb39, h⟩ := it_b h
                      refine va_sld F.x F.b hX hbl hbA X.2.2 hb39 d_L_law_594 ?_
                      refine lv_aload_n F.x F.b d_L_law_595 rfl (lv_at hl 4 rfl) ?_
                      obtain ⟨q40, hq40, h⟩ := it_c h
                      refine r_sr F F.2.2.2.2.2.1 X hl.1 (c_L_kind l hst D cI cJ ad ao z g (xs ((v4) + ((1 : Int32))).toNatClampNeg) q40 hq40) mt_367 mt_368 mt_0 mt_369 hd_L_kind ⟨by decide, by decide⟩ ⟨rfl, rfl⟩ ⟨by show _ ≤ 601024; omega, by show _ ≤ 7293034; omega⟩ rfl (Nat.le_of_ble_eq_true rfl) d_L_law_596 rfl (fun H locs X => ?_)
                      refine lv_istore F.x F.b d_L_law_599 hl (by decide) (lv' := [(5, .int (q40.1)), (4, .int (v4)), (0, .ref (b)), (1, .ref (ad 0)), (2, .ref (bd 0)), (3, .ref (ao))]) rfl (fun ls hl => ?_)
                      refine lv_aload_n F.x F.b d_L_law_601 rfl (lv_at hl 4 rfl) ?_
                      refine lv_aload_n F.x F.b d_L_law_602 rfl (lv_at hl 2 rfl) ?_
                      refine lv_iload F.x F.b d_L_law_603 (lv_at hl 1 rfl) ?_
                      refine lv_iconst (v := (1 : Int32)) F.x F.b d_L_law_605 (by decide) ?_
                      refine lv_iadd F.x F.b d_L_law_606 ?_
                      obtain ⟨hb41, h⟩ := it_b h
                      refine va_sld F.x F.b hX hbl hbA X.2.2 hb41 d_L_law_607 ?_
                      obtain ⟨q42, hq42, h⟩ := it_c h
                      have X := X.swap
                      refine r_vr F (F.2.2.2.2.2.1.sub (tys' := [(cI, .int)]) [0] rfl) X hl.1 (c_M_kind l D cI bd y (xs ((v4) + ((1 : Int32))).toNatClampNeg) q42 hq42) (gM_0 cI bd y) rfl mt_575 mt_576 mt_577 mt_5 mt_578 ⟨rfl, hd_M_kind⟩ ⟨by decide, by decide⟩ ⟨rfl, rfl⟩ ⟨by show _ ≤ 601024; omega, by show _ ≤ 7293034; omega⟩ rfl (Nat.le_of_ble_eq_true rfl) d_L_law_608 rfl (fun H locs X => ?_)
                      have X := X.swap
                      refine lv_istore F.x F.b d_L_law_611 hl (by decide) (lv' := [(6, .int (q42.1)), (5, .int (q40.1)), (4, .int (v4)), (0, .ref (b)), (1, .ref (ad 0)), (2, .ref (bd 0)), (3, .ref (ao))]) rfl (fun ls hl => ?_)
                      refine lv_aload_n F.x F.b d_L_law_613 rfl (lv_at hl 5 rfl) ?_
                      obtain ⟨q43, hq43, h⟩ := it_c h
                      have X := X.swap
                      refine r_vr F (F.2.2.2.2.2.1.sub (tys' := [(cI, .int)]) [0] rfl) X hl.1 (c_M_thrown l D cI bd q42.2 q43 hq43) (gM_0 cI bd q42.2) rfl mt_494 mt_495 mt_496 mt_5 mt_497 ⟨rfl, hd_M_thrown⟩ ⟨by decide, by decide⟩ ⟨rfl, rfl⟩ ⟨by show _ ≤ 601024; omega, by show _ ≤ 7293034; omega⟩ rfl (Nat.le_of_ble_eq_true rfl) d_L_law_614 rfl (fun H locs X => ?_)
                      have X := X.swap
                      refine lv_iload F.x F.b d_L_law_617 (lv_at hl 1 rfl) ?_
                      refine lv_icmp_eq (tgt := 624) F.x F.b d_L_law_619 (by decide) (fun hc => ?_) (fun hc => ?_)
                      · have h := it_t hc h
                        refine lv_iload F.x F.b d_L_law_624 (lv_at hl 1 rfl) ?_
                        refine lv_if_ne (tgt := 641) F.x F.b d_L_law_626 (by decide) (fun hc => ?_) (fun hc => ?_)
                        · have h := it_e hc h
                          refine lv_goto (tgt := 934) F.x F.b d_L_law_641 (by decide) ?_
                          refine lv_iinc (k := 2) (v := (v4) + 3) F.x F.b d_L_law_934 hl rfl (ii_3 _) (by decide) (lv' := [(4, .int ((v4) + 3)), (6, .int (q42.1)), (5, .int (q40.1)), (0, .ref (b)), (1, .ref (ad 0)), (2, .ref (bd 0)), (3, .ref (ao))]) rfl (fun ls hl => ?_)
                          refine lv_goto (tgt := 23) F.x F.b d_L_law_937 (by decide) ?_
                          exact ih q40.2.1 q40.2.2 q43.2 ((v4) + 3) _ _ _ _ _ X (lv_sub hl [0, 3, 4, 5, 6] rfl) (by omega) (by omega) h
                        · have h := it_t hc h
                          refine lv_aload_n F.x F.b d_L_law_629 rfl (lv_at hl 6 rfl) ?_
                          refine lv_iconst (v := (0 : Int32)) F.x F.b d_L_law_630 (by decide) ?_
                          refine va_lald F.x F.b F.2.2.2.2.2.1 X.1 15 1 (f := q40.2.2) rfl rfl vp01 d_L_law_631 ?_
                          refine lv_iload F.x F.b d_L_law_632 (lv_at hl 0 rfl) ?_
                          refine lv_i2l (v := (q42.1).toInt64) F.x F.b d_L_law_634 rfl ?_
                          refine W.lcmp F.x F.b d_L_law_635 ?_
                          refine lv_if_eq (tgt := 641) F.x F.b d_L_law_636 (by decide) (fun hc => ?_) (fun hc => ?_)
                          · have h := it_t hc h
                            refine lv_goto (tgt := 934) F.x F.b d_L_law_641 (by decide) ?_
                            refine lv_iinc (k := 2) (v := (v4) + 3) F.x F.b d_L_law_934 hl rfl (ii_3 _) (by decide) (lv' := [(4, .int ((v4) + 3)), (6, .int (q42.1)), (5, .int (q40.1)), (0, .ref (b)), (1, .ref (ad 0)), (2, .ref (bd 0)), (3, .ref (ao))]) rfl (fun ls hl => ?_)
                            refine lv_goto (tgt := 23) F.x F.b d_L_law_937 (by decide) ?_
                            exact ih q40.2.1 q40.2.2 q43.2 ((v4) + 3) _ _ _ _ _ X (lv_sub hl [0, 3, 4, 5, 6] rfl) (by omega) (by omega) h
                          · have h := it_e hc h
                            refine lv_iconst (v := (0 : Int32)) F.x F.b d_L_law_639 (by decide) ?_
                            exact absurd h (by decide)
                      · have h := it_e hc h
                        refine lv_iconst (v := (0 : Int32)) F.x F.b d_L_law_622 (by decide) ?_
                        exact absurd h (by decide)
                    · have h := it_e hc7 h
                      by_cases hc8 : ((xs (v4).toNatClampNeg) &&& ((15 : Int32))) = (8 : Int32)
                      · have h := it_t hc8 h
                        refine lv_tableIn (off := 605) (tgt := 644) F.x F.b d_L_law_39 (by rw [hc8]; decide) (by rw [hc8]; decide) (by rw [hc8]; decide) (by decide) ?_
                        refine lv_aload_n F.x F.b d_L_law_644 rfl (lv_at hl 2 rfl) ?_
                        refine lv_aload_n F.x F.b d_L_law_645 rfl (lv_at hl 1 rfl) ?_
                        refine lv_iload F.x F.b d_L_law_646 (lv_at hl 0 rfl) ?_
                        refine lv_iconst (v := (1 : Int32)) F.x F.b d_L_law_648 (by decide) ?_
                        refine lv_iadd F.x F.b d_L_law_649 ?_
                        obtain ⟨hb23, h⟩ := it_b h
                        refine va_sld F.x F.b hX hbl hbA X.2.2 hb23 d_L_law_650 ?_
                        refine lv_aload_n F.x F.b d_L_law_651 rfl (lv_at hl 1 rfl) ?_
                        refine lv_iload F.x F.b d_L_law_652 (lv_at hl 0 rfl) ?_
                        refine lv_iconst (v := (2 : Int32)) F.x F.b d_L_law_654 (by decide) ?_
                        refine lv_iadd F.x F.b d_L_law_655 ?_
                        obtain ⟨hb24, h⟩ := it_b h
                        refine va_sld F.x F.b hX hbl hbA X.2.2 hb24 d_L_law_656 ?_
                        refine lv_if_eq (tgt := 664) F.x F.b d_L_law_657 (by decide) (fun hc => ?_) (fun hc => ?_)
                        · have h := it_t hc h
                          refine lv_iconst (v := (0 : Int32)) F.x F.b d_L_law_664 (by decide) ?_
                          refine lv_aload_n F.x F.b d_L_law_665 rfl (lv_at hl 4 rfl) ?_
                          obtain ⟨q25, hq25, h⟩ := it_c h
                          refine r_sr F F.2.2.2.2.2.1 X hl.1 (c_L_part l hst D cI cJ ad ao z g (xs ((v4) + ((1 : Int32))).toNatClampNeg) ((0 : Int32)) q25 hq25) mt_374 mt_375 mt_0 mt_376 hd_L_part ⟨by decide, by decide⟩ ⟨rfl, rfl⟩ ⟨by show _ ≤ 601024; omega, by show _ ≤ 7293034; omega⟩ rfl (Nat.le_of_ble_eq_true rfl) d_L_law_666 rfl (fun H locs X => ?_)
                          refine lv_istore F.x F.b d_L_law_669 hl (by decide) (lv' := [(5, .int (q25.1)), (4, .int (v4)), (0, .ref (b)), (1, .ref (ad 0)), (2, .ref (bd 0)), (3, .ref (ao))]) rfl (fun ls hl => ?_)
                          refine lv_aload_n F.x F.b d_L_law_671 rfl (lv_at hl 4 rfl) ?_
                          refine lv_aload_n F.x F.b d_L_law_672 rfl (lv_at hl 2 rfl) ?_
                          refine lv_iload F.x F.b d_L_law_673 (lv_at hl 1 rfl) ?_
                          refine lv_iconst (v := (1 : Int32)) F.x F.b d_L_law_675 (by decide) ?_
                          refine lv_iadd F.x F.b d_L_law_676 ?_
                          obtain ⟨hb26, h⟩ := it_b h
                          refine va_sld F.x F.b hX hbl hbA X.2.2 hb26 d_L_law_677 ?_
                          refine lv_aload_n F.x F.b d_L_law_678 rfl (lv_at hl 2 rfl) ?_
                          refine lv_iload F.x F.b d_L_law_679 (lv_at hl 1 rfl) ?_
                          refine lv_iconst (v := (2 : Int32)) F.x F.b d_L_law_681 (by decide) ?_
                          refine lv_iadd F.x F.b d_L_law_682 ?_
                          obtain ⟨hb27, h⟩ := it_b h
                          refine va_sld F.x F.b hX hbl hbA X.2.2 hb27 d_L_law_683 ?_
                          refine lv_if_eq (tgt := 691) F.x F.b d_L_law_684 (by decide) (fun hc => ?_) (fun hc => ?_)
                          · have h := it_t hc h
                            refine lv_iconst (v := (0 : Int32)) F.x F.b d_L_law_691 (by decide) ?_
                            obtain ⟨q28, hq28, h⟩ := it_c h
                            have X := X.swap
                            refine r_vr F (F.2.2.2.2.2.1.sub (tys' := [(cI, .int)]) [0] rfl) X hl.1 (c_M_part l D cI bd y (xs ((v4) + ((1 : Int32))).toNatClampNeg) ((0 : Int32)) q28 hq28) (gM_0 cI bd y) rfl mt_579 mt_580 mt_581 mt_5 mt_582 ⟨rfl, hd_M_part⟩ ⟨by decide, by decide⟩ ⟨rfl, rfl⟩ ⟨by show _ ≤ 601024; omega, by show _ ≤ 7293034; omega⟩ rfl (Nat.le_of_ble_eq_true rfl) d_L_law_692 rfl (fun H locs X => ?_)
                            have X := X.swap
                            refine lv_istore F.x F.b d_L_law_695 hl (by decide) (lv' := [(6, .int (q28.1)), (5, .int (q25.1)), (4, .int (v4)), (0, .ref (b)), (1, .ref (ad 0)), (2, .ref (bd 0)), (3, .ref (ao))]) rfl (fun ls hl => ?_)
                            refine lv_aload_n F.x F.b d_L_law_697 rfl (lv_at hl 5 rfl) ?_
                            obtain ⟨q29, hq29, h⟩ := it_c h
                            have X := X.swap
                            refine r_vr F (F.2.2.2.2.2.1.sub (tys' := [(cI, .int)]) [0] rfl) X hl.1 (c_M_thrown l D cI bd q28.2 q29 hq29) (gM_0 cI bd q28.2) rfl mt_494 mt_495 mt_496 mt_5 mt_497 ⟨rfl, hd_M_thrown⟩ ⟨by decide, by decide⟩ ⟨rfl, rfl⟩ ⟨by show _ ≤ 601024; omega, by show _ ≤ 7293034; omega⟩ rfl (Nat.le_of_ble_eq_true rfl) d_L_law_698 rfl (fun H locs X => ?_)
                            have X := X.swap
                            refine lv_iload F.x F.b d_L_law_701 (lv_at hl 1 rfl) ?_
                            refine lv_icmp_eq (tgt := 708) F.x F.b d_L_law_703 (by decide) (fun hc => ?_) (fun hc => ?_)
                            · have h := it_t hc h
                              refine lv_iload F.x F.b d_L_law_708 (lv_at hl 1 rfl) ?_
                              refine lv_if_ne (tgt := 725) F.x F.b d_L_law_710 (by decide) (fun hc => ?_) (fun hc => ?_)
                              · have h := it_e hc h
                                refine lv_goto (tgt := 934) F.x F.b d_L_law_725 (by decide) ?_
                                refine lv_iinc (k := 2) (v := (v4) + 3) F.x F.b d_L_law_934 hl rfl (ii_3 _) (by decide) (lv' := [(4, .int ((v4) + 3)), (6, .int (q28.1)), (5, .int (q25.1)), (0, .ref (b)), (1, .ref (ad 0)), (2, .ref (bd 0)), (3, .ref (ao))]) rfl (fun ls hl => ?_)
                                refine lv_goto (tgt := 23) F.x F.b d_L_law_937 (by decide) ?_
                                exact ih q25.2.1 q25.2.2 q29.2 ((v4) + 3) _ _ _ _ _ X (lv_sub hl [0, 3, 4, 5, 6] rfl) (by omega) (by omega) h
                              · have h := it_t hc h
                                refine lv_aload_n F.x F.b d_L_law_713 rfl (lv_at hl 6 rfl) ?_
                                refine lv_iconst (v := (0 : Int32)) F.x F.b d_L_law_714 (by decide) ?_
                                refine va_lald F.x F.b F.2.2.2.2.2.1 X.1 15 1 (f := q25.2.2) rfl rfl vp01 d_L_law_715 ?_
                                refine lv_iload F.x F.b d_L_law_716 (lv_at hl 0 rfl) ?_
                                refine lv_i2l (v := (q28.1).toInt64) F.x F.b d_L_law_718 rfl ?_
                                refine W.lcmp F.x F.b d_L_law_719 ?_
                                refine lv_if_eq (tgt := 725) F.x F.b d_L_law_720 (by decide) (fun hc => ?_) (fun hc => ?_)
                                · have h := it_t hc h
                                  refine lv_goto (tgt := 934) F.x F.b d_L_law_725 (by decide) ?_
                                  refine lv_iinc (k := 2) (v := (v4) + 3) F.x F.b d_L_law_934 hl rfl (ii_3 _) (by decide) (lv' := [(4, .int ((v4) + 3)), (6, .int (q28.1)), (5, .int (q25.1)), (0, .ref (b)), (1, .ref (ad 0)), (2, .ref (bd 0)), (3, .ref (ao))]) rfl (fun ls hl => ?_)
                                  refine lv_goto (tgt := 23) F.x F.b d_L_law_937 (by decide) ?_
                                  exact ih q25.2.1 q25.2.2 q29.2 ((v4) + 3) _ _ _ _ _ X (lv_sub hl [0, 3, 4, 5, 6] rfl) (by omega) (by omega) h
                                · have h := it_e hc h
                                  refine lv_iconst (v := (0 : Int32)) F.x F.b d_L_law_723 (by decide) ?_
                                  exact absurd h (by decide)
                            · have h := it_e hc h
                              refine lv_iconst (v := (0 : Int32)) F.x F.b d_L_law_706 (by decide) ?_
                              exact absurd h (by decide)
                          · have h := it_e hc h
                            refine lv_iconst (v := (1 : Int32)) F.x F.b d_L_law_687 (by decide) ?_
                            refine lv_goto (tgt := 692) F.x F.b d_L_law_688 (by decide) ?_
                            obtain ⟨q30, hq30, h⟩ := it_c h
                            have X := X.swap
                            refine r_vr F (F.2.2.2.2.2.1.sub (tys' := [(cI, .int)]) [0] rfl) X hl.1 (c_M_part l D cI bd y (xs ((v4) + ((1 : Int32))).toNatClampNeg) ((1 : Int32)) q30 hq30) (gM_0 cI bd y) rfl mt_579 mt_580 mt_581 mt_5 mt_582 ⟨rfl, hd_M_part⟩ ⟨by decide, by decide⟩ ⟨rfl, rfl⟩ ⟨by show _ ≤ 601024; omega, by show _ ≤ 7293034; omega⟩ rfl (Nat.le_of_ble_eq_true rfl) d_L_law_692 rfl (fun H locs X => ?_)
                            have X := X.swap
                            refine lv_istore F.x F.b d_L_law_695 hl (by decide) (lv' := [(6, .int (q30.1)), (5, .int (q25.1)), (4, .int (v4)), (0, .ref (b)), (1, .ref (ad 0)), (2, .ref (bd 0)), (3, .ref (ao))]) rfl (fun ls hl => ?_)
                            refine lv_aload_n F.x F.b d_L_law_697 rfl (lv_at hl 5 rfl) ?_
                            obtain ⟨q31, hq31, h⟩ := it_c h
                            have X := X.swap
                            refine r_vr F (F.2.2.2.2.2.1.sub (tys' := [(cI, .int)]) [0] rfl) X hl.1 (c_M_thrown l D cI bd q30.2 q31 hq31) (gM_0 cI bd q30.2) rfl mt_494 mt_495 mt_496 mt_5 mt_497 ⟨rfl, hd_M_thrown⟩ ⟨by decide, by decide⟩ ⟨rfl, rfl⟩ ⟨by show _ ≤ 601024; omega, by show _ ≤ 7293034; omega⟩ rfl (Nat.le_of_ble_eq_true rfl) d_L_law_698 rfl (fun H locs X => ?_)
                            have X := X.swap
                            refine lv_iload F.x F.b d_L_law_701 (lv_at hl 1 rfl) ?_
                            refine lv_icmp_eq (tgt := 708) F.x F.b d_L_law_703 (by decide) (fun hc => ?_) (fun hc => ?_)
                            · have h := it_t hc h
                              refine lv_iload F.x F.b d_L_law_708 (lv_at hl 1 rfl) ?_
                              refine lv_if_ne (tgt := 725) F.x F.b d_L_law_710 (by decide) (fun hc => ?_) (fun hc => ?_)
                              · have h := it_e hc h
                                refine lv_goto (tgt := 934) F.x F.b d_L_law_725 (by decide) ?_
                                refine lv_iinc (k := 2) (v := (v4) + 3) F.x F.b d_L_law_934 hl rfl (ii_3 _) (by decide) (lv' := [(4, .int ((v4) + 3)), (6, .int (q30.1)), (5, .int (q25.1)), (0, .ref (b)), (1, .ref (ad 0)), (2, .ref (bd 0)), (3, .ref (ao))]) rfl (fun ls hl => ?_)
                                refine lv_goto (tgt := 23) F.x F.b d_L_law_937 (by decide) ?_
                                exact ih q25.2.1 q25.2.2 q31.2 ((v4) + 3) _ _ _ _ _ X (lv_sub hl [0, 3, 4, 5, 6] rfl) (by omega) (by omega) h
                              · have h := it_t hc h
                                refine lv_aload_n F.x F.b d_L_law_713 rfl (lv_at hl 6 rfl) ?_
                                refine lv_iconst (v := (0 : Int32)) F.x F.b d_L_law_714 (by decide) ?_
                                refine va_lald F.x F.b F.2.2.2.2.2.1 X.1 15 1 (f := q25.2.2) rfl rfl vp01 d_L_law_715 ?_
                                refine lv_iload F.x F.b d_L_law_716 (lv_at hl 0 rfl) ?_
                                refine lv_i2l (v := (q30.1).toInt64) F.x F.b d_L_law_718 rfl ?_
                                refine W.lcmp F.x F.b d_L_law_719 ?_
                                refine lv_if_eq (tgt := 725) F.x F.b d_L_law_720 (by decide) (fun hc => ?_) (fun hc => ?_)
                                · have h := it_t hc h
                                  refine lv_goto (tgt := 934) F.x F.b d_L_law_725 (by decide) ?_
                                  refine lv_iinc (k := 2) (v := (v4) + 3) F.x F.b d_L_law_934 hl rfl (ii_3 _) (by decide) (lv' := [(4, .int ((v4) + 3)), (6, .int (q30.1)), (5, .int (q25.1)), (0, .ref (b)), (1, .ref (ad 0)), (2, .ref (bd 0)), (3, .ref (ao))]) rfl (fun ls hl => ?_)
                                  refine lv_goto (tgt := 23) F.x F.b d_L_law_937 (by decide) ?_
                                  exact ih q25.2.1 q25.2.2 q31.2 ((v4) + 3) _ _ _ _ _ X (lv_sub hl [0, 3, 4, 5, 6] rfl) (by omega) (by omega) h
                                · have h := it_e hc h
                                  refine lv_iconst (v := (0 : Int32)) F.x F.b d_L_law_723 (by decide) ?_
                                  exact absurd h (by decide)
                            · have h := it_e hc h
                              refine lv_iconst (v := (0 : Int32)) F.x F.b d_L_law_706 (by decide) ?_
                              exact absurd h (by decide)
                        · have h := it_e hc h
                          refine lv_iconst (v := (1 : Int32)) F.x F.b d_L_law_660 (by decide) ?_
                          refine lv_goto (tgt := 665) F.x F.b d_L_law_661 (by decide) ?_
                          refine lv_aload_n F.x F.b d_L_law_665 rfl (lv_at hl 4 rfl) ?_
                          obtain ⟨q32, hq32, h⟩ := it_c h
                          refine r_sr F F.2.2.2.2.2.1 X hl.1 (c_L_part l hst D cI cJ ad ao z g (xs ((v4) + ((1 : Int32))).toNatClampNeg) ((1 : Int32)) q32 hq32) mt_374 mt_375 mt_0 mt_376 hd_L_part ⟨by decide, by decide⟩ ⟨rfl, rfl⟩ ⟨by show _ ≤ 601024; omega, by show _ ≤ 7293034; omega⟩ rfl (Nat.le_of_ble_eq_true rfl) d_L_law_666 rfl (fun H locs X => ?_)
                          refine lv_istore F.x F.b d_L_law_669 hl (by decide) (lv' := [(5, .int (q32.1)), (4, .int (v4)), (0, .ref (b)), (1, .ref (ad 0)), (2, .ref (bd 0)), (3, .ref (ao))]) rfl (fun ls hl => ?_)
                          refine lv_aload_n F.x F.b d_L_law_671 rfl (lv_at hl 4 rfl) ?_
                          refine lv_aload_n F.x F.b d_L_law_672 rfl (lv_at hl 2 rfl) ?_
                          refine lv_iload F.x F.b d_L_law_673 (lv_at hl 1 rfl) ?_
                          refine lv_iconst (v := (1 : Int32)) F.x F.b d_L_law_675 (by decide) ?_
                          refine lv_iadd F.x F.b d_L_law_676 ?_
                          obtain ⟨hb33, h⟩ := it_b h
                          refine va_sld F.x F.b hX hbl hbA X.2.2 hb33 d_L_law_677 ?_
                          refine lv_aload_n F.x F.b d_L_law_678 rfl (lv_at hl 2 rfl) ?_
                          refine lv_iload F.x F.b d_L_law_679 (lv_at hl 1 rfl) ?_
                          refine lv_iconst (v := (2 : Int32)) F.x F.b d_L_law_681 (by decide) ?_
                          refine lv_iadd F.x F.b d_L_law_682 ?_
                          obtain ⟨hb34, h⟩ := it_b h
                          refine va_sld F.x F.b hX hbl hbA X.2.2 hb34 d_L_law_683 ?_
                          refine lv_if_eq (tgt := 691) F.x F.b d_L_law_684 (by decide) (fun hc => ?_) (fun hc => ?_)
                          · have h := it_t hc h
                            refine lv_iconst (v := (0 : Int32)) F.x F.b d_L_law_691 (by decide) ?_
                            obtain ⟨q35, hq35, h⟩ := it_c h
                            have X := X.swap
                            refine r_vr F (F.2.2.2.2.2.1.sub (tys' := [(cI, .int)]) [0] rfl) X hl.1 (c_M_part l D cI bd y (xs ((v4) + ((1 : Int32))).toNatClampNeg) ((0 : Int32)) q35 hq35) (gM_0 cI bd y) rfl mt_579 mt_580 mt_581 mt_5 mt_582 ⟨rfl, hd_M_part⟩ ⟨by decide, by decide⟩ ⟨rfl, rfl⟩ ⟨by show _ ≤ 601024; omega, by show _ ≤ 7293034; omega⟩ rfl (Nat.le_of_ble_eq_true rfl) d_L_law_692 rfl (fun H locs X => ?_)
                            have X := X.swap
                            refine lv_istore F.x F.b d_L_law_695 hl (by decide) (lv' := [(6, .int (q35.1)), (5, .int (q32.1)), (4, .int (v4)), (0, .ref (b)), (1, .ref (ad 0)), (2, .ref (bd 0)), (3, .ref (ao))]) rfl (fun ls hl => ?_)
                            refine lv_aload_n F.x F.b d_L_law_697 rfl (lv_at hl 5 rfl) ?_
                            obtain ⟨q36, hq36, h⟩ := it_c h
                            have X := X.swap
                            refine r_vr F (F.2.2.2.2.2.1.sub (tys' := [(cI, .int)]) [0] rfl) X hl.1 (c_M_thrown l D cI bd q35.2 q36 hq36) (gM_0 cI bd q35.2) rfl mt_494 mt_495 mt_496 mt_5 mt_497 ⟨rfl, hd_M_thrown⟩ ⟨by decide, by decide⟩ ⟨rfl, rfl⟩ ⟨by show _ ≤ 601024; omega, by show _ ≤ 7293034; omega⟩ rfl (Nat.le_of_ble_eq_true rfl) d_L_law_698 rfl (fun H locs X => ?_)
                            have X := X.swap
                            refine lv_iload F.x F.b d_L_law_701 (lv_at hl 1 rfl) ?_
                            refine lv_icmp_eq (tgt := 708) F.x F.b d_L_law_703 (by decide) (fun hc => ?_) (fun hc => ?_)
                            · have h := it_t hc h
                              refine lv_iload F.x F.b d_L_law_708 (lv_at hl 1 rfl) ?_
                              refine lv_if_ne (tgt := 725) F.x F.b d_L_law_710 (by decide) (fun hc => ?_) (fun hc => ?_)
                              · have h := it_e hc h
                                refine lv_goto (tgt := 934) F.x F.b d_L_law_725 (by decide) ?_
                                refine lv_iinc (k := 2) (v := (v4) + 3) F.x F.b d_L_law_934 hl rfl (ii_3 _) (by decide) (lv' := [(4, .int ((v4) + 3)), (6, .int (q35.1)), (5, .int (q32.1)), (0, .ref (b)), (1, .ref (ad 0)), (2, .ref (bd 0)), (3, .ref (ao))]) rfl (fun ls hl => ?_)
                                refine lv_goto (tgt := 23) F.x F.b d_L_law_937 (by decide) ?_
                                exact ih q32.2.1 q32.2.2 q36.2 ((v4) + 3) _ _ _ _ _ X (lv_sub hl [0, 3, 4, 5, 6] rfl) (by omega) (by omega) h
                              · have h := it_t hc h
                                refine lv_aload_n F.x F.b d_L_law_713 rfl (lv_at hl 6 rfl) ?_
                                refine lv_iconst (v := (0 : Int32)) F.x F.b d_L_law_714 (by decide) ?_
                                refine va_lald F.x F.b F.2.2.2.2.2.1 X.1 15 1 (f := q32.2.2) rfl rfl vp01 d_L_law_715 ?_
                                refine lv_iload F.x F.b d_L_law_716 (lv_at hl 0 rfl) ?_
                                refine lv_i2l (v := (q35.1).toInt64) F.x F.b d_L_law_718 rfl ?_
                                refine W.lcmp F.x F.b d_L_law_719 ?_
                                refine lv_if_eq (tgt := 725) F.x F.b d_L_law_720 (by decide) (fun hc => ?_) (fun hc => ?_)
                                · have h := it_t hc h
                                  refine lv_goto (tgt := 934) F.x F.b d_L_law_725 (by decide) ?_
                                  refine lv_iinc (k := 2) (v := (v4) + 3) F.x F.b d_L_law_934 hl rfl (ii_3 _) (by decide) (lv' := [(4, .int ((v4) + 3)), (6, .int (q35.1)), (5, .int (q32.1)), (0, .ref (b)), (1, .ref (ad 0)), (2, .ref (bd 0)), (3, .ref (ao))]) rfl (fun ls hl => ?_)
                                  refine lv_goto (tgt := 23) F.x F.b d_L_law_937 (by decide) ?_
                                  exact ih q32.2.1 q32.2.2 q36.2 ((v4) + 3) _ _ _ _ _ X (lv_sub hl [0, 3, 4, 5, 6] rfl) (by omega) (by omega) h
                                · have h := it_e hc h
                                  refine lv_iconst (v := (0 : Int32)) F.x F.b d_L_law_723 (by decide) ?_
                                  exact absurd h (by decide)
                            · have h := it_e hc h
                              refine lv_iconst (v := (0 : Int32)) F.x F.b d_L_law_706 (by decide) ?_
                              exact absurd h (by decide)
                          · have h := it_e hc h
                            refine lv_iconst (v := (1 : Int32)) F.x F.b d_L_law_687 (by decide) ?_
                            refine lv_goto (tgt := 692) F.x F.b d_L_law_688 (by decide) ?_
                            obtain ⟨q37, hq37, h⟩ := it_c h
                            have X := X.swap
                            refine r_vr F (F.2.2.2.2.2.1.sub (tys' := [(cI, .int)]) [0] rfl) X hl.1 (c_M_part l D cI bd y (xs ((v4) + ((1 : Int32))).toNatClampNeg) ((1 : Int32)) q37 hq37) (gM_0 cI bd y) rfl mt_579 mt_580 mt_581 mt_5 mt_582 ⟨rfl, hd_M_part⟩ ⟨by decide, by decide⟩ ⟨rfl, rfl⟩ ⟨by show _ ≤ 601024; omega, by show _ ≤ 7293034; omega⟩ rfl (Nat.le_of_ble_eq_true rfl) d_L_law_692 rfl (fun H locs X => ?_)
                            have X := X.swap
                            refine lv_istore F.x F.b d_L_law_695 hl (by decide) (lv' := [(6, .int (q37.1)), (5, .int (q32.1)), (4, .int (v4)), (0, .ref (b)), (1, .ref (ad 0)), (2, .ref (bd 0)), (3, .ref (ao))]) rfl (fun ls hl => ?_)
                            refine lv_aload_n F.x F.b d_L_law_697 rfl (lv_at hl 5 rfl) ?_
                            obtain ⟨q38, hq38, h⟩ := it_c h
                            have X := X.swap
                            refine r_vr F (F.2.2.2.2.2.1.sub (tys' := [(cI, .int)]) [0] rfl) X hl.1 (c_M_thrown l D cI bd q37.2 q38 hq38) (gM_0 cI bd q37.2) rfl mt_494 mt_495 mt_496 mt_5 mt_497 ⟨rfl, hd_M_thrown⟩ ⟨by decide, by decide⟩ ⟨rfl, rfl⟩ ⟨by show _ ≤ 601024; omega, by show _ ≤ 7293034; omega⟩ rfl (Nat.le_of_ble_eq_true rfl) d_L_law_698 rfl (fun H locs X => ?_)
                            have X := X.swap
                            refine lv_iload F.x F.b d_L_law_701 (lv_at hl 1 rfl) ?_
                            refine lv_icmp_eq (tgt := 708) F.x F.b d_L_law_703 (by decide) (fun hc => ?_) (fun hc => ?_)
                            · have h := it_t hc h
                              refine lv_iload F.x F.b d_L_law_708 (lv_at hl 1 rfl) ?_
                              refine lv_if_ne (tgt := 725) F.x F.b d_L_law_710 (by decide) (fun hc => ?_) (fun hc => ?_)
                              · have h := it_e hc h
                                refine lv_goto (tgt := 934) F.x F.b d_L_law_725 (by decide) ?_
                                refine lv_iinc (k := 2) (v := (v4) + 3) F.x F.b d_L_law_934 hl rfl (ii_3 _) (by decide) (lv' := [(4, .int ((v4) + 3)), (6, .int (q37.1)), (5, .int (q32.1)), (0, .ref (b)), (1, .ref (ad 0)), (2, .ref (bd 0)), (3, .ref (ao))]) rfl (fun ls hl => ?_)
                                refine lv_goto (tgt := 23) F.x F.b d_L_law_937 (by decide) ?_
                                exact ih q32.2.1 q32.2.2 q38.2 ((v4) + 3) _ _ _ _ _ X (lv_sub hl [0, 3, 4, 5, 6] rfl) (by omega) (by omega) h
                              · have h := it_t hc h
                                refine lv_aload_n F.x F.b d_L_law_713 rfl (lv_at hl 6 rfl) ?_
                                refine lv_iconst (v := (0 : Int32)) F.x F.b d_L_law_714 (by decide) ?_
                                refine va_lald F.x F.b F.2.2.2.2.2.1 X.1 15 1 (f := q32.2.2) rfl rfl vp01 d_L_law_715 ?_
                                refine lv_iload F.x F.b d_L_law_716 (lv_at hl 0 rfl) ?_
                                refine lv_i2l (v := (q37.1).toInt64) F.x F.b d_L_law_718 rfl ?_
                                refine W.lcmp F.x F.b d_L_law_719 ?_
                                refine lv_if_eq (tgt := 725) F.x F.b d_L_law_720 (by decide) (fun hc => ?_) (fun hc => ?_)
                                · have h := it_t hc h
                                  refine lv_goto (tgt := 934) F.x F.b d_L_law_725 (by decide) ?_
                                  refine lv_iinc (k := 2) (v := (v4) + 3) F.x F.b d_L_law_934 hl rfl (ii_3 _) (by decide) (lv' := [(4, .int ((v4) + 3)), (6, .int (q37.1)), (5, .int (q32.1)), (0, .ref (b)), (1, .ref (ad 0)), (2, .ref (bd 0)), (3, .ref (ao))]) rfl (fun ls hl => ?_)
                                  refine lv_goto (tgt := 23) F.x F.b d_L_law_937 (by decide) ?_
                                  exact ih q32.2.1 q32.2.2 q38.2 ((v4) + 3) _ _ _ _ _ X (lv_sub hl [0, 3, 4, 5, 6] rfl) (by omega) (by omega) h
                                · have h := it_e hc h
                                  refine lv_iconst (v := (0 : Int32)) F.x F.b d_L_law_723 (by decide) ?_
                                  exact absurd h (by decide)
                            · have h := it_e hc h
                              refine lv_iconst (v := (0 : Int32)) F.x F.b d_L_law_706 (by decide) ?_
                              exact absurd h (by decide)
                      · have h := it_e hc8 h
                        by_cases hc9 : ((xs (v4).toNatClampNeg) &&& ((15 : Int32))) = (9 : Int32)
                        · have h := it_t hc9 h
                          refine lv_tableIn (off := 689) (tgt := 728) F.x F.b d_L_law_39 (by rw [hc9]; decide) (by rw [hc9]; decide) (by rw [hc9]; decide) (by decide) ?_
                          refine lv_aload_n F.x F.b d_L_law_728 rfl (lv_at hl 2 rfl) ?_
                          refine lv_aload_n F.x F.b d_L_law_729 rfl (lv_at hl 1 rfl) ?_
                          refine lv_iload F.x F.b d_L_law_730 (lv_at hl 0 rfl) ?_
                          refine lv_iconst (v := (1 : Int32)) F.x F.b d_L_law_732 (by decide) ?_
                          refine lv_iadd F.x F.b d_L_law_733 ?_
                          obtain ⟨hb18, h⟩ := it_b h
                          refine va_sld F.x F.b hX hbl hbA X.2.2 hb18 d_L_law_734 ?_
                          refine lv_aload_n F.x F.b d_L_law_735 rfl (lv_at hl 4 rfl) ?_
                          obtain ⟨q19, hq19, h⟩ := it_c h
                          refine r_sr F F.2.2.2.2.2.1 X hl.1 (c_L_size l hst D cI cJ ad ao z g (xs ((v4) + ((1 : Int32))).toNatClampNeg) q19 hq19) mt_381 mt_382 mt_0 mt_383 hd_L_size ⟨by decide, by decide⟩ ⟨rfl, rfl⟩ ⟨by show _ ≤ 601024; omega, by show _ ≤ 7293034; omega⟩ rfl (Nat.le_of_ble_eq_true rfl) d_L_law_736 rfl (fun H locs X => ?_)
                          refine lv_istore F.x F.b d_L_law_739 hl (by decide) (lv' := [(5, .int (q19.1)), (4, .int (v4)), (0, .ref (b)), (1, .ref (ad 0)), (2, .ref (bd 0)), (3, .ref (ao))]) rfl (fun ls hl => ?_)
                          refine lv_aload_n F.x F.b d_L_law_741 rfl (lv_at hl 4 rfl) ?_
                          refine lv_aload_n F.x F.b d_L_law_742 rfl (lv_at hl 2 rfl) ?_
                          refine lv_iload F.x F.b d_L_law_743 (lv_at hl 1 rfl) ?_
                          refine lv_iconst (v := (1 : Int32)) F.x F.b d_L_law_745 (by decide) ?_
                          refine lv_iadd F.x F.b d_L_law_746 ?_
                          obtain ⟨hb20, h⟩ := it_b h
                          refine va_sld F.x F.b hX hbl hbA X.2.2 hb20 d_L_law_747 ?_
                          obtain ⟨q21, hq21, h⟩ := it_c h
                          have X := X.swap
                          refine r_vr F (F.2.2.2.2.2.1.sub (tys' := [(cI, .int)]) [0] rfl) X hl.1 (c_M_size l D cI bd y (xs ((v4) + ((1 : Int32))).toNatClampNeg) q21 hq21) (gM_0 cI bd y) rfl mt_583 mt_584 mt_585 mt_5 mt_586 ⟨rfl, hd_M_size⟩ ⟨by decide, by decide⟩ ⟨rfl, rfl⟩ ⟨by show _ ≤ 601024; omega, by show _ ≤ 7293034; omega⟩ rfl (Nat.le_of_ble_eq_true rfl) d_L_law_748 rfl (fun H locs X => ?_)
                          have X := X.swap
                          refine lv_istore F.x F.b d_L_law_751 hl (by decide) (lv' := [(6, .int (q21.1)), (5, .int (q19.1)), (4, .int (v4)), (0, .ref (b)), (1, .ref (ad 0)), (2, .ref (bd 0)), (3, .ref (ao))]) rfl (fun ls hl => ?_)
                          refine lv_aload_n F.x F.b d_L_law_753 rfl (lv_at hl 5 rfl) ?_
                          obtain ⟨q22, hq22, h⟩ := it_c h
                          have X := X.swap
                          refine r_vr F (F.2.2.2.2.2.1.sub (tys' := [(cI, .int)]) [0] rfl) X hl.1 (c_M_thrown l D cI bd q21.2 q22 hq22) (gM_0 cI bd q21.2) rfl mt_494 mt_495 mt_496 mt_5 mt_497 ⟨rfl, hd_M_thrown⟩ ⟨by decide, by decide⟩ ⟨rfl, rfl⟩ ⟨by show _ ≤ 601024; omega, by show _ ≤ 7293034; omega⟩ rfl (Nat.le_of_ble_eq_true rfl) d_L_law_754 rfl (fun H locs X => ?_)
                          have X := X.swap
                          refine lv_iload F.x F.b d_L_law_757 (lv_at hl 1 rfl) ?_
                          refine lv_icmp_eq (tgt := 764) F.x F.b d_L_law_759 (by decide) (fun hc => ?_) (fun hc => ?_)
                          · have h := it_t hc h
                            refine lv_iload F.x F.b d_L_law_764 (lv_at hl 1 rfl) ?_
                            refine lv_if_ne (tgt := 781) F.x F.b d_L_law_766 (by decide) (fun hc => ?_) (fun hc => ?_)
                            · have h := it_e hc h
                              refine lv_goto (tgt := 934) F.x F.b d_L_law_781 (by decide) ?_
                              refine lv_iinc (k := 2) (v := (v4) + 3) F.x F.b d_L_law_934 hl rfl (ii_3 _) (by decide) (lv' := [(4, .int ((v4) + 3)), (6, .int (q21.1)), (5, .int (q19.1)), (0, .ref (b)), (1, .ref (ad 0)), (2, .ref (bd 0)), (3, .ref (ao))]) rfl (fun ls hl => ?_)
                              refine lv_goto (tgt := 23) F.x F.b d_L_law_937 (by decide) ?_
                              exact ih q19.2.1 q19.2.2 q22.2 ((v4) + 3) _ _ _ _ _ X (lv_sub hl [0, 3, 4, 5, 6] rfl) (by omega) (by omega) h
                            · have h := it_t hc h
                              refine lv_aload_n F.x F.b d_L_law_769 rfl (lv_at hl 6 rfl) ?_
                              refine lv_iconst (v := (0 : Int32)) F.x F.b d_L_law_770 (by decide) ?_
                              refine va_lald F.x F.b F.2.2.2.2.2.1 X.1 15 1 (f := q19.2.2) rfl rfl vp01 d_L_law_771 ?_
                              refine lv_iload F.x F.b d_L_law_772 (lv_at hl 0 rfl) ?_
                              refine lv_i2l (v := (q21.1).toInt64) F.x F.b d_L_law_774 rfl ?_
                              refine W.lcmp F.x F.b d_L_law_775 ?_
                              refine lv_if_eq (tgt := 781) F.x F.b d_L_law_776 (by decide) (fun hc => ?_) (fun hc => ?_)
                              · have h := it_t hc h
                                refine lv_goto (tgt := 934) F.x F.b d_L_law_781 (by decide) ?_
                                refine lv_iinc (k := 2) (v := (v4) + 3) F.x F.b d_L_law_934 hl rfl (ii_3 _) (by decide) (lv' := [(4, .int ((v4) + 3)), (6, .int (q21.1)), (5, .int (q19.1)), (0, .ref (b)), (1, .ref (ad 0)), (2, .ref (bd 0)), (3, .ref (ao))]) rfl (fun ls hl => ?_)
                                refine lv_goto (tgt := 23) F.x F.b d_L_law_937 (by decide) ?_
                                exact ih q19.2.1 q19.2.2 q22.2 ((v4) + 3) _ _ _ _ _ X (lv_sub hl [0, 3, 4, 5, 6] rfl) (by omega) (by omega) h
                              · have h := it_e hc h
                                refine lv_iconst (v := (0 : Int32)) F.x F.b d_L_law_779 (by decide) ?_
                                exact absurd h (by decide)
                          · have h := it_e hc h
                            refine lv_iconst (v := (0 : Int32)) F.x F.b d_L_law_762 (by decide) ?_
                            exact absurd h (by decide)
                        · have h := it_e hc9 h
                          by_cases hc10 : ((xs (v4).toNatClampNeg) &&& ((15 : Int32))) = (10 : Int32)
                          · have h := it_t hc10 h
                            refine lv_tableIn (off := 745) (tgt := 784) F.x F.b d_L_law_39 (by rw [hc10]; decide) (by rw [hc10]; decide) (by rw [hc10]; decide) (by decide) ?_
                            refine lv_aload_n F.x F.b d_L_law_784 rfl (lv_at hl 2 rfl) ?_
                            refine lv_aload_n F.x F.b d_L_law_785 rfl (lv_at hl 1 rfl) ?_
                            refine lv_iload F.x F.b d_L_law_786 (lv_at hl 0 rfl) ?_
                            refine lv_iconst (v := (1 : Int32)) F.x F.b d_L_law_788 (by decide) ?_
                            refine lv_iadd F.x F.b d_L_law_789 ?_
                            obtain ⟨hb13, h⟩ := it_b h
                            refine va_sld F.x F.b hX hbl hbA X.2.2 hb13 d_L_law_790 ?_
                            refine lv_aload_n F.x F.b d_L_law_791 rfl (lv_at hl 4 rfl) ?_
                            obtain ⟨q14, hq14, h⟩ := it_c h
                            refine r_sr F F.2.2.2.2.2.1 X hl.1 (c_L_values l hst D cI cJ ad ao z g (xs ((v4) + ((1 : Int32))).toNatClampNeg) q14 hq14) mt_399 mt_400 mt_0 mt_401 hd_L_values ⟨by decide, by decide⟩ ⟨rfl, rfl⟩ ⟨by show _ ≤ 601024; omega, by show _ ≤ 7293034; omega⟩ rfl (Nat.le_of_ble_eq_true rfl) d_L_law_792 rfl (fun H locs X => ?_)
                            refine lv_istore F.x F.b d_L_law_795 hl (by decide) (lv' := [(5, .int (q14.1)), (4, .int (v4)), (0, .ref (b)), (1, .ref (ad 0)), (2, .ref (bd 0)), (3, .ref (ao))]) rfl (fun ls hl => ?_)
                            refine lv_aload_n F.x F.b d_L_law_797 rfl (lv_at hl 4 rfl) ?_
                            refine lv_aload_n F.x F.b d_L_law_798 rfl (lv_at hl 2 rfl) ?_
                            refine lv_iload F.x F.b d_L_law_799 (lv_at hl 1 rfl) ?_
                            refine lv_iconst (v := (1 : Int32)) F.x F.b d_L_law_801 (by decide) ?_
                            refine lv_iadd F.x F.b d_L_law_802 ?_
                            obtain ⟨hb15, h⟩ := it_b h
                            refine va_sld F.x F.b hX hbl hbA X.2.2 hb15 d_L_law_803 ?_
                            obtain ⟨q16, hq16, h⟩ := it_c h
                            have X := X.swap
                            refine r_vr F (F.2.2.2.2.2.1.sub (tys' := [(cI, .int)]) [0] rfl) X hl.1 (c_M_values l D cI bd y (xs ((v4) + ((1 : Int32))).toNatClampNeg) q16 hq16) (gM_0 cI bd y) rfl mt_590 mt_591 mt_592 mt_5 mt_593 ⟨rfl, hd_M_values⟩ ⟨by decide, by decide⟩ ⟨rfl, rfl⟩ ⟨by show _ ≤ 601024; omega, by show _ ≤ 7293034; omega⟩ rfl (Nat.le_of_ble_eq_true rfl) d_L_law_804 rfl (fun H locs X => ?_)
                            have X := X.swap
                            refine lv_istore F.x F.b d_L_law_807 hl (by decide) (lv' := [(6, .int (q16.1)), (5, .int (q14.1)), (4, .int (v4)), (0, .ref (b)), (1, .ref (ad 0)), (2, .ref (bd 0)), (3, .ref (ao))]) rfl (fun ls hl => ?_)
                            refine lv_aload_n F.x F.b d_L_law_809 rfl (lv_at hl 5 rfl) ?_
                            obtain ⟨q17, hq17, h⟩ := it_c h
                            have X := X.swap
                            refine r_vr F (F.2.2.2.2.2.1.sub (tys' := [(cI, .int)]) [0] rfl) X hl.1 (c_M_thrown l D cI bd q16.2 q17 hq17) (gM_0 cI bd q16.2) rfl mt_494 mt_495 mt_496 mt_5 mt_497 ⟨rfl, hd_M_thrown⟩ ⟨by decide, by decide⟩ ⟨rfl, rfl⟩ ⟨by show _ ≤ 601024; omega, by show _ ≤ 7293034; omega⟩ rfl (Nat.le_of_ble_eq_true rfl) d_L_law_810 rfl (fun H locs X => ?_)
                            have X := X.swap
                            refine lv_iload F.x F.b d_L_law_813 (lv_at hl 1 rfl) ?_
                            refine lv_icmp_eq (tgt := 820) F.x F.b d_L_law_815 (by decide) (fun hc => ?_) (fun hc => ?_)
                            · have h := it_t hc h
                              refine lv_iload F.x F.b d_L_law_820 (lv_at hl 1 rfl) ?_
                              refine lv_if_ne (tgt := 837) F.x F.b d_L_law_822 (by decide) (fun hc => ?_) (fun hc => ?_)
                              · have h := it_e hc h
                                refine lv_goto (tgt := 934) F.x F.b d_L_law_837 (by decide) ?_
                                refine lv_iinc (k := 2) (v := (v4) + 3) F.x F.b d_L_law_934 hl rfl (ii_3 _) (by decide) (lv' := [(4, .int ((v4) + 3)), (6, .int (q16.1)), (5, .int (q14.1)), (0, .ref (b)), (1, .ref (ad 0)), (2, .ref (bd 0)), (3, .ref (ao))]) rfl (fun ls hl => ?_)
                                refine lv_goto (tgt := 23) F.x F.b d_L_law_937 (by decide) ?_
                                exact ih q14.2.1 q14.2.2 q17.2 ((v4) + 3) _ _ _ _ _ X (lv_sub hl [0, 3, 4, 5, 6] rfl) (by omega) (by omega) h
                              · have h := it_t hc h
                                refine lv_aload_n F.x F.b d_L_law_825 rfl (lv_at hl 6 rfl) ?_
                                refine lv_iconst (v := (0 : Int32)) F.x F.b d_L_law_826 (by decide) ?_
                                refine va_lald F.x F.b F.2.2.2.2.2.1 X.1 15 1 (f := q14.2.2) rfl rfl vp01 d_L_law_827 ?_
                                refine lv_iload F.x F.b d_L_law_828 (lv_at hl 0 rfl) ?_
                                refine lv_i2l (v := (q16.1).toInt64) F.x F.b d_L_law_830 rfl ?_
                                refine W.lcmp F.x F.b d_L_law_831 ?_
                                refine lv_if_eq (tgt := 837) F.x F.b d_L_law_832 (by decide) (fun hc => ?_) (fun hc => ?_)
                                · have h := it_t hc h
                                  refine lv_goto (tgt := 934) F.x F.b d_L_law_837 (by decide) ?_
                                  refine lv_iinc (k := 2) (v := (v4) + 3) F.x F.b d_L_law_934 hl rfl (ii_3 _) (by decide) (lv' := [(4, .int ((v4) + 3)), (6, .int (q16.1)), (5, .int (q14.1)), (0, .ref (b)), (1, .ref (ad 0)), (2, .ref (bd 0)), (3, .ref (ao))]) rfl (fun ls hl => ?_)
                                  refine lv_goto (tgt := 23) F.x F.b d_L_law_937 (by decide) ?_
                                  exact ih q14.2.1 q14.2.2 q17.2 ((v4) + 3) _ _ _ _ _ X (lv_sub hl [0, 3, 4, 5, 6] rfl) (by omega) (by omega) h
                                · have h := it_e hc h
                                  refine lv_iconst (v := (0 : Int32)) F.x F.b d_L_law_835 (by decide) ?_
                                  exact absurd h (by decide)
                            · have h := it_e hc h
                              refine lv_iconst (v := (0 : Int32)) F.x F.b d_L_law_818 (by decide) ?_
                              exact absurd h (by decide)
                          · have h := it_e hc10 h
                            by_cases hc11 : ((xs (v4).toNatClampNeg) &&& ((15 : Int32))) = (11 : Int32)
                            · have h := it_t hc11 h
                              refine lv_tableIn (off := 801) (tgt := 840) F.x F.b d_L_law_39 (by rw [hc11]; decide) (by rw [hc11]; decide) (by rw [hc11]; decide) (by decide) ?_
                              refine lv_aload_n F.x F.b d_L_law_840 rfl (lv_at hl 2 rfl) ?_
                              refine lv_aload_n F.x F.b d_L_law_841 rfl (lv_at hl 1 rfl) ?_
                              refine lv_iload F.x F.b d_L_law_842 (lv_at hl 0 rfl) ?_
                              refine lv_iconst (v := (1 : Int32)) F.x F.b d_L_law_844 (by decide) ?_
                              refine lv_iadd F.x F.b d_L_law_845 ?_
                              obtain ⟨hb8, h⟩ := it_b h
                              refine va_sld F.x F.b hX hbl hbA X.2.2 hb8 d_L_law_846 ?_
                              refine lv_aload_n F.x F.b d_L_law_847 rfl (lv_at hl 4 rfl) ?_
                              obtain ⟨q9, hq9, h⟩ := it_c h
                              refine r_sr F F.2.2.2.2.2.1 X hl.1 (c_L_frees l hst D cI cJ ad ao z g (xs ((v4) + ((1 : Int32))).toNatClampNeg) q9 hq9) mt_414 mt_415 mt_0 mt_416 hd_L_frees ⟨by decide, by decide⟩ ⟨rfl, rfl⟩ ⟨by show _ ≤ 601024; omega, by show _ ≤ 7293034; omega⟩ rfl (Nat.le_of_ble_eq_true rfl) d_L_law_848 rfl (fun H locs X => ?_)
                              refine lv_istore F.x F.b d_L_law_851 hl (by decide) (lv' := [(5, .int (q9.1)), (4, .int (v4)), (0, .ref (b)), (1, .ref (ad 0)), (2, .ref (bd 0)), (3, .ref (ao))]) rfl (fun ls hl => ?_)
                              refine lv_aload_n F.x F.b d_L_law_853 rfl (lv_at hl 4 rfl) ?_
                              refine lv_aload_n F.x F.b d_L_law_854 rfl (lv_at hl 2 rfl) ?_
                              refine lv_iload F.x F.b d_L_law_855 (lv_at hl 1 rfl) ?_
                              refine lv_iconst (v := (1 : Int32)) F.x F.b d_L_law_857 (by decide) ?_
                              refine lv_iadd F.x F.b d_L_law_858 ?_
                              obtain ⟨hb10, h⟩ := it_b h
                              refine va_sld F.x F.b hX hbl hbA X.2.2 hb10 d_L_law_859 ?_
                              obtain ⟨q11, hq11, h⟩ := it_c h
                              have X := X.swap
                              refine r_vr F (F.2.2.2.2.2.1.sub (tys' := [(cI, .int)]) [0] rfl) X hl.1 (c_M_frees l D cI bd y (xs ((v4) + ((1 : Int32))).toNatClampNeg) q11 hq11) (gM_0 cI bd y) rfl mt_596 mt_597 mt_598 mt_5 mt_599 ⟨rfl, hd_M_frees⟩ ⟨by decide, by decide⟩ ⟨rfl, rfl⟩ ⟨by show _ ≤ 601024; omega, by show _ ≤ 7293034; omega⟩ rfl (Nat.le_of_ble_eq_true rfl) d_L_law_860 rfl (fun H locs X => ?_)
                              have X := X.swap
                              refine lv_istore F.x F.b d_L_law_863 hl (by decide) (lv' := [(6, .int (q11.1)), (5, .int (q9.1)), (4, .int (v4)), (0, .ref (b)), (1, .ref (ad 0)), (2, .ref (bd 0)), (3, .ref (ao))]) rfl (fun ls hl => ?_)
                              refine lv_aload_n F.x F.b d_L_law_865 rfl (lv_at hl 5 rfl) ?_
                              obtain ⟨q12, hq12, h⟩ := it_c h
                              have X := X.swap
                              refine r_vr F (F.2.2.2.2.2.1.sub (tys' := [(cI, .int)]) [0] rfl) X hl.1 (c_M_thrown l D cI bd q11.2 q12 hq12) (gM_0 cI bd q11.2) rfl mt_494 mt_495 mt_496 mt_5 mt_497 ⟨rfl, hd_M_thrown⟩ ⟨by decide, by decide⟩ ⟨rfl, rfl⟩ ⟨by show _ ≤ 601024; omega, by show _ ≤ 7293034; omega⟩ rfl (Nat.le_of_ble_eq_true rfl) d_L_law_866 rfl (fun H locs X => ?_)
                              have X := X.swap
                              refine lv_iload F.x F.b d_L_law_869 (lv_at hl 1 rfl) ?_
                              refine lv_icmp_eq (tgt := 876) F.x F.b d_L_law_871 (by decide) (fun hc => ?_) (fun hc => ?_)
                              · have h := it_t hc h
                                refine lv_iload F.x F.b d_L_law_876 (lv_at hl 1 rfl) ?_
                                refine lv_if_ne (tgt := 893) F.x F.b d_L_law_878 (by decide) (fun hc => ?_) (fun hc => ?_)
                                · have h := it_e hc h
                                  refine lv_goto (tgt := 934) F.x F.b d_L_law_893 (by decide) ?_
                                  refine lv_iinc (k := 2) (v := (v4) + 3) F.x F.b d_L_law_934 hl rfl (ii_3 _) (by decide) (lv' := [(4, .int ((v4) + 3)), (6, .int (q11.1)), (5, .int (q9.1)), (0, .ref (b)), (1, .ref (ad 0)), (2, .ref (bd 0)), (3, .ref (ao))]) rfl (fun ls hl => ?_)
                                  refine lv_goto (tgt := 23) F.x F.b d_L_law_937 (by decide) ?_
                                  exact ih q9.2.1 q9.2.2 q12.2 ((v4) + 3) _ _ _ _ _ X (lv_sub hl [0, 3, 4, 5, 6] rfl) (by omega) (by omega) h
                                · have h := it_t hc h
                                  refine lv_aload_n F.x F.b d_L_law_881 rfl (lv_at hl 6 rfl) ?_
                                  refine lv_iconst (v := (0 : Int32)) F.x F.b d_L_law_882 (by decide) ?_
                                  refine va_lald F.x F.b F.2.2.2.2.2.1 X.1 15 1 (f := q9.2.2) rfl rfl vp01 d_L_law_883 ?_
                                  refine lv_iload F.x F.b d_L_law_884 (lv_at hl 0 rfl) ?_
                                  refine lv_i2l (v := (q11.1).toInt64) F.x F.b d_L_law_886 rfl ?_
                                  refine W.lcmp F.x F.b d_L_law_887 ?_
                                  refine lv_if_eq (tgt := 893) F.x F.b d_L_law_888 (by decide) (fun hc => ?_) (fun hc => ?_)
                                  · have h := it_t hc h
                                    refine lv_goto (tgt := 934) F.x F.b d_L_law_893 (by decide) ?_
                                    refine lv_iinc (k := 2) (v := (v4) + 3) F.x F.b d_L_law_934 hl rfl (ii_3 _) (by decide) (lv' := [(4, .int ((v4) + 3)), (6, .int (q11.1)), (5, .int (q9.1)), (0, .ref (b)), (1, .ref (ad 0)), (2, .ref (bd 0)), (3, .ref (ao))]) rfl (fun ls hl => ?_)
                                    refine lv_goto (tgt := 23) F.x F.b d_L_law_937 (by decide) ?_
                                    exact ih q9.2.1 q9.2.2 q12.2 ((v4) + 3) _ _ _ _ _ X (lv_sub hl [0, 3, 4, 5, 6] rfl) (by omega) (by omega) h
                                  · have h := it_e hc h
                                    refine lv_iconst (v := (0 : Int32)) F.x F.b d_L_law_891 (by decide) ?_
                                    exact absurd h (by decide)
                              · have h := it_e hc h
                                refine lv_iconst (v := (0 : Int32)) F.x F.b d_L_law_874 (by decide) ?_
                                exact absurd h (by decide)
                            · have h := it_e hc11 h
                              by_cases hc12 : ((xs (v4).toNatClampNeg) &&& ((15 : Int32))) = (12 : Int32)
                              · have h := it_t hc12 h
                                refine lv_tableIn (off := 857) (tgt := 896) F.x F.b d_L_law_39 (by rw [hc12]; decide) (by rw [hc12]; decide) (by rw [hc12]; decide) (by decide) ?_
                                refine lv_aload_n F.x F.b d_L_law_896 rfl (lv_at hl 2 rfl) ?_
                                obtain ⟨q6, hq6, h⟩ := it_c h
                                have X : Wd D A s ((cM cI bd y ++ [oc cJ ao g]) ++ cX cI ad z) H locs := by rw [List.append_assoc]; exact X
                                refine r_vr F (F.2.2.2.2.2.1.sub (tys' := [(cI, .int)]) [0] rfl) X hl.1 (c_X_clear l D cI ad z q6 hq6) (gX_0 cI ad z) rfl mt_114 mt_115 mt_116 mt_1 mt_117 ⟨rfl, hd_X_clear⟩ ⟨by decide, by decide⟩ ⟨rfl, rfl⟩ ⟨by show _ ≤ 601024; omega, by show _ ≤ 7293034; omega⟩ rfl (Nat.le_of_ble_eq_true rfl) d_L_law_897 rfl (fun H locs X => ?_)
                                have X : Wd D A s (cM cI bd y ++ ([oc cJ ao g] ++ cX cI ad q6.2)) H locs := by rw [← List.append_assoc]; exact X
                                refine lv_aload_n F.x F.b d_L_law_900 rfl (lv_at hl 3 rfl) ?_
                                obtain ⟨q7, hq7, h⟩ := it_c h
                                have X := X.swap
                                refine r_vr F (F.2.2.2.2.2.1.sub (tys' := [(cI, .int)]) [0] rfl) X hl.1 (c_M_clear l D cI bd y q7 hq7) (gM_0 cI bd y) rfl mt_600 mt_601 mt_602 mt_5 mt_603 ⟨rfl, hd_M_clear⟩ ⟨by decide, by decide⟩ ⟨rfl, rfl⟩ ⟨by show _ ≤ 601024; omega, by show _ ≤ 7293034; omega⟩ rfl (Nat.le_of_ble_eq_true rfl) d_L_law_901 rfl (fun H locs X => ?_)
                                have X := X.swap
                                refine lv_icmp_eq (tgt := 934) F.x F.b d_L_law_904 (by decide) (fun hc => ?_) (fun hc => ?_)
                                · have h := it_t hc h
                                  refine lv_iinc (k := 0) (v := (v4) + 3) F.x F.b d_L_law_934 hl rfl (ii_3 _) (by decide) (lv' := [(4, .int ((v4) + 3)), (0, .ref (b)), (1, .ref (ad 0)), (2, .ref (bd 0)), (3, .ref (ao))]) rfl (fun ls hl => ?_)
                                  refine lv_goto (tgt := 23) F.x F.b d_L_law_937 (by decide) ?_
                                  exact ih q6.2 g q7.2 ((v4) + 3) _ _ _ _ _ X (lv_sub hl [0, 1, 2, 3, 4] rfl) (by omega) (by omega) h
                                · have h := it_e hc h
                                  refine lv_iconst (v := (0 : Int32)) F.x F.b d_L_law_907 (by decide) ?_
                                  exact absurd h (by decide)
                              · have h := it_e hc12 h
                                by_cases hc13 : ((xs (v4).toNatClampNeg) &&& ((15 : Int32))) = (13 : Int32)
                                · have h := it_t hc13 h
                                  refine lv_tableIn (off := 870) (tgt := 909) F.x F.b d_L_law_39 (by rw [hc13]; decide) (by rw [hc13]; decide) (by rw [hc13]; decide) (by decide) ?_
                                  refine lv_aload_n F.x F.b d_L_law_909 rfl (lv_at hl 2 rfl) ?_
                                  refine lv_aload_n F.x F.b d_L_law_910 rfl (lv_at hl 1 rfl) ?_
                                  refine lv_iload F.x F.b d_L_law_911 (lv_at hl 0 rfl) ?_
                                  refine lv_iconst (v := (1 : Int32)) F.x F.b d_L_law_913 (by decide) ?_
                                  refine lv_iadd F.x F.b d_L_law_914 ?_
                                  obtain ⟨hb2, h⟩ := it_b h
                                  refine va_sld F.x F.b hX hbl hbA X.2.2 hb2 d_L_law_915 ?_
                                  obtain ⟨q3, hq3, h⟩ := it_c h
                                  have X : Wd D A s ((cM cI bd y ++ [oc cJ ao g]) ++ cX cI ad z) H locs := by rw [List.append_assoc]; exact X
                                  refine r_vr F (F.2.2.2.2.2.1.sub (tys' := [(cI, .int)]) [0] rfl) X hl.1 (c_X_count l D cI ad z (xs ((v4) + ((1 : Int32))).toNatClampNeg) q3 hq3) (gX_0 cI ad z) rfl mt_118 mt_119 mt_120 mt_1 mt_121 ⟨rfl, hd_X_count⟩ ⟨by decide, by decide⟩ ⟨rfl, rfl⟩ ⟨by show _ ≤ 601024; omega, by show _ ≤ 7293034; omega⟩ rfl (Nat.le_of_ble_eq_true rfl) d_L_law_916 rfl (fun H locs X => ?_)
                                  have X : Wd D A s (cM cI bd y ++ ([oc cJ ao g] ++ cX cI ad q3.2)) H locs := by rw [← List.append_assoc]; exact X
                                  refine lv_aload_n F.x F.b d_L_law_919 rfl (lv_at hl 3 rfl) ?_
                                  refine lv_aload_n F.x F.b d_L_law_920 rfl (lv_at hl 1 rfl) ?_
                                  refine lv_iload F.x F.b d_L_law_921 (lv_at hl 0 rfl) ?_
                                  refine lv_iconst (v := (1 : Int32)) F.x F.b d_L_law_923 (by decide) ?_
                                  refine lv_iadd F.x F.b d_L_law_924 ?_
                                  obtain ⟨hb4, h⟩ := it_b h
                                  refine va_sld F.x F.b hX hbl hbA X.2.2 hb4 d_L_law_925 ?_
                                  obtain ⟨q5, hq5, h⟩ := it_c h
                                  have X := X.swap
                                  refine r_vr F (F.2.2.2.2.2.1.sub (tys' := [(cI, .int)]) [0] rfl) X hl.1 (c_M_count l D cI bd y (xs ((v4) + ((1 : Int32))).toNatClampNeg) q5 hq5) (gM_0 cI bd y) rfl mt_604 mt_605 mt_606 mt_5 mt_607 ⟨rfl, hd_M_count⟩ ⟨by decide, by decide⟩ ⟨rfl, rfl⟩ ⟨by show _ ≤ 601024; omega, by show _ ≤ 7293034; omega⟩ rfl (Nat.le_of_ble_eq_true rfl) d_L_law_926 rfl (fun H locs X => ?_)
                                  have X := X.swap
                                  refine lv_icmp_eq (tgt := 934) F.x F.b d_L_law_929 (by decide) (fun hc => ?_) (fun hc => ?_)
                                  · have h := it_t hc h
                                    refine lv_iinc (k := 0) (v := (v4) + 3) F.x F.b d_L_law_934 hl rfl (ii_3 _) (by decide) (lv' := [(4, .int ((v4) + 3)), (0, .ref (b)), (1, .ref (ad 0)), (2, .ref (bd 0)), (3, .ref (ao))]) rfl (fun ls hl => ?_)
                                    refine lv_goto (tgt := 23) F.x F.b d_L_law_937 (by decide) ?_
                                    exact ih q3.2 g q5.2 ((v4) + 3) _ _ _ _ _ X (lv_sub hl [0, 1, 2, 3, 4] rfl) (by omega) (by omega) h
                                  · have h := it_e hc h
                                    refine lv_iconst (v := (0 : Int32)) F.x F.b d_L_law_932 (by decide) ?_
                                    exact absurd h (by decide)
                                · have h := it_e hc13 h
                                  refine lv_tableOut (tgt := 934) F.x F.b d_L_law_39 (by have n0 := lv_neT hc0 (a := 0) (by decide); have n1 := lv_neT hc1 (a := 1) (by decide); have n2 := lv_neT hc2 (a := 2) (by decide); have n3 := lv_neT hc3 (a := 3) (by decide); have n4 := lv_neT hc4 (a := 4) (by decide); have n5 := lv_neT hc5 (a := 5) (by decide); have n6 := lv_neT hc6 (a := 6) (by decide); have n7 := lv_neT hc7 (a := 7) (by decide); have n8 := lv_neT hc8 (a := 8) (by decide); have n9 := lv_neT hc9 (a := 9) (by decide); have n10 := lv_neT hc10 (a := 10) (by decide); have n11 := lv_neT hc11 (a := 11) (by decide); have n12 := lv_neT hc12 (a := 12) (by decide); have n13 := lv_neT hc13 (a := 13) (by decide); omega) (by decide) ?_
                                  refine lv_iinc (k := 0) (v := (v4) + 3) F.x F.b d_L_law_934 hl rfl (ii_3 _) (by decide) (lv' := [(4, .int ((v4) + 3)), (0, .ref (b)), (1, .ref (ad 0)), (2, .ref (bd 0)), (3, .ref (ao))]) rfl (fun ls hl => ?_)
                                  refine lv_goto (tgt := 23) F.x F.b d_L_law_937 (by decide) ?_
                                  exact ih z g y ((v4) + 3) _ _ _ _ _ X (lv_sub hl [0, 1, 2, 3, 4] rfl) (by omega) (by omega) h
