abbrev rm_X5_goodValues : Room := { frames := 2, cells := 0, slots := 0, locals := 48 }
def fn_X5_goodValues (σ : S2) (x1 : Int32) : Option (Int32) := ck x1 40 (lt ((σ.1 16 (x1).toNatClampNeg)) (fun v2 => ck x1 40 (lt ((σ.1 17 (x1).toNatClampNeg)) (fun v4 => ck x1 40 (if (σ.1 15 (x1).toNatClampNeg) = 0 then bn (fn_X1_ofClass σ v2) (fun r8 => some r8) else if (σ.1 15 (x1).toNatClampNeg) = 1 then lt (fn_X0_termsOfSort v2) (fun r10 => some r10) else if (σ.1 15 (x1).toNatClampNeg) = 3 then bn (fn_X0_literalsBetween v2 v4) (fun r13 => some r13) else if (σ.1 15 (x1).toNatClampNeg) = 4 then some v2 else if (σ.1 15 (x1).toNatClampNeg) = 11 then bn (fn_X5_fittingTerms σ v2) (fun r17 => some (r17 ^^^ (-1))) else if (σ.1 15 (x1).toNatClampNeg) = 12 then bn (fn_X5_fittingTerms σ v2) (fun r20 => bn (fn_X5_fittingTerms σ v4) (fun r22 => some (r20 &&& r22))) else if (σ.1 15 (x1).toNatClampNeg) = 13 then bn (fn_X5_fittingTerms σ v2) (fun r25 => bn (fn_X5_fittingTerms σ v4) (fun r27 => some (r25 ||| r27))) else if (σ.1 15 (x1).toNatClampNeg) = 14 then bn (fn_X5_fittingTerms σ v2) (fun r30 => bn (fn_X5_fittingTerms σ v4) (fun r32 => some (r30 ^^^ r32))) else if (σ.1 15 (x1).toNatClampNeg) = 15 then bn (fn_X5_fittingTerms σ v2) (fun r35 => some r35) else if (σ.1 15 (x1).toNatClampNeg) = 16 then bn (fn_X5_fittingTerms σ v2) (fun r38 => some r38) else if (σ.1 15 (x1).toNatClampNeg) = 17 then bn (fn_X5_fittingTerms σ v2) (fun r41 => some r41) else some (-1))))))
set_option maxHeartbeats 4000000 in
set_option maxRecDepth 100000 in
theorem ct_X5_goodValues (l : Launch) (D : va_G) (A : Nat → Prop) (ad : Nat → Nat) (cA : Nat → ClassId) (rs : va_W) (tr : List (ClassId × FieldType)) (σ : S2) (x1 : Int32) {res : Int32} (hf : fn_X5_goodValues σ x1 = some res) : Met l yX5_goodValues (.code yX5_goodValues cX5_goodValues 4 (some .int) :: tb) rm_X5_goodValues (va_Pc [.ref (ad 5), .int x1] (zN D vwCl (tyC cA tr) A (wC ad cA rs) nl σ)) (va_Qi (fun r' u' => r' = res ∧ u' = σ) (zB D vwCl (tyC cA tr) A (wC ad cA rs)) A) 0 0 A := by
  refine Met.ofW (cc := cX5_goodValues) (maxL := 4) (ret := (some .int)) (by decide) rfl ?_
  intro p e s m args below meth c s₁ B hml hv
  obtain ⟨rfl, hB, hnw0⟩ := hv
  have htt : ∀ w ∈ tb, w.before (([.ref (ad 5), .int x1] : List Value).toArray) s = true := fun w h => atoms_spec (ws := (.code yX5_goodValues cX5_goodValues 4 (some .int) :: tb)) B.pre w (List.mem_cons_of_mem _ h)
  have C0 : cx p m meth c cX5_goodValues (some .int) 4 s (([.ref (ad 5), .int x1] : List Value).toArray) tb nl RX5 := ⟨B.exec, B.bytes, B.returns, hml, findClass_of_methodNamed B.named, htt, B.notSynchronized, hnw0⟩
  obtain ⟨hx, hb, hr, hml, hown, htt, hlocks, hnw⟩ := id C0
  have hZ := z_start hB
  have hl := lv_entry ([.ref (ad 5), .int x1]) (n := 4) (Nat.le_of_ble_eq_true rfl)
  rw [lg_entry_eq]
  generalize (lg_sl ([.ref (ad 5), .int x1]) ++ List.replicate (4 - (lg_sl ([.ref (ad 5), .int x1])).length) Slot.unset).toArray = ls at hl ⊢
  have hl : lv_has ls 4 [(0, .ref (ad 5)), (1, .int x1)] := hl
  unfold fn_X5_goodValues at hf
  refine lv_aload_n hx hb dX5_goodValues_0 rfl (lv_at hl 0 rfl) ?_
  refine z_get hx hb htt iw_X5 hown hZ 5 rfl rfl 3 (by decide) lf_X5_46 rfl dX5_goodValues_1 ?_
  refine z_getN hx hb gN hnw htt iw_X4 hown hZ 4 rfl rfl 2 (by decide) lf_X5_101 rfl dX5_goodValues_4 ?_
  refine lv_iload_n hx hb dX5_goodValues_7 rfl (lv_at hl 1 rfl) ?_
  obtain ⟨h_1, hf⟩ := ck_s hf
  refine z_ild hx hb hZ 16 10 rfl rfl h_1 dX5_goodValues_8 ?_
  refine lv_topi (fun v2 e_v2 => ?_)
  have hf := lt_n e_v2 hf
  refine lv_istore_n (lv' := [(2, .int v2), (0, .ref (ad 5)), (1, .int x1)]) hx hb dX5_goodValues_9 rfl hl (by decide) rfl (fun ls hl => ?_)
  refine lv_aload_n hx hb dX5_goodValues_10 rfl (lv_at hl 1 rfl) ?_
  refine z_get hx hb htt iw_X5 hown hZ 5 rfl rfl 3 (by decide) lf_X5_46 rfl dX5_goodValues_11 ?_
  refine z_getN hx hb gN hnw htt iw_X4 hown hZ 4 rfl rfl 3 (by decide) lf_X5_104 rfl dX5_goodValues_14 ?_
  refine lv_iload_n hx hb dX5_goodValues_17 rfl (lv_at hl 2 rfl) ?_
  obtain ⟨h_3, hf⟩ := ck_s hf
  refine z_ild hx hb hZ 17 11 rfl rfl h_3 dX5_goodValues_18 ?_
  refine lv_topi (fun v4 e_v4 => ?_)
  have hf := lt_n e_v4 hf
  refine lv_istore_n (lv' := [(3, .int v4), (2, .int v2), (0, .ref (ad 5)), (1, .int x1)]) hx hb dX5_goodValues_19 rfl hl (by decide) rfl (fun ls hl => ?_)
  refine lv_aload_n hx hb dX5_goodValues_20 rfl (lv_at hl 2 rfl) ?_
  refine z_get hx hb htt iw_X5 hown hZ 5 rfl rfl 3 (by decide) lf_X5_46 rfl dX5_goodValues_21 ?_
  refine z_getN hx hb gN hnw htt iw_X4 hown hZ 4 rfl rfl 1 (by decide) lf_X5_107 rfl dX5_goodValues_24 ?_
  refine lv_iload_n hx hb dX5_goodValues_27 rfl (lv_at hl 3 rfl) ?_
  obtain ⟨h_5, hf⟩ := ck_s hf
  refine z_ild hx hb hZ 15 9 rfl rfl h_5 dX5_goodValues_28 ?_
  by_cases c_6 : (σ.1 15 (x1).toNatClampNeg) = 0
  · have hf := ite_t c_6 hf
    refine lv_tableIn (tgt := 116) hx hb dX5_goodValues_29 (by rw [c_6]; decide) (by rw [c_6]; decide) (by rw [c_6]; rfl) (by decide) ?_
    refine lv_aload_n hx hb dX5_goodValues_116 rfl (lv_at hl 2 rfl) ?_
    refine z_get hx hb htt iw_X5 hown hZ 5 rfl rfl 0 (by decide) lf_X5_34 rfl dX5_goodValues_117 ?_
    refine lv_iload_n hx hb dX5_goodValues_120 rfl (lv_at hl 1 rfl) ?_
    obtain ⟨r8, k_7, hf⟩ := bn_s hf
    refine z_calli (z_runVN (As := [.int v2]) (rest := []) ⟨hx, hb, hml, hown, htt⟩ gT (ct_X1_ofClass l D A ad cA rs tr σ v2 k_7) md_X1_ofClass hnw lm_X5_110 rfl rfl ⟨Nat.le_of_ble_eq_true rfl, Nat.le_of_ble_eq_true rfl⟩ (z_preV gN hnw hZ rfl (q0 := 1) (ci := 1) rfl) rfl rfl hl.1 rfl (lv_room (Nat.le_of_ble_eq_true rfl)) dX5_goodValues_121 ⟨Nat.le_of_ble_eq_true rfl, Nat.le_of_ble_eq_true rfl⟩) hZ (fun H locs hZ => ?_)
    exact z_iret hx hb hr hlocks hZ (Option.some.inj hf) rfl dX5_goodValues_124
  have hf := ite_f c_6 hf
  by_cases c_9 : (σ.1 15 (x1).toNatClampNeg) = 1
  · have hf := ite_t c_9 hf
    refine lv_tableIn (tgt := 125) hx hb dX5_goodValues_29 (by rw [c_9]; decide) (by rw [c_9]; decide) (by rw [c_9]; rfl) (by decide) ?_
    refine lv_iload_n hx hb dX5_goodValues_125 rfl (lv_at hl 1 rfl) ?_
    refine z_pcalli (z_runSN (As := [.int v2]) (rest := []) ⟨hx, hb, hml, hown, htt⟩ gT (ct_X0_termsOfSort l v2 rfl) md_X0_termsOfSort hnw lm_X5_113 rfl rfl ⟨Nat.le_of_ble_eq_true rfl, Nat.le_of_ble_eq_true rfl⟩ z_preP rfl rfl hl.1 rfl (lv_room (Nat.le_of_ble_eq_true rfl)) dX5_goodValues_126 ⟨Nat.le_of_ble_eq_true rfl, Nat.le_of_ble_eq_true rfl⟩) ?_
    refine lv_topi (fun r10 e_r10 => ?_)
    have hf := lt_n e_r10 hf
    exact z_iret hx hb hr hlocks hZ (Option.some.inj hf) rfl dX5_goodValues_129
  have hf := ite_f c_9 hf
  by_cases c_11 : (σ.1 15 (x1).toNatClampNeg) = 3
  · have hf := ite_t c_11 hf
    refine lv_tableIn (tgt := 130) hx hb dX5_goodValues_29 (by rw [c_11]; decide) (by rw [c_11]; decide) (by rw [c_11]; rfl) (by decide) ?_
    refine lv_iload_n hx hb dX5_goodValues_130 rfl (lv_at hl 1 rfl) ?_
    refine lv_iload_n hx hb dX5_goodValues_131 rfl (lv_at hl 0 rfl) ?_
    obtain ⟨r13, k_12, hf⟩ := bn_s hf
    refine z_pcalli (z_runSN (As := [.int v2, .int v4]) (rest := []) ⟨hx, hb, hml, hown, htt⟩ gT (ct_X0_literalsBetween l v2 v4 k_12) md_X0_literalsBetween hnw lm_X5_116 rfl rfl ⟨Nat.le_of_ble_eq_true rfl, Nat.le_of_ble_eq_true rfl⟩ z_preP rfl rfl hl.1 rfl (lv_room (Nat.le_of_ble_eq_true rfl)) dX5_goodValues_132 ⟨Nat.le_of_ble_eq_true rfl, Nat.le_of_ble_eq_true rfl⟩) ?_
    exact z_iret hx hb hr hlocks hZ (Option.some.inj hf) rfl dX5_goodValues_135
  have hf := ite_f c_11 hf
  by_cases c_14 : (σ.1 15 (x1).toNatClampNeg) = 4
  · have hf := ite_t c_14 hf
    refine lv_tableIn (tgt := 136) hx hb dX5_goodValues_29 (by rw [c_14]; decide) (by rw [c_14]; decide) (by rw [c_14]; rfl) (by decide) ?_
    refine lv_iload_n hx hb dX5_goodValues_136 rfl (lv_at hl 1 rfl) ?_
    exact z_iret hx hb hr hlocks hZ (Option.some.inj hf) rfl dX5_goodValues_137
  have hf := ite_f c_14 hf
  by_cases c_15 : (σ.1 15 (x1).toNatClampNeg) = 11
  · have hf := ite_t c_15 hf
    refine lv_tableIn (tgt := 138) hx hb dX5_goodValues_29 (by rw [c_15]; decide) (by rw [c_15]; decide) (by rw [c_15]; rfl) (by decide) ?_
    refine lv_aload_n hx hb dX5_goodValues_138 rfl (lv_at hl 2 rfl) ?_
    refine lv_iload_n hx hb dX5_goodValues_139 rfl (lv_at hl 1 rfl) ?_
    obtain ⟨r17, k_16, hf⟩ := bn_s hf
    refine z_calli (z_runV (As := [.int v2]) (rest := []) ⟨hx, hb, hml, hown, htt⟩ gT (ct_X5_fittingTerms l D A ad cA rs tr σ v2 k_16) md_X5_fittingTerms lm_X5_119 rfl rfl ⟨Nat.le_of_ble_eq_true rfl, Nat.le_of_ble_eq_true rfl⟩ (z_preV gN hnw hZ rfl (q0 := 5) (ci := 5) rfl) rfl rfl hl.1 rfl (lv_room (Nat.le_of_ble_eq_true rfl)) dX5_goodValues_140 ⟨Nat.le_of_ble_eq_true rfl, Nat.le_of_ble_eq_true rfl⟩) hZ (fun H locs hZ => ?_)
    refine lv_iconst (v := (-1)) hx hb dX5_goodValues_143 (by decide) ?_
    refine lv_ixor hx hb dX5_goodValues_144 ?_
    exact z_iret hx hb hr hlocks hZ (Option.some.inj hf) rfl dX5_goodValues_145
  have hf := ite_f c_15 hf
  by_cases c_18 : (σ.1 15 (x1).toNatClampNeg) = 12
  · have hf := ite_t c_18 hf
    refine lv_tableIn (tgt := 146) hx hb dX5_goodValues_29 (by rw [c_18]; decide) (by rw [c_18]; decide) (by rw [c_18]; rfl) (by decide) ?_
    refine lv_aload_n hx hb dX5_goodValues_146 rfl (lv_at hl 2 rfl) ?_
    refine lv_iload_n hx hb dX5_goodValues_147 rfl (lv_at hl 1 rfl) ?_
    obtain ⟨r20, k_19, hf⟩ := bn_s hf
    refine z_calli (z_runV (As := [.int v2]) (rest := []) ⟨hx, hb, hml, hown, htt⟩ gT (ct_X5_fittingTerms l D A ad cA rs tr σ v2 k_19) md_X5_fittingTerms lm_X5_119 rfl rfl ⟨Nat.le_of_ble_eq_true rfl, Nat.le_of_ble_eq_true rfl⟩ (z_preV gN hnw hZ rfl (q0 := 5) (ci := 5) rfl) rfl rfl hl.1 rfl (lv_room (Nat.le_of_ble_eq_true rfl)) dX5_goodValues_148 ⟨Nat.le_of_ble_eq_true rfl, Nat.le_of_ble_eq_true rfl⟩) hZ (fun H locs hZ => ?_)
    refine lv_aload_n hx hb dX5_goodValues_151 rfl (lv_at hl 2 rfl) ?_
    refine lv_iload_n hx hb dX5_goodValues_152 rfl (lv_at hl 0 rfl) ?_
    obtain ⟨r22, k_21, hf⟩ := bn_s hf
    refine z_calli (z_runV (As := [.int v4]) (rest := [.int r20]) ⟨hx, hb, hml, hown, htt⟩ gT (ct_X5_fittingTerms l D A ad cA rs tr σ v4 k_21) md_X5_fittingTerms lm_X5_119 rfl rfl ⟨Nat.le_of_ble_eq_true rfl, Nat.le_of_ble_eq_true rfl⟩ (z_preV gN hnw hZ rfl (q0 := 5) (ci := 5) rfl) rfl rfl hl.1 rfl (lv_room (Nat.le_of_ble_eq_true rfl)) dX5_goodValues_153 ⟨Nat.le_of_ble_eq_true rfl, Nat.le_of_ble_eq_true rfl⟩) hZ (fun H locs hZ => ?_)
    refine lv_iand hx hb dX5_goodValues_156 ?_
    exact z_iret hx hb hr hlocks hZ (Option.some.inj hf) rfl dX5_goodValues_157
  have hf := ite_f c_18 hf
  by_cases c_23 : (σ.1 15 (x1).toNatClampNeg) = 13
  · have hf := ite_t c_23 hf
    refine lv_tableIn (tgt := 158) hx hb dX5_goodValues_29 (by rw [c_23]; decide) (by rw [c_23]; decide) (by rw [c_23]; rfl) (by decide) ?_
    refine lv_aload_n hx hb dX5_goodValues_158 rfl (lv_at hl 2 rfl) ?_
    refine lv_iload_n hx hb dX5_goodValues_159 rfl (lv_at hl 1 rfl) ?_
    obtain ⟨r25, k_24, hf⟩ := bn_s hf
    refine z_calli (z_runV (As := [.int v2]) (rest := []) ⟨hx, hb, hml, hown, htt⟩ gT (ct_X5_fittingTerms l D A ad cA rs tr σ v2 k_24) md_X5_fittingTerms lm_X5_119 rfl rfl ⟨Nat.le_of_ble_eq_true rfl, Nat.le_of_ble_eq_true rfl⟩ (z_preV gN hnw hZ rfl (q0 := 5) (ci := 5) rfl) rfl rfl hl.1 rfl (lv_room (Nat.le_of_ble_eq_true rfl)) dX5_goodValues_160 ⟨Nat.le_of_ble_eq_true rfl, Nat.le_of_ble_eq_true rfl⟩) hZ (fun H locs hZ => ?_)
    refine lv_aload_n hx hb dX5_goodValues_163 rfl (lv_at hl 2 rfl) ?_
    refine lv_iload_n hx hb dX5_goodValues_164 rfl (lv_at hl 0 rfl) ?_
    obtain ⟨r27, k_26, hf⟩ := bn_s hf
    refine z_calli (z_runV (As := [.int v4]) (rest := [.int r25]) ⟨hx, hb, hml, hown, htt⟩ gT (ct_X5_fittingTerms l D A ad cA rs tr σ v4 k_26) md_X5_fittingTerms lm_X5_119 rfl rfl ⟨Nat.le_of_ble_eq_true rfl, Nat.le_of_ble_eq_true rfl⟩ (z_preV gN hnw hZ rfl (q0 := 5) (ci := 5) rfl) rfl rfl hl.1 rfl (lv_room (Nat.le_of_ble_eq_true rfl)) dX5_goodValues_165 ⟨Nat.le_of_ble_eq_true rfl, Nat.le_of_ble_eq_true rfl⟩) hZ (fun H locs hZ => ?_)
    refine lv_ior hx hb dX5_goodValues_168 ?_
    exact z_iret hx hb hr hlocks hZ (Option.some.inj hf) rfl dX5_goodValues_169
  have hf := ite_f c_23 hf
  by_cases c_28 : (σ.1 15 (x1).toNatClampNeg) = 14
  · have hf := ite_t c_28 hf
    refine lv_tableIn (tgt := 170) hx hb dX5_goodValues_29 (by rw [c_28]; decide) (by rw [c_28]; decide) (by rw [c_28]; rfl) (by decide) ?_
    refine lv_aload_n hx hb dX5_goodValues_170 rfl (lv_at hl 2 rfl) ?_
    refine lv_iload_n hx hb dX5_goodValues_171 rfl (lv_at hl 1 rfl) ?_
    obtain ⟨r30, k_29, hf⟩ := bn_s hf
    refine z_calli (z_runV (As := [.int v2]) (rest := []) ⟨hx, hb, hml, hown, htt⟩ gT (ct_X5_fittingTerms l D A ad cA rs tr σ v2 k_29) md_X5_fittingTerms lm_X5_119 rfl rfl ⟨Nat.le_of_ble_eq_true rfl, Nat.le_of_ble_eq_true rfl⟩ (z_preV gN hnw hZ rfl (q0 := 5) (ci := 5) rfl) rfl rfl hl.1 rfl (lv_room (Nat.le_of_ble_eq_true rfl)) dX5_goodValues_172 ⟨Nat.le_of_ble_eq_true rfl, Nat.le_of_ble_eq_true rfl⟩) hZ (fun H locs hZ => ?_)
    refine lv_aload_n hx hb dX5_goodValues_175 rfl (lv_at hl 2 rfl) ?_
    refine lv_iload_n hx hb dX5_goodValues_176 rfl (lv_at hl 0 rfl) ?_
    obtain ⟨r32, k_31, hf⟩ := bn_s hf
    refine z_calli (z_runV (As := [.int v4]) (rest := [.int r30]) ⟨hx, hb, hml, hown, htt⟩ gT (ct_X5_fittingTerms l D A ad cA rs tr σ v4 k_31) md_X5_fittingTerms lm_X5_119 rfl rfl ⟨Nat.le_of_ble_eq_true rfl, Nat.le_of_ble_eq_true rfl⟩ (z_preV gN hnw hZ rfl (q0 := 5) (ci := 5) rfl) rfl rfl hl.1 rfl (lv_room (Nat.le_of_ble_eq_true rfl)) dX5_goodValues_177 ⟨Nat.le_of_ble_eq_true rfl, Nat.le_of_ble_eq_true rfl⟩) hZ (fun H locs hZ => ?_)
    refine lv_ixor hx hb dX5_goodValues_180 ?_
    exact z_iret hx hb hr hlocks hZ (Option.some.inj hf) rfl dX5_goodValues_181
  have hf := ite_f c_28 hf
  by_cases c_33 : (σ.1 15 (x1).toNatClampNeg) = 15
  · have hf := ite_t c_33 hf
    refine lv_tableIn (tgt := 182) hx hb dX5_goodValues_29 (by rw [c_33]; decide) (by rw [c_33]; decide) (by rw [c_33]; rfl) (by decide) ?_
    refine lv_aload_n hx hb dX5_goodValues_182 rfl (lv_at hl 2 rfl) ?_
    refine lv_iload_n hx hb dX5_goodValues_183 rfl (lv_at hl 1 rfl) ?_
    obtain ⟨r35, k_34, hf⟩ := bn_s hf
    refine z_calli (z_runV (As := [.int v2]) (rest := []) ⟨hx, hb, hml, hown, htt⟩ gT (ct_X5_fittingTerms l D A ad cA rs tr σ v2 k_34) md_X5_fittingTerms lm_X5_119 rfl rfl ⟨Nat.le_of_ble_eq_true rfl, Nat.le_of_ble_eq_true rfl⟩ (z_preV gN hnw hZ rfl (q0 := 5) (ci := 5) rfl) rfl rfl hl.1 rfl (lv_room (Nat.le_of_ble_eq_true rfl)) dX5_goodValues_184 ⟨Nat.le_of_ble_eq_true rfl, Nat.le_of_ble_eq_true rfl⟩) hZ (fun H locs hZ => ?_)
    exact z_iret hx hb hr hlocks hZ (Option.some.inj hf) rfl dX5_goodValues_187
  have hf := ite_f c_33 hf
  by_cases c_36 : (σ.1 15 (x1).toNatClampNeg) = 16
  · have hf := ite_t c_36 hf
    refine lv_tableIn (tgt := 182) hx hb dX5_goodValues_29 (by rw [c_36]; decide) (by rw [c_36]; decide) (by rw [c_36]; rfl) (by decide) ?_
    refine lv_aload_n hx hb dX5_goodValues_182 rfl (lv_at hl 2 rfl) ?_
    refine lv_iload_n hx hb dX5_goodValues_183 rfl (lv_at hl 1 rfl) ?_
    obtain ⟨r38, k_37, hf⟩ := bn_s hf
    refine z_calli (z_runV (As := [.int v2]) (rest := []) ⟨hx, hb, hml, hown, htt⟩ gT (ct_X5_fittingTerms l D A ad cA rs tr σ v2 k_37) md_X5_fittingTerms lm_X5_119 rfl rfl ⟨Nat.le_of_ble_eq_true rfl, Nat.le_of_ble_eq_true rfl⟩ (z_preV gN hnw hZ rfl (q0 := 5) (ci := 5) rfl) rfl rfl hl.1 rfl (lv_room (Nat.le_of_ble_eq_true rfl)) dX5_goodValues_184 ⟨Nat.le_of_ble_eq_true rfl, Nat.le_of_ble_eq_true rfl⟩) hZ (fun H locs hZ => ?_)
    exact z_iret hx hb hr hlocks hZ (Option.some.inj hf) rfl dX5_goodValues_187
  have hf := ite_f c_36 hf
  by_cases c_39 : (σ.1 15 (x1).toNatClampNeg) = 17
  · have hf := ite_t c_39 hf
    refine lv_tableIn (tgt := 182) hx hb dX5_goodValues_29 (by rw [c_39]; decide) (by rw [c_39]; decide) (by rw [c_39]; rfl) (by decide) ?_
    refine lv_aload_n hx hb dX5_goodValues_182 rfl (lv_at hl 2 rfl) ?_
    refine lv_iload_n hx hb dX5_goodValues_183 rfl (lv_at hl 1 rfl) ?_
    obtain ⟨r41, k_40, hf⟩ := bn_s hf
    refine z_calli (z_runV (As := [.int v2]) (rest := []) ⟨hx, hb, hml, hown, htt⟩ gT (ct_X5_fittingTerms l D A ad cA rs tr σ v2 k_40) md_X5_fittingTerms lm_X5_119 rfl rfl ⟨Nat.le_of_ble_eq_true rfl, Nat.le_of_ble_eq_true rfl⟩ (z_preV gN hnw hZ rfl (q0 := 5) (ci := 5) rfl) rfl rfl hl.1 rfl (lv_room (Nat.le_of_ble_eq_true rfl)) dX5_goodValues_184 ⟨Nat.le_of_ble_eq_true rfl, Nat.le_of_ble_eq_true rfl⟩) hZ (fun H locs hZ => ?_)
    exact z_iret hx hb hr hlocks hZ (Option.some.inj hf) rfl dX5_goodValues_187
  have hf := ite_f c_39 hf
  have nc_6 := lv_neT c_6 (show (0 : Int32).toInt = 0 from by decide)
  have nc_9 := lv_neT c_9 (show (1 : Int32).toInt = 1 from by decide)
  have nc_11 := lv_neT c_11 (show (3 : Int32).toInt = 3 from by decide)
  have nc_14 := lv_neT c_14 (show (4 : Int32).toInt = 4 from by decide)
  have nc_15 := lv_neT c_15 (show (11 : Int32).toInt = 11 from by decide)
  have nc_18 := lv_neT c_18 (show (12 : Int32).toInt = 12 from by decide)
  have nc_23 := lv_neT c_23 (show (13 : Int32).toInt = 13 from by decide)
  have nc_28 := lv_neT c_28 (show (14 : Int32).toInt = 14 from by decide)
  have nc_33 := lv_neT c_33 (show (15 : Int32).toInt = 15 from by decide)
  have nc_36 := lv_neT c_36 (show (16 : Int32).toInt = 16 from by decide)
  have nc_39 := lv_neT c_39 (show (17 : Int32).toInt = 17 from by decide)
  have h_42 : ((σ.1 15 (x1).toNatClampNeg)).toInt < 0 ∨ 17 < ((σ.1 15 (x1).toNatClampNeg)).toInt ∨ ((σ.1 15 (x1).toNatClampNeg)).toInt = 2 ∨ ((σ.1 15 (x1).toNatClampNeg)).toInt = 5 ∨ ((σ.1 15 (x1).toNatClampNeg)).toInt = 6 ∨ ((σ.1 15 (x1).toNatClampNeg)).toInt = 7 ∨ ((σ.1 15 (x1).toNatClampNeg)).toInt = 8 ∨ ((σ.1 15 (x1).toNatClampNeg)).toInt = 9 ∨ ((σ.1 15 (x1).toNatClampNeg)).toInt = 10 := by omega
  refine z_tdef (tgt := 188) hx hb dX5_goodValues_29 (by
    rcases h_42 with h_42 | h_42 | h_42 | h_42 | h_42 | h_42 | h_42 | h_42 | h_42
    · exact Or.inl h_42
    · exact Or.inr (Or.inl h_42)
    · exact Or.inr (Or.inr (by rw [h_42]; rfl))
    · exact Or.inr (Or.inr (by rw [h_42]; rfl))
    · exact Or.inr (Or.inr (by rw [h_42]; rfl))
    · exact Or.inr (Or.inr (by rw [h_42]; rfl))
    · exact Or.inr (Or.inr (by rw [h_42]; rfl))
    · exact Or.inr (Or.inr (by rw [h_42]; rfl))
    · exact Or.inr (Or.inr (by rw [h_42]; rfl))) (by decide) ?_
  refine lv_iconst (v := (-1)) hx hb dX5_goodValues_188 (by decide) ?_
  exact z_iret hx hb hr hlocks hZ (Option.some.inj hf) rfl dX5_goodValues_189
abbrev rm_X1_termsBack : Room := { frames := 1, cells := 0, slots := 0, locals := 20 }
def fn_X1_termsBack (σ : S2) (x1 : Int32) (x2 : Int32) : Option (Int32) := lt (fn_X0_isTerm x1) (fun r1 => if r1 = 0 then some 0 else lt (fn_X0_isPredicate x2) (fun r3 => if r3 = 0 then some 0 else ck ((x1 * 8) + x2) 256 (some (σ.1 7 (((x1 * 8) + x2)).toNatClampNeg))))
set_option maxHeartbeats 4000000 in
set_option maxRecDepth 100000 in
theorem ct_X1_termsBack (l : Launch) (D : va_G) (A : Nat → Prop) (ad : Nat → Nat) (cA : Nat → ClassId) (rs : va_W) (tr : List (ClassId × FieldType)) (σ : S2) (x1 : Int32) (x2 : Int32) {res : Int32} (hf : fn_X1_termsBack σ x1 x2 = some res) : Met l yX1_termsBack (.code yX1_termsBack cX1_termsBack 3 (some .int) :: tb) rm_X1_termsBack (va_Pc [.ref (ad 1), .int x1, .int x2] (zN D vwCl (tyC cA tr) A (wC ad cA rs) nl σ)) (va_Qi (fun r' u' => r' = res ∧ u' = σ) (zB D vwCl (tyC cA tr) A (wC ad cA rs)) A) 0 0 A := by
  refine Met.ofW (cc := cX1_termsBack) (maxL := 3) (ret := (some .int)) (by decide) rfl ?_
  intro p e s m args below meth c s₁ B hml hv
  obtain ⟨rfl, hB, hnw0⟩ := hv
  have htt : ∀ w ∈ tb, w.before (([.ref (ad 1), .int x1, .int x2] : List Value).toArray) s = true := fun w h => atoms_spec (ws := (.code yX1_termsBack cX1_termsBack 3 (some .int) :: tb)) B.pre w (List.mem_cons_of_mem _ h)
  have C0 : cx p m meth c cX1_termsBack (some .int) 3 s (([.ref (ad 1), .int x1, .int x2] : List Value).toArray) tb nl RX1 := ⟨B.exec, B.bytes, B.returns, hml, findClass_of_methodNamed B.named, htt, B.notSynchronized, hnw0⟩
  obtain ⟨hx, hb, hr, hml, hown, htt, hlocks, hnw⟩ := id C0
  have hZ := z_start hB
  have hl := lv_entry ([.ref (ad 1), .int x1, .int x2]) (n := 3) (Nat.le_of_ble_eq_true rfl)
  rw [lg_entry_eq]
  generalize (lg_sl ([.ref (ad 1), .int x1, .int x2]) ++ List.replicate (3 - (lg_sl ([.ref (ad 1), .int x1, .int x2])).length) Slot.unset).toArray = ls at hl ⊢
  have hl : lv_has ls 3 [(0, .ref (ad 1)), (1, .int x1), (2, .int x2)] := hl
  unfold fn_X1_termsBack at hf
  refine lv_iload_n hx hb dX1_termsBack_0 rfl (lv_at hl 1 rfl) ?_
  refine z_pcalli (z_runSN (As := [.int x1]) (rest := []) ⟨hx, hb, hml, hown, htt⟩ gT (ct_X0_isTerm l x1 rfl) md_X0_isTerm hnw lm_X1_41 rfl rfl ⟨Nat.le_of_ble_eq_true rfl, Nat.le_of_ble_eq_true rfl⟩ z_preP rfl rfl hl.1 rfl (lv_room (Nat.le_of_ble_eq_true rfl)) dX1_termsBack_1 ⟨Nat.le_of_ble_eq_true rfl, Nat.le_of_ble_eq_true rfl⟩) ?_
  refine lv_topi (fun r1 e_r1 => ?_)
  have hf := lt_n e_r1 hf
  refine lv_if_eq (tgt := 28) hx hb dX1_termsBack_4 (by decide) (fun c_2 => ?_) (fun c_2 => ?_)
  · have hf := ite_t c_2 hf
    refine lv_iconst (v := 0) hx hb dX1_termsBack_28 (by decide) ?_
    exact z_iret hx hb hr hlocks hZ (Option.some.inj hf) rfl dX1_termsBack_29
  · have hf := ite_f c_2 hf
    refine lv_iload_n hx hb dX1_termsBack_7 rfl (lv_at hl 2 rfl) ?_
    refine z_pcalli (z_runSN (As := [.int x2]) (rest := []) ⟨hx, hb, hml, hown, htt⟩ gT (ct_X0_isPredicate l x2 rfl) md_X0_isPredicate hnw lm_X1_38 rfl rfl ⟨Nat.le_of_ble_eq_true rfl, Nat.le_of_ble_eq_true rfl⟩ z_preP rfl rfl hl.1 rfl (lv_room (Nat.le_of_ble_eq_true rfl)) dX1_termsBack_8 ⟨Nat.le_of_ble_eq_true rfl, Nat.le_of_ble_eq_true rfl⟩) ?_
    refine lv_topi (fun r3 e_r3 => ?_)
    have hf := lt_n e_r3 hf
    refine lv_if_eq (tgt := 28) hx hb dX1_termsBack_11 (by decide) (fun c_4 => ?_) (fun c_4 => ?_)
    · have hf := ite_t c_4 hf
      refine lv_iconst (v := 0) hx hb dX1_termsBack_28 (by decide) ?_
      exact z_iret hx hb hr hlocks hZ (Option.some.inj hf) rfl dX1_termsBack_29
    · have hf := ite_f c_4 hf
      refine lv_aload_n hx hb dX1_termsBack_14 rfl (lv_at hl 0 rfl) ?_
      refine z_get hx hb htt iw_X1 hown hZ 1 rfl rfl 1 (by decide) lf_X1_15 rfl dX1_termsBack_15 ?_
      refine lv_iload_n hx hb dX1_termsBack_18 rfl (lv_at hl 1 rfl) ?_
      refine lv_bipush (v := 8) hx hb dX1_termsBack_19 (by decide) ?_
      refine lv_imul hx hb dX1_termsBack_21 ?_
      refine lv_iload_n hx hb dX1_termsBack_22 rfl (lv_at hl 2 rfl) ?_
      refine lv_iadd hx hb dX1_termsBack_23 ?_
      obtain ⟨h_5, hf⟩ := ck_s hf
      refine z_ild hx hb hZ 7 1 rfl rfl h_5 dX1_termsBack_24 ?_
      refine lv_goto (tgt := 29) hx hb dX1_termsBack_25 (by decide) ?_
      exact z_iret hx hb hr hlocks hZ (Option.some.inj hf) rfl dX1_termsBack_29
abbrev rm_X1_byPath : Room := { frames := 2, cells := 0, slots := 0, locals := 42 }
def fn_X1_byPath (σ : S2) (x1 : Int32) (x2 : Int32) : Option (Int32) := if x2 = (-1) then some (1 <<< (x1 &&& 31)) else if 8 ≤ x2 then bn (fn_X1_termsBack σ x1 (x2 - 8)) (fun r4 => some r4) else bn (fn_X1_termsAhead σ x1 x2) (fun r6 => some r6)
set_option maxHeartbeats 4000000 in
set_option maxRecDepth 100000 in
theorem ct_X1_byPath (l : Launch) (D : va_G) (A : Nat → Prop) (ad : Nat → Nat) (cA : Nat → ClassId) (rs : va_W) (tr : List (ClassId × FieldType)) (σ : S2) (x1 : Int32) (x2 : Int32) {res : Int32} (hf : fn_X1_byPath σ x1 x2 = some res) : Met l yX1_byPath (.code yX1_byPath cX1_byPath 3 (some .int) :: tb) rm_X1_byPath (va_Pc [.ref (ad 1), .int x1, .int x2] (zN D vwCl (tyC cA tr) A (wC ad cA rs) nl σ)) (va_Qi (fun r' u' => r' = res ∧ u' = σ) (zB D vwCl (tyC cA tr) A (wC ad cA rs)) A) 0 0 A := by
  refine Met.ofW (cc := cX1_byPath) (maxL := 3) (ret := (some .int)) (by decide) rfl ?_
  intro p e s m args below meth c s₁ B hml hv
  obtain ⟨rfl, hB, hnw0⟩ := hv
  have htt : ∀ w ∈ tb, w.before (([.ref (ad 1), .int x1, .int x2] : List Value).toArray) s = true := fun w h => atoms_spec (ws := (.code yX1_byPath cX1_byPath 3 (some .int) :: tb)) B.pre w (List.mem_cons_of_mem _ h)
  have C0 : cx p m meth c cX1_byPath (some .int) 3 s (([.ref (ad 1), .int x1, .int x2] : List Value).toArray) tb nl RX1 := ⟨B.exec, B.bytes, B.returns, hml, findClass_of_methodNamed B.named, htt, B.notSynchronized, hnw0⟩
  obtain ⟨hx, hb, hr, hml, hown, htt, hlocks, hnw⟩ := id C0
  have hZ := z_start hB
  have hl := lv_entry ([.ref (ad 1), .int x1, .int x2]) (n := 3) (Nat.le_of_ble_eq_true rfl)
  rw [lg_entry_eq]
  generalize (lg_sl ([.ref (ad 1), .int x1, .int x2]) ++ List.replicate (3 - (lg_sl ([.ref (ad 1), .int x1, .int x2])).length) Slot.unset).toArray = ls at hl ⊢
  have hl : lv_has ls 3 [(0, .ref (ad 1)), (1, .int x1), (2, .int x2)] := hl
  unfold fn_X1_byPath at hf
  refine lv_iload_n hx hb dX1_byPath_0 rfl (lv_at hl 2 rfl) ?_
  refine lv_iconst (v := (-1)) hx hb dX1_byPath_1 (by decide) ?_
  refine lv_icmp_ne (tgt := 9) hx hb dX1_byPath_2 (by decide) (fun c_1 => ?_) (fun c_1 => ?_)
  · have hf := ite_f c_1 hf
    refine lv_iload_n hx hb dX1_byPath_9 rfl (lv_at hl 2 rfl) ?_
    refine lv_bipush (v := 8) hx hb dX1_byPath_10 (by decide) ?_
    refine lv_icmp_ge (tgt := 24) hx hb dX1_byPath_12 (by decide) (fun c_2 => ?_) (fun c_2 => ?_)
    · have hf := ite_t c_2 hf
      refine lv_aload_n hx hb dX1_byPath_24 rfl (lv_at hl 0 rfl) ?_
      refine lv_iload_n hx hb dX1_byPath_25 rfl (lv_at hl 1 rfl) ?_
      refine lv_iload_n hx hb dX1_byPath_26 rfl (lv_at hl 2 rfl) ?_
      refine lv_bipush (v := 8) hx hb dX1_byPath_27 (by decide) ?_
      refine lv_isub hx hb dX1_byPath_29 ?_
      obtain ⟨r4, k_3, hf⟩ := bn_s hf
      refine z_calli (z_runV (As := [.int x1, .int (x2 - 8)]) (rest := []) ⟨hx, hb, hml, hown, htt⟩ gT (ct_X1_termsBack l D A ad cA rs tr σ x1 (x2 - 8) k_3) md_X1_termsBack lm_X1_44 rfl rfl ⟨Nat.le_of_ble_eq_true rfl, Nat.le_of_ble_eq_true rfl⟩ (z_preV gN hnw hZ rfl (q0 := 1) (ci := 1) rfl) rfl rfl hl.1 rfl (lv_room (Nat.le_of_ble_eq_true rfl)) dX1_byPath_30 ⟨Nat.le_of_ble_eq_true rfl, Nat.le_of_ble_eq_true rfl⟩) hZ (fun H locs hZ => ?_)
      exact z_iret hx hb hr hlocks hZ (Option.some.inj hf) rfl dX1_byPath_33
    · have hf := ite_f c_2 hf
      refine lv_aload_n hx hb dX1_byPath_15 rfl (lv_at hl 0 rfl) ?_
      refine lv_iload_n hx hb dX1_byPath_16 rfl (lv_at hl 1 rfl) ?_
      refine lv_iload_n hx hb dX1_byPath_17 rfl (lv_at hl 2 rfl) ?_
      obtain ⟨r6, k_5, hf⟩ := bn_s hf
      refine z_calli (z_runV (As := [.int x1, .int x2]) (rest := []) ⟨hx, hb, hml, hown, htt⟩ gT (ct_X1_termsAhead l D A ad cA rs tr σ x1 x2 k_5) md_X1_termsAhead lm_X1_18 rfl rfl ⟨Nat.le_of_ble_eq_true rfl, Nat.le_of_ble_eq_true rfl⟩ (z_preV gN hnw hZ rfl (q0 := 1) (ci := 1) rfl) rfl rfl hl.1 rfl (lv_room (Nat.le_of_ble_eq_true rfl)) dX1_byPath_18 ⟨Nat.le_of_ble_eq_true rfl, Nat.le_of_ble_eq_true rfl⟩) hZ (fun H locs hZ => ?_)
      refine lv_goto (tgt := 33) hx hb dX1_byPath_21 (by decide) ?_
      exact z_iret hx hb hr hlocks hZ (Option.some.inj hf) rfl dX1_byPath_33
  · have hf := ite_t c_1 hf
    refine lv_iconst (v := 1) hx hb dX1_byPath_5 (by decide) ?_
    refine lv_iload_n hx hb dX1_byPath_6 rfl (lv_at hl 1 rfl) ?_
    refine lv_ishl hx hb dX1_byPath_7 ?_
    exact z_iret hx hb hr hlocks hZ (Option.some.inj hf) rfl dX1_byPath_8
abbrev rm_X5_unless : Room := { frames := 0, cells := 0, slots := 0, locals := 0 }
def fn_X5_unless (x0 : Int32) : Int64 := if x0 = 0 then 1 else 0
set_option maxHeartbeats 4000000 in
set_option maxRecDepth 100000 in
theorem ct_X5_unless (l : Launch) (x0 : Int32) {res : Int64} (hf : fn_X5_unless x0 = res) : Met l yX5_unless (.code yX5_unless cX5_unless 1 (some .long) :: tb) rm_X5_unless (va_Pc [.int x0] (fun _ => True)) (vp_Sl (fun r' => r' = res)) 0 0 (fun _ => False) := by
  refine Met.ofW (cc := cX5_unless) (maxL := 1) (ret := (some .long)) (by decide) rfl ?_
  intro p e s m args below meth c s₁ B hml hv
  obtain ⟨rfl, hB⟩ := hv
  have htt : ∀ w ∈ tb, w.before (([.int x0] : List Value).toArray) s = true := fun w h => atoms_spec (ws := (.code yX5_unless cX5_unless 1 (some .long) :: tb)) B.pre w (List.mem_cons_of_mem _ h)
  have C0 : cx p m meth c cX5_unless (some .long) 1 s (([.int x0] : List Value).toArray) tb [] RX5 := ⟨B.exec, B.bytes, B.returns, hml, findClass_of_methodNamed B.named, htt, B.notSynchronized, fun _ h => absurd h List.not_mem_nil⟩
  obtain ⟨hx, hb, hr, hml, hown, htt, hlocks, hnw⟩ := id C0
  have hl := lv_entry ([.int x0]) (n := 1) (Nat.le_of_ble_eq_true rfl)
  rw [lg_entry_eq]
  generalize (lg_sl ([.int x0]) ++ List.replicate (1 - (lg_sl ([.int x0])).length) Slot.unset).toArray = ls at hl ⊢
  have hl : lv_has ls 1 [(0, .int x0)] := hl
  unfold fn_X5_unless at hf
  refine lv_iload_n hx hb dX5_unless_0 rfl (lv_at hl 0 rfl) ?_
  refine lv_if_eq (tgt := 8) hx hb dX5_unless_1 (by decide) (fun c_1 => ?_) (fun c_1 => ?_)
  · have hf := ite_t c_1 hf
    refine lv_lconst (v := 1) hx hb dX5_unless_8 (by decide) ?_
    exact z_plret hx hb hr hlocks hf dX5_unless_9
  · have hf := ite_f c_1 hf
    refine lv_lconst (v := 0) hx hb dX5_unless_4 (by decide) ?_
    refine lv_goto (tgt := 9) hx hb dX5_unless_5 (by decide) ?_
    exact z_plret hx hb hr hlocks hf dX5_unless_9
abbrev rm_X5_withValues : Room := { frames := 0, cells := 0, slots := 0, locals := 0 }
def fn_X5_withValues (x0 : Int32) : Int64 := (shlL ((x0).toInt64 &&& 4294967295) 1)
set_option maxHeartbeats 4000000 in
set_option maxRecDepth 100000 in
theorem ct_X5_withValues (l : Launch) (x0 : Int32) {res : Int64} (hf : fn_X5_withValues x0 = res) : Met l yX5_withValues (.code yX5_withValues cX5_withValues 1 (some .long) :: tb) rm_X5_withValues (va_Pc [.int x0] (fun _ => True)) (vp_Sl (fun r' => r' = res)) 0 0 (fun _ => False) := by
  refine Met.ofW (cc := cX5_withValues) (maxL := 1) (ret := (some .long)) (by decide) rfl ?_
  intro p e s m args below meth c s₁ B hml hv
  obtain ⟨rfl, hB⟩ := hv
  have htt : ∀ w ∈ tb, w.before (([.int x0] : List Value).toArray) s = true := fun w h => atoms_spec (ws := (.code yX5_withValues cX5_withValues 1 (some .long) :: tb)) B.pre w (List.mem_cons_of_mem _ h)
  have C0 : cx p m meth c cX5_withValues (some .long) 1 s (([.int x0] : List Value).toArray) tb [] RX5 := ⟨B.exec, B.bytes, B.returns, hml, findClass_of_methodNamed B.named, htt, B.notSynchronized, fun _ h => absurd h List.not_mem_nil⟩
  obtain ⟨hx, hb, hr, hml, hown, htt, hlocks, hnw⟩ := id C0
  have hl := lv_entry ([.int x0]) (n := 1) (Nat.le_of_ble_eq_true rfl)
  rw [lg_entry_eq]
  generalize (lg_sl ([.int x0]) ++ List.replicate (1 - (lg_sl ([.int x0])).length) Slot.unset).toArray = ls at hl ⊢
  have hl : lv_has ls 1 [(0, .int x0)] := hl
  unfold fn_X5_withValues at hf
  refine lv_iload_n hx hb dX5_withValues_0 rfl (lv_at hl 0 rfl) ?_
  refine lv_i2l hx hb dX5_withValues_1 rfl ?_
  refine lv_ldc2 hx hb hown (htt _ lc_X5_158) dX5_withValues_2 ?_
  refine lv_land hx hb dX5_withValues_5 ?_
  refine lv_iconst (v := 1) hx hb dX5_withValues_6 (by decide) ?_
  refine lv_lshl (v := shlL ((x0).toInt64 &&& 4294967295) 1) hx hb dX5_withValues_7 rfl ?_
  exact z_plret hx hb hr hlocks hf dX5_withValues_8
abbrev rm_X0_literalsSmallerThanAll : Room := { frames := 1, cells := 0, slots := 0, locals := 20 }
def fn_X0_literalsSmallerThanAll_13 : Nat → Int32 → Int32 → Int32 → Option (Int32)
  | 0, _, _, _ => none
  | n + 1, x0, x1, x2 => if 6 ≤ x2 then some x1 else lt (fn_X0_literalsWithNumber x2) (fun r2 => if (x0 &&& r2) = 0 then lt (fn_X0_literalsWithNumber x2) (fun r4 => lt ((x1 ||| r4)) (fun v5 => lt (x2 + 1) (fun v6 => fn_X0_literalsSmallerThanAll_13 n x0 v5 v6))) else some x1)
def fn_X0_literalsSmallerThanAll (x0 : Int32) : Option (Int32) := if (x0 &&& 1048575) = 0 then fn_X0_literalsSmallerThanAll_13 fu x0 0 0 else some 0
set_option maxHeartbeats 4000000 in
set_option maxRecDepth 100000 in
theorem wk_X0_literalsSmallerThanAll_13 {p : Program} {l : Launch} {e : Env} {s : State} {m : MethodId} {args : Array Value} {below : List Frame} {meth : Method} {c : Code} {res : Int32} (C0 : cx p m meth c cX0_literalsSmallerThanAll (some .int) 3 s args tb [] RX0) : ∀ (n : Nat) (x0 : Int32) (x1 : Int32) (x2 : Int32), ∀ (ls : Array Slot), lv_has ls 3 [(0, .int x0), (1, .int x1), (2, .int x2)] → fn_X0_literalsSmallerThanAll_13 n x0 x1 x2 = some res → W p l e rm_X0_literalsSmallerThanAll s m args below meth c s.heap [] 0 0 (MQ below (vp_Si (fun r' => r' = res)) args s 0 0 (fun _ => False)) (F0 m 13 ls []) := by
  obtain ⟨hx, hb, hr, hml, hown, htt, hlocks, hnw⟩ := id C0
  intro n
  induction n with
  | zero => intro x0 x1 x2 ls hl hf; exact no_some hf
  | succ n ih =>
    intro x0 x1 x2 ls hl hf
    rw [fn_X0_literalsSmallerThanAll_13] at hf
    refine lv_iload_n hx hb dX0_literalsSmallerThanAll_13 rfl (lv_at hl 2 rfl) ?_
    refine lv_bipush (v := 6) hx hb dX0_literalsSmallerThanAll_14 (by decide) ?_
    refine lv_icmp_ge (tgt := 43) hx hb dX0_literalsSmallerThanAll_16 (by decide) (fun c_1 => ?_) (fun c_1 => ?_)
    · have hf := ite_t c_1 hf
      refine lv_iload_n hx hb dX0_literalsSmallerThanAll_43 rfl (lv_at hl 1 rfl) ?_
      exact z_piret hx hb hr hlocks (Option.some.inj hf) dX0_literalsSmallerThanAll_44
    · have hf := ite_f c_1 hf
      refine lv_iload_n hx hb dX0_literalsSmallerThanAll_19 rfl (lv_at hl 0 rfl) ?_
      refine lv_iload_n hx hb dX0_literalsSmallerThanAll_20 rfl (lv_at hl 2 rfl) ?_
      refine z_pcalli (z_runS (As := [.int x2]) (rest := [.int x0]) ⟨hx, hb, hml, hown, htt⟩ gT (ct_X0_literalsWithNumber l x2 rfl) md_X0_literalsWithNumber lm_X0_161 rfl rfl ⟨Nat.le_of_ble_eq_true rfl, Nat.le_of_ble_eq_true rfl⟩ z_preP rfl rfl hl.1 rfl (lv_room (Nat.le_of_ble_eq_true rfl)) dX0_literalsSmallerThanAll_21 ⟨Nat.le_of_ble_eq_true rfl, Nat.le_of_ble_eq_true rfl⟩) ?_
      refine lv_topi (fun r2 e_r2 => ?_)
      have hf := lt_n e_r2 hf
      refine lv_iand hx hb dX0_literalsSmallerThanAll_24 ?_
      refine lv_if_eq (tgt := 30) hx hb dX0_literalsSmallerThanAll_25 (by decide) (fun c_3 => ?_) (fun c_3 => ?_)
      · have hf := ite_t c_3 hf
        refine lv_iload_n hx hb dX0_literalsSmallerThanAll_30 rfl (lv_at hl 1 rfl) ?_
        refine lv_iload_n hx hb dX0_literalsSmallerThanAll_31 rfl (lv_at hl 2 rfl) ?_
        refine z_pcalli (z_runS (As := [.int x2]) (rest := [.int x1]) ⟨hx, hb, hml, hown, htt⟩ gT (ct_X0_literalsWithNumber l x2 rfl) md_X0_literalsWithNumber lm_X0_161 rfl rfl ⟨Nat.le_of_ble_eq_true rfl, Nat.le_of_ble_eq_true rfl⟩ z_preP rfl rfl hl.1 rfl (lv_room (Nat.le_of_ble_eq_true rfl)) dX0_literalsSmallerThanAll_32 ⟨Nat.le_of_ble_eq_true rfl, Nat.le_of_ble_eq_true rfl⟩) ?_
        refine lv_topi (fun r4 e_r4 => ?_)
        have hf := lt_n e_r4 hf
        refine lv_ior hx hb dX0_literalsSmallerThanAll_35 ?_
        refine lv_topi (fun v5 e_v5 => ?_)
        have hf := lt_n e_v5 hf
        refine lv_istore_n (lv' := [(1, .int v5), (0, .int x0), (2, .int x2)]) hx hb dX0_literalsSmallerThanAll_36 rfl hl (by decide) rfl (fun ls hl => ?_)
        obtain ⟨v6, e_v6⟩ : ∃ y : Int32, y = x2 + 1 := ⟨_, rfl⟩
        have hf := lt_n e_v6 hf
        refine lv_iinc (v := v6) (lv' := [(2, .int v6), (1, .int v5), (0, .int x0)]) hx hb dX0_literalsSmallerThanAll_37 hl (k := 2) rfl (by rw [e_v6]; rfl) (by decide) rfl (fun ls hl => ?_)
        refine lv_goto (tgt := 13) hx hb dX0_literalsSmallerThanAll_40 (by decide) ?_
        exact ih x0 v5 v6 _ (lv_sub hl [2, 1, 0] rfl) hf
      · have hf := ite_f c_3 hf
        refine lv_iload_n hx hb dX0_literalsSmallerThanAll_28 rfl (lv_at hl 1 rfl) ?_
        exact z_piret hx hb hr hlocks (Option.some.inj hf) dX0_literalsSmallerThanAll_29
set_option maxHeartbeats 4000000 in
set_option maxRecDepth 100000 in
theorem ct_X0_literalsSmallerThanAll (l : Launch) (x0 : Int32) {res : Int32} (hf : fn_X0_literalsSmallerThanAll x0 = some res) : Met l yX0_literalsSmallerThanAll (.code yX0_literalsSmallerThanAll cX0_literalsSmallerThanAll 3 (some .int) :: tb) rm_X0_literalsSmallerThanAll (va_Pc [.int x0] (fun _ => True)) (vp_Si (fun r' => r' = res)) 0 0 (fun _ => False) := by
  refine Met.ofW (cc := cX0_literalsSmallerThanAll) (maxL := 3) (ret := (some .int)) (by decide) rfl ?_
  intro p e s m args below meth c s₁ B hml hv
  obtain ⟨rfl, hB⟩ := hv
  have htt : ∀ w ∈ tb, w.before (([.int x0] : List Value).toArray) s = true := fun w h => atoms_spec (ws := (.code yX0_literalsSmallerThanAll cX0_literalsSmallerThanAll 3 (some .int) :: tb)) B.pre w (List.mem_cons_of_mem _ h)
  have C0 : cx p m meth c cX0_literalsSmallerThanAll (some .int) 3 s (([.int x0] : List Value).toArray) tb [] RX0 := ⟨B.exec, B.bytes, B.returns, hml, findClass_of_methodNamed B.named, htt, B.notSynchronized, fun _ h => absurd h List.not_mem_nil⟩
  obtain ⟨hx, hb, hr, hml, hown, htt, hlocks, hnw⟩ := id C0
  have hl := lv_entry ([.int x0]) (n := 3) (Nat.le_of_ble_eq_true rfl)
  rw [lg_entry_eq]
  generalize (lg_sl ([.int x0]) ++ List.replicate (3 - (lg_sl ([.int x0])).length) Slot.unset).toArray = ls at hl ⊢
  have hl : lv_has ls 3 [(0, .int x0)] := hl
  unfold fn_X0_literalsSmallerThanAll at hf
  refine lv_iload_n hx hb dX0_literalsSmallerThanAll_0 rfl (lv_at hl 0 rfl) ?_
  refine lv_ldc hx hb hown (htt _ lc_X0_164) dX0_literalsSmallerThanAll_1 ?_
  refine lv_iand hx hb dX0_literalsSmallerThanAll_3 ?_
  refine lv_if_eq (tgt := 9) hx hb dX0_literalsSmallerThanAll_4 (by decide) (fun c_1 => ?_) (fun c_1 => ?_)
  · have hf := ite_t c_1 hf
    refine lv_iconst (v := 0) hx hb dX0_literalsSmallerThanAll_9 (by decide) ?_
    refine lv_istore_n (lv' := [(1, .int 0), (0, .int x0)]) hx hb dX0_literalsSmallerThanAll_10 rfl hl (by decide) rfl (fun ls hl => ?_)
    refine lv_iconst (v := 0) hx hb dX0_literalsSmallerThanAll_11 (by decide) ?_
    refine lv_istore_n (lv' := [(2, .int 0), (1, .int 0), (0, .int x0)]) hx hb dX0_literalsSmallerThanAll_12 rfl hl (by decide) rfl (fun ls hl => ?_)
    exact wk_X0_literalsSmallerThanAll_13 C0  fu x0 0 0 _ (lv_sub hl [2, 1, 0] rfl) hf
  · have hf := ite_f c_1 hf
    refine lv_iconst (v := 0) hx hb dX0_literalsSmallerThanAll_7 (by decide) ?_
    exact z_piret hx hb hr hlocks (Option.some.inj hf) dX0_literalsSmallerThanAll_8
abbrev rm_X0_leastOfTwoOrMore : Room := { frames := 1, cells := 0, slots := 0, locals := 20 }
def fn_X0_leastOfTwoOrMore (x0 : Int32) : Int32 := lt (fn_J0_bitCount x0) (fun r1 => if 2 ≤ r1 then (x0 &&& (-x0)) else 0)
set_option maxHeartbeats 4000000 in
set_option maxRecDepth 100000 in
theorem ct_X0_leastOfTwoOrMore (l : Launch) (x0 : Int32) {res : Int32} (hf : fn_X0_leastOfTwoOrMore x0 = res) : Met l yX0_leastOfTwoOrMore (.code yX0_leastOfTwoOrMore cX0_leastOfTwoOrMore 1 (some .int) :: tb) rm_X0_leastOfTwoOrMore (va_Pc [.int x0] (fun _ => True)) (vp_Si (fun r' => r' = res)) 0 0 (fun _ => False) := by
  refine Met.ofW (cc := cX0_leastOfTwoOrMore) (maxL := 1) (ret := (some .int)) (by decide) rfl ?_
  intro p e s m args below meth c s₁ B hml hv
  obtain ⟨rfl, hB⟩ := hv
  have htt : ∀ w ∈ tb, w.before (([.int x0] : List Value).toArray) s = true := fun w h => atoms_spec (ws := (.code yX0_leastOfTwoOrMore cX0_leastOfTwoOrMore 1 (some .int) :: tb)) B.pre w (List.mem_cons_of_mem _ h)
  have C0 : cx p m meth c cX0_leastOfTwoOrMore (some .int) 1 s (([.int x0] : List Value).toArray) tb [] RX0 := ⟨B.exec, B.bytes, B.returns, hml, findClass_of_methodNamed B.named, htt, B.notSynchronized, fun _ h => absurd h List.not_mem_nil⟩
  obtain ⟨hx, hb, hr, hml, hown, htt, hlocks, hnw⟩ := id C0
  have hl := lv_entry ([.int x0]) (n := 1) (Nat.le_of_ble_eq_true rfl)
  rw [lg_entry_eq]
  generalize (lg_sl ([.int x0]) ++ List.replicate (1 - (lg_sl ([.int x0])).length) Slot.unset).toArray = ls at hl ⊢
  have hl : lv_has ls 1 [(0, .int x0)] := hl
  unfold fn_X0_leastOfTwoOrMore at hf
  refine lv_iload_n hx hb dX0_leastOfTwoOrMore_0 rfl (lv_at hl 0 rfl) ?_
  refine z_pcalli (z_runS (As := [.int x0]) (rest := []) ⟨hx, hb, hml, hown, htt⟩ gT (ct_J0_bitCount l x0 rfl) md_J0_bitCount lm_X0_165 rfl rfl ⟨Nat.le_of_ble_eq_true rfl, Nat.le_of_ble_eq_true rfl⟩ z_preP rfl rfl hl.1 rfl (lv_room (Nat.le_of_ble_eq_true rfl)) dX0_leastOfTwoOrMore_1 ⟨Nat.le_of_ble_eq_true rfl, Nat.le_of_ble_eq_true rfl⟩) ?_
  refine lv_topi (fun r1 e_r1 => ?_)
  have hf := lt_n e_r1 hf
  refine lv_iconst (v := 2) hx hb dX0_leastOfTwoOrMore_4 (by decide) ?_
  refine lv_icmp_ge (tgt := 12) hx hb dX0_leastOfTwoOrMore_5 (by decide) (fun c_2 => ?_) (fun c_2 => ?_)
  · have hf := ite_t c_2 hf
    refine lv_iload_n hx hb dX0_leastOfTwoOrMore_12 rfl (lv_at hl 0 rfl) ?_
    refine lv_iload_n hx hb dX0_leastOfTwoOrMore_13 rfl (lv_at hl 0 rfl) ?_
    refine lv_ineg hx hb dX0_leastOfTwoOrMore_14 ?_
    refine lv_iand hx hb dX0_leastOfTwoOrMore_15 ?_
    exact z_piret hx hb hr hlocks hf dX0_leastOfTwoOrMore_16
  · have hf := ite_f c_2 hf
    refine lv_iconst (v := 0) hx hb dX0_leastOfTwoOrMore_8 (by decide) ?_
    refine lv_goto (tgt := 16) hx hb dX0_leastOfTwoOrMore_9 (by decide) ?_
    exact z_piret hx hb hr hlocks hf dX0_leastOfTwoOrMore_16
abbrev rm_X1_termsAheadBut : Room := { frames := 1, cells := 0, slots := 0, locals := 21 }
def fn_X1_termsAheadBut_24 (K5 : S2 → Int32 → Int32 → Int32 → Int32 → Option (Int32)) : Nat → S2 → Int32 → Int32 → Int32 → Int32 → Int32 → Option (Int32)
  | 0, _, _, _, _, _, _ => none
  | n + 1, σ, x1, x2, x3, x4, x5 => if 8 ≤ x5 then lt (x4 + 1) (fun v2 => K5 σ x1 x2 x3 v2) else lt (fn_X0_holdsBit x2 x5) (fun r3 => if r3 = 0 then ck ((x4 * 8) + x5) 160 (lt ((x3 ||| (σ.1 6 (((x4 * 8) + x5)).toNatClampNeg))) (fun v6 => lt (x5 + 1) (fun v7 => fn_X1_termsAheadBut_24 K5 n σ x1 x2 v6 x4 v7))) else lt ((x3 ||| 0)) (fun v8 => lt (x5 + 1) (fun v9 => fn_X1_termsAheadBut_24 K5 n σ x1 x2 v8 x4 v9)))
def fn_X1_termsAheadBut_5 : Nat → S2 → Int32 → Int32 → Int32 → Int32 → Option (Int32)
  | 0, _, _, _, _, _ => none
  | n + 1, σ, x1, x2, x3, x4 => if 20 ≤ x4 then some x3 else lt (fn_X0_holdsBit x1 x4) (fun r2 => if r2 = 0 then lt (x4 + 1) (fun v4 => fn_X1_termsAheadBut_5 n σ x1 x2 x3 v4) else fn_X1_termsAheadBut_24 (fn_X1_termsAheadBut_5 n) fu σ x1 x2 x3 x4 0)
def fn_X1_termsAheadBut (σ : S2) (x1 : Int32) (x2 : Int32) : Option (Int32) := fn_X1_termsAheadBut_5 fu σ x1 x2 0 0
set_option maxHeartbeats 4000000 in
set_option maxRecDepth 100000 in
theorem wk_X1_termsAheadBut_24 {p : Program} {l : Launch} {e : Env} {s : State} {m : MethodId} {args : Array Value} {below : List Frame} {meth : Method} {c : Code} {D : va_G} {A : Nat → Prop} {ad : Nat → Nat} {cA : Nat → ClassId} {rs : va_W} {tr : List (ClassId × FieldType)} {σ : S2} {res : Int32} (C0 : cx p m meth c cX1_termsAheadBut (some .int) 6 s args tb nl RX1) (K5 : S2 → Int32 → Int32 → Int32 → Int32 → Option (Int32)) (hK5 : ∀ (x1 : Int32) (x2 : Int32) (x3 : Int32) (x4 : Int32), ∀ (H : Heap) (locs : List Loc) (ls : Array Slot), zz D vwCl (tyC cA tr) A (wC ad cA rs) s s.heap H locs σ → lv_has ls 6 [(0, .ref (ad 1)), (1, .int x1), (2, .int x2), (3, .int x3), (4, .int x4)] → K5 σ x1 x2 x3 x4 = some res → W p l e rm_X1_termsAheadBut s m args below meth c H locs 0 0 (MQ below (va_Qi (fun r' u' => r' = res ∧ u' = σ) (zB D vwCl (tyC cA tr) A (wC ad cA rs)) A) args s 0 0 A) (F0 m 5 ls [])) : ∀ (n : Nat) (x1 : Int32) (x2 : Int32) (x3 : Int32) (x4 : Int32) (x5 : Int32), ∀ (H : Heap) (locs : List Loc) (ls : Array Slot), zz D vwCl (tyC cA tr) A (wC ad cA rs) s s.heap H locs σ → lv_has ls 6 [(0, .ref (ad 1)), (1, .int x1), (2, .int x2), (3, .int x3), (4, .int x4), (5, .int x5)] → fn_X1_termsAheadBut_24 K5 n σ x1 x2 x3 x4 x5 = some res → W p l e rm_X1_termsAheadBut s m args below meth c H locs 0 0 (MQ below (va_Qi (fun r' u' => r' = res ∧ u' = σ) (zB D vwCl (tyC cA tr) A (wC ad cA rs)) A) args s 0 0 A) (F0 m 24 ls []) := by
  obtain ⟨hx, hb, hr, hml, hown, htt, hlocks, hnw⟩ := id C0
  intro n
  induction n with
  | zero => intro x1 x2 x3 x4 x5 H locs ls hZ hl hf; exact no_some hf
  | succ n ih =>
    intro x1 x2 x3 x4 x5 H locs ls hZ hl hf
    rw [fn_X1_termsAheadBut_24] at hf
    refine lv_iload hx hb dX1_termsAheadBut_24 (lv_at hl 5 rfl) ?_
    refine lv_bipush (v := 8) hx hb dX1_termsAheadBut_26 (by decide) ?_
    refine lv_icmp_ge (tgt := 66) hx hb dX1_termsAheadBut_28 (by decide) (fun c_1 => ?_) (fun c_1 => ?_)
    · have hf := ite_t c_1 hf
      obtain ⟨v2, e_v2⟩ : ∃ y : Int32, y = x4 + 1 := ⟨_, rfl⟩
      have hf := lt_n e_v2 hf
      refine lv_iinc (v := v2) (lv' := [(4, .int v2), (0, .ref (ad 1)), (1, .int x1), (2, .int x2), (3, .int x3), (5, .int x5)]) hx hb dX1_termsAheadBut_66 hl (k := 4) rfl (by rw [e_v2]; rfl) (by decide) rfl (fun ls hl => ?_)
      refine lv_goto (tgt := 5) hx hb dX1_termsAheadBut_69 (by decide) ?_
      exact hK5 x1 x2 x3 v2 _ _ _ hZ (lv_sub hl [1, 2, 3, 4, 0] rfl) hf
    · have hf := ite_f c_1 hf
      refine lv_iload_n hx hb dX1_termsAheadBut_31 rfl (lv_at hl 3 rfl) ?_
      refine lv_iload_n hx hb dX1_termsAheadBut_32 rfl (lv_at hl 2 rfl) ?_
      refine lv_iload hx hb dX1_termsAheadBut_33 (lv_at hl 5 rfl) ?_
      refine z_pcalli (z_runSN (As := [.int x2, .int x5]) (rest := [.int x3]) ⟨hx, hb, hml, hown, htt⟩ gT (ct_X0_holdsBit l x2 x5 rfl) md_X0_holdsBit hnw lm_X1_22 rfl rfl ⟨Nat.le_of_ble_eq_true rfl, Nat.le_of_ble_eq_true rfl⟩ z_preP rfl rfl hl.1 rfl (lv_room (Nat.le_of_ble_eq_true rfl)) dX1_termsAheadBut_35 ⟨Nat.le_of_ble_eq_true rfl, Nat.le_of_ble_eq_true rfl⟩) ?_
      refine lv_topi (fun r3 e_r3 => ?_)
      have hf := lt_n e_r3 hf
      refine lv_if_eq (tgt := 45) hx hb dX1_termsAheadBut_38 (by decide) (fun c_4 => ?_) (fun c_4 => ?_)
      · have hf := ite_t c_4 hf
        refine lv_aload_n hx hb dX1_termsAheadBut_45 rfl (lv_at hl 0 rfl) ?_
        refine z_get hx hb htt iw_X1 hown hZ 1 rfl rfl 0 (by decide) lf_X1_9 rfl dX1_termsAheadBut_46 ?_
        refine lv_iload hx hb dX1_termsAheadBut_49 (lv_at hl 4 rfl) ?_
        refine lv_bipush (v := 8) hx hb dX1_termsAheadBut_51 (by decide) ?_
        refine lv_imul hx hb dX1_termsAheadBut_53 ?_
        refine lv_iload hx hb dX1_termsAheadBut_54 (lv_at hl 5 rfl) ?_
        refine lv_iadd hx hb dX1_termsAheadBut_56 ?_
        obtain ⟨h_5, hf⟩ := ck_s hf
        refine z_ild hx hb hZ 6 0 rfl rfl h_5 dX1_termsAheadBut_57 ?_
        refine lv_ior hx hb dX1_termsAheadBut_58 ?_
        refine lv_topi (fun v6 e_v6 => ?_)
        have hf := lt_n e_v6 hf
        refine lv_istore_n (lv' := [(3, .int v6), (0, .ref (ad 1)), (1, .int x1), (2, .int x2), (4, .int x4), (5, .int x5)]) hx hb dX1_termsAheadBut_59 rfl hl (by decide) rfl (fun ls hl => ?_)
        obtain ⟨v7, e_v7⟩ : ∃ y : Int32, y = x5 + 1 := ⟨_, rfl⟩
        have hf := lt_n e_v7 hf
        refine lv_iinc (v := v7) (lv' := [(5, .int v7), (3, .int v6), (0, .ref (ad 1)), (1, .int x1), (2, .int x2), (4, .int x4)]) hx hb dX1_termsAheadBut_60 hl (k := 5) rfl (by rw [e_v7]; rfl) (by decide) rfl (fun ls hl => ?_)
        refine lv_goto (tgt := 24) hx hb dX1_termsAheadBut_63 (by decide) ?_
        exact ih x1 x2 v6 x4 v7 _ _ _ hZ (lv_sub hl [2, 3, 4, 1, 5, 0] rfl) hf
      · have hf := ite_f c_4 hf
        refine lv_iconst (v := 0) hx hb dX1_termsAheadBut_41 (by decide) ?_
        refine lv_goto (tgt := 58) hx hb dX1_termsAheadBut_42 (by decide) ?_
        refine lv_ior hx hb dX1_termsAheadBut_58 ?_
        refine lv_topi (fun v8 e_v8 => ?_)
        have hf := lt_n e_v8 hf
        refine lv_istore_n (lv' := [(3, .int v8), (0, .ref (ad 1)), (1, .int x1), (2, .int x2), (4, .int x4), (5, .int x5)]) hx hb dX1_termsAheadBut_59 rfl hl (by decide) rfl (fun ls hl => ?_)
        obtain ⟨v9, e_v9⟩ : ∃ y : Int32, y = x5 + 1 := ⟨_, rfl⟩
        have hf := lt_n e_v9 hf
        refine lv_iinc (v := v9) (lv' := [(5, .int v9), (3, .int v8), (0, .ref (ad 1)), (1, .int x1), (2, .int x2), (4, .int x4)]) hx hb dX1_termsAheadBut_60 hl (k := 5) rfl (by rw [e_v9]; rfl) (by decide) rfl (fun ls hl => ?_)
        refine lv_goto (tgt := 24) hx hb dX1_termsAheadBut_63 (by decide) ?_
        exact ih x1 x2 v8 x4 v9 _ _ _ hZ (lv_sub hl [2, 3, 4, 1, 5, 0] rfl) hf
set_option maxHeartbeats 4000000 in
set_option maxRecDepth 100000 in
theorem wk_X1_termsAheadBut_5 {p : Program} {l : Launch} {e : Env} {s : State} {m : MethodId} {args : Array Value} {below : List Frame} {meth : Method} {c : Code} {D : va_G} {A : Nat → Prop} {ad : Nat → Nat} {cA : Nat → ClassId} {rs : va_W} {tr : List (ClassId × FieldType)} {σ : S2} {res : Int32} (C0 : cx p m meth c cX1_termsAheadBut (some .int) 6 s args tb nl RX1) : ∀ (n : Nat) (x1 : Int32) (x2 : Int32) (x3 : Int32) (x4 : Int32), ∀ (H : Heap) (locs : List Loc) (ls : Array Slot), zz D vwCl (tyC cA tr) A (wC ad cA rs) s s.heap H locs σ → lv_has ls 6 [(0, .ref (ad 1)), (1, .int x1), (2, .int x2), (3, .int x3), (4, .int x4)] → fn_X1_termsAheadBut_5 n σ x1 x2 x3 x4 = some res → W p l e rm_X1_termsAheadBut s m args below meth c H locs 0 0 (MQ below (va_Qi (fun r' u' => r' = res ∧ u' = σ) (zB D vwCl (tyC cA tr) A (wC ad cA rs)) A) args s 0 0 A) (F0 m 5 ls []) := by
  obtain ⟨hx, hb, hr, hml, hown, htt, hlocks, hnw⟩ := id C0
  intro n
  induction n with
  | zero => intro x1 x2 x3 x4 H locs ls hZ hl hf; exact no_some hf
  | succ n ih =>
    intro x1 x2 x3 x4 H locs ls hZ hl hf
    rw [fn_X1_termsAheadBut_5] at hf
    refine lv_iload hx hb dX1_termsAheadBut_5 (lv_at hl 4 rfl) ?_
    refine lv_bipush (v := 20) hx hb dX1_termsAheadBut_7 (by decide) ?_
    refine lv_icmp_ge (tgt := 72) hx hb dX1_termsAheadBut_9 (by decide) (fun c_1 => ?_) (fun c_1 => ?_)
    · have hf := ite_t c_1 hf
      refine lv_iload_n hx hb dX1_termsAheadBut_72 rfl (lv_at hl 3 rfl) ?_
      exact z_iret hx hb hr hlocks hZ (Option.some.inj hf) rfl dX1_termsAheadBut_73
    · have hf := ite_f c_1 hf
      refine lv_iload_n hx hb dX1_termsAheadBut_12 rfl (lv_at hl 1 rfl) ?_
      refine lv_iload hx hb dX1_termsAheadBut_13 (lv_at hl 4 rfl) ?_
      refine z_pcalli (z_runSN (As := [.int x1, .int x4]) (rest := []) ⟨hx, hb, hml, hown, htt⟩ gT (ct_X0_holdsBit l x1 x4 rfl) md_X0_holdsBit hnw lm_X1_22 rfl rfl ⟨Nat.le_of_ble_eq_true rfl, Nat.le_of_ble_eq_true rfl⟩ z_preP rfl rfl hl.1 rfl (lv_room (Nat.le_of_ble_eq_true rfl)) dX1_termsAheadBut_15 ⟨Nat.le_of_ble_eq_true rfl, Nat.le_of_ble_eq_true rfl⟩) ?_
      refine lv_topi (fun r2 e_r2 => ?_)
      have hf := lt_n e_r2 hf
      refine lv_if_eq (tgt := 66) hx hb dX1_termsAheadBut_18 (by decide) (fun c_3 => ?_) (fun c_3 => ?_)
      · have hf := ite_t c_3 hf
        obtain ⟨v4, e_v4⟩ : ∃ y : Int32, y = x4 + 1 := ⟨_, rfl⟩
        have hf := lt_n e_v4 hf
        refine lv_iinc (v := v4) (lv' := [(4, .int v4), (0, .ref (ad 1)), (1, .int x1), (2, .int x2), (3, .int x3)]) hx hb dX1_termsAheadBut_66 hl (k := 4) rfl (by rw [e_v4]; rfl) (by decide) rfl (fun ls hl => ?_)
        refine lv_goto (tgt := 5) hx hb dX1_termsAheadBut_69 (by decide) ?_
        exact ih x1 x2 x3 v4 _ _ _ hZ (lv_sub hl [1, 2, 3, 4, 0] rfl) hf
      · have hf := ite_f c_3 hf
        refine lv_iconst (v := 0) hx hb dX1_termsAheadBut_21 (by decide) ?_
        refine lv_istore (lv' := [(5, .int 0), (0, .ref (ad 1)), (1, .int x1), (2, .int x2), (3, .int x3), (4, .int x4)]) hx hb dX1_termsAheadBut_22 hl (by decide) rfl (fun ls hl => ?_)
        exact wk_X1_termsAheadBut_24 C0 (fn_X1_termsAheadBut_5 n) ih fu x1 x2 x3 x4 0 _ _ _ hZ (lv_sub hl [1, 2, 3, 4, 5, 0] rfl) hf
set_option maxHeartbeats 4000000 in
set_option maxRecDepth 100000 in
theorem ct_X1_termsAheadBut (l : Launch) (D : va_G) (A : Nat → Prop) (ad : Nat → Nat) (cA : Nat → ClassId) (rs : va_W) (tr : List (ClassId × FieldType)) (σ : S2) (x1 : Int32) (x2 : Int32) {res : Int32} (hf : fn_X1_termsAheadBut σ x1 x2 = some res) : Met l yX1_termsAheadBut (.code yX1_termsAheadBut cX1_termsAheadBut 6 (some .int) :: tb) rm_X1_termsAheadBut (va_Pc [.ref (ad 1), .int x1, .int x2] (zN D vwCl (tyC cA tr) A (wC ad cA rs) nl σ)) (va_Qi (fun r' u' => r' = res ∧ u' = σ) (zB D vwCl (tyC cA tr) A (wC ad cA rs)) A) 0 0 A := by
  refine Met.ofW (cc := cX1_termsAheadBut) (maxL := 6) (ret := (some .int)) (by decide) rfl ?_
  intro p e s m args below meth c s₁ B hml hv
  obtain ⟨rfl, hB, hnw0⟩ := hv
  have htt : ∀ w ∈ tb, w.before (([.ref (ad 1), .int x1, .int x2] : List Value).toArray) s = true := fun w h => atoms_spec (ws := (.code yX1_termsAheadBut cX1_termsAheadBut 6 (some .int) :: tb)) B.pre w (List.mem_cons_of_mem _ h)
  have C0 : cx p m meth c cX1_termsAheadBut (some .int) 6 s (([.ref (ad 1), .int x1, .int x2] : List Value).toArray) tb nl RX1 := ⟨B.exec, B.bytes, B.returns, hml, findClass_of_methodNamed B.named, htt, B.notSynchronized, hnw0⟩
  obtain ⟨hx, hb, hr, hml, hown, htt, hlocks, hnw⟩ := id C0
  have hZ := z_start hB
  have hl := lv_entry ([.ref (ad 1), .int x1, .int x2]) (n := 6) (Nat.le_of_ble_eq_true rfl)
  rw [lg_entry_eq]
  generalize (lg_sl ([.ref (ad 1), .int x1, .int x2]) ++ List.replicate (6 - (lg_sl ([.ref (ad 1), .int x1, .int x2])).length) Slot.unset).toArray = ls at hl ⊢
  have hl : lv_has ls 6 [(0, .ref (ad 1)), (1, .int x1), (2, .int x2)] := hl
  unfold fn_X1_termsAheadBut at hf
  refine lv_iconst (v := 0) hx hb dX1_termsAheadBut_0 (by decide) ?_
  refine lv_istore_n (lv' := [(3, .int 0), (0, .ref (ad 1)), (1, .int x1), (2, .int x2)]) hx hb dX1_termsAheadBut_1 rfl hl (by decide) rfl (fun ls hl => ?_)
  refine lv_iconst (v := 0) hx hb dX1_termsAheadBut_2 (by decide) ?_
  refine lv_istore (lv' := [(4, .int 0), (3, .int 0), (0, .ref (ad 1)), (1, .int x1), (2, .int x2)]) hx hb dX1_termsAheadBut_3 hl (by decide) rfl (fun ls hl => ?_)
  exact wk_X1_termsAheadBut_5 C0  fu x1 x2 0 0 _ _ _ hZ (lv_sub hl [2, 3, 4, 1, 0] rfl) hf
