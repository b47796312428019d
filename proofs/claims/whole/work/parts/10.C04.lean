abbrev rm_X5_faultsOf : Room := { frames := 2, cells := 0, slots := 0, locals := 46 }
def fn_X5_faultsOf (σ : S2) (x1 : Int32) (x2 : Int32) (x3 : Int32) (x4 : Int32) : Option (Int64) := ck x1 40 (lt ((σ.1 16 (x1).toNatClampNeg)) (fun v2 => ck x1 40 (lt ((σ.1 17 (x1).toNatClampNeg)) (fun v4 => ck x1 40 (if (σ.1 15 (x1).toNatClampNeg) = 2 then lt (fn_J0_bitCount x3) (fun r7 => lt (fn_X0_isBetween r7 v2 v4) (fun r8 => lt (fn_X5_unless r8) (fun r9 => some r9))) else if (σ.1 15 (x1).toNatClampNeg) = 5 then lt (fn_X0_holdsBit x3 v2) (fun r11 => lt (fn_X5_unless r11) (fun r12 => some r12)) else if (σ.1 15 (x1).toNatClampNeg) = 6 then bn (fn_X1_termsAhead σ x2 v2) (fun r15 => lt (fn_X5_withValues (x3 ^^^ r15)) (fun r16 => some r16)) else if (σ.1 15 (x1).toNatClampNeg) = 7 then bn (fn_X1_termsAhead σ x2 v2) (fun r19 => lt (fn_X5_withValues (x3 &&& r19)) (fun r20 => some r20)) else if (σ.1 15 (x1).toNatClampNeg) = 8 then bn (fn_X1_termsAhead σ x2 v2) (fun r23 => bn (fn_X0_literalsSmallerThanAll r23) (fun r25 => lt (fn_X5_withValues (x3 &&& (r25 ^^^ (-1)))) (fun r26 => some r26))) else if (σ.1 15 (x1).toNatClampNeg) = 9 then lt (fn_X0_leastOfTwoOrMore (x3 &&& 1431306240)) (fun r28 => lt (fn_X0_leastOfTwoOrMore (x3 &&& (-1432354816))) (fun r29 => lt (fn_X5_withValues (r28 ||| r29)) (fun r30 => some r30))) else if (σ.1 15 (x1).toNatClampNeg) = 10 then bn (fn_X1_termsAheadBut σ (x3 &&& 1048575) v2) (fun r33 => lt (fn_X5_withValues r33) (fun r34 => some r34)) else if (σ.1 15 (x1).toNatClampNeg) = 17 then lt (fn_J0_bitCount (x3 &&& x4)) (fun r36 => lt (fn_X0_isBetween r36 (v4 >>> (4 &&& 31)) (v4 &&& 15)) (fun r37 => lt (fn_X5_unless r37) (fun r38 => some r38))) else lt (fn_X5_withValues (x3 &&& (x4 ^^^ (-1)))) (fun r39 => some r39))))))
set_option maxHeartbeats 4000000 in
set_option maxRecDepth 100000 in
theorem ct_X5_faultsOf (l : Launch) (D : va_G) (A : Nat → Prop) (ad : Nat → Nat) (cA : Nat → ClassId) (rs : va_W) (tr : List (ClassId × FieldType)) (σ : S2) (x1 : Int32) (x2 : Int32) (x3 : Int32) (x4 : Int32) {res : Int64} (hf : fn_X5_faultsOf σ x1 x2 x3 x4 = some res) : Met l yX5_faultsOf (.code yX5_faultsOf cX5_faultsOf 7 (some .long) :: tb) rm_X5_faultsOf (va_Pc [.ref (ad 5), .int x1, .int x2, .int x3, .int x4] (zN D vwCl (tyC cA tr) A (wC ad cA rs) nl σ)) (va_Ql (fun r' u' => r' = res ∧ u' = σ) (zB D vwCl (tyC cA tr) A (wC ad cA rs)) A) 0 0 A := by
  refine Met.ofW (cc := cX5_faultsOf) (maxL := 7) (ret := (some .long)) (by decide) rfl ?_
  intro p e s m args below meth c s₁ B hml hv
  obtain ⟨rfl, hB, hnw0⟩ := hv
  have htt : ∀ w ∈ tb, w.before (([.ref (ad 5), .int x1, .int x2, .int x3, .int x4] : List Value).toArray) s = true := fun w h => atoms_spec (ws := (.code yX5_faultsOf cX5_faultsOf 7 (some .long) :: tb)) B.pre w (List.mem_cons_of_mem _ h)
  have C0 : cx p m meth c cX5_faultsOf (some .long) 7 s (([.ref (ad 5), .int x1, .int x2, .int x3, .int x4] : List Value).toArray) tb nl RX5 := ⟨B.exec, B.bytes, B.returns, hml, findClass_of_methodNamed B.named, htt, B.notSynchronized, hnw0⟩
  obtain ⟨hx, hb, hr, hml, hown, htt, hlocks, hnw⟩ := id C0
  have hZ := z_start hB
  have hl := lv_entry ([.ref (ad 5), .int x1, .int x2, .int x3, .int x4]) (n := 7) (Nat.le_of_ble_eq_true rfl)
  rw [lg_entry_eq]
  generalize (lg_sl ([.ref (ad 5), .int x1, .int x2, .int x3, .int x4]) ++ List.replicate (7 - (lg_sl ([.ref (ad 5), .int x1, .int x2, .int x3, .int x4])).length) Slot.unset).toArray = ls at hl ⊢
  have hl : lv_has ls 7 [(0, .ref (ad 5)), (1, .int x1), (2, .int x2), (3, .int x3), (4, .int x4)] := hl
  unfold fn_X5_faultsOf at hf
  refine lv_aload_n hx hb dX5_faultsOf_0 rfl (lv_at hl 0 rfl) ?_
  refine z_get hx hb htt iw_X5 hown hZ 5 rfl rfl 3 (by decide) lf_X5_46 rfl dX5_faultsOf_1 ?_
  refine z_getN hx hb gN hnw htt iw_X4 hown hZ 4 rfl rfl 2 (by decide) lf_X5_101 rfl dX5_faultsOf_4 ?_
  refine lv_iload_n hx hb dX5_faultsOf_7 rfl (lv_at hl 1 rfl) ?_
  obtain ⟨h_1, hf⟩ := ck_s hf
  refine z_ild hx hb hZ 16 10 rfl rfl h_1 dX5_faultsOf_8 ?_
  refine lv_topi (fun v2 e_v2 => ?_)
  have hf := lt_n e_v2 hf
  refine lv_istore (lv' := [(5, .int v2), (0, .ref (ad 5)), (1, .int x1), (2, .int x2), (3, .int x3), (4, .int x4)]) hx hb dX5_faultsOf_9 hl (by decide) rfl (fun ls hl => ?_)
  refine lv_aload_n hx hb dX5_faultsOf_11 rfl (lv_at hl 1 rfl) ?_
  refine z_get hx hb htt iw_X5 hown hZ 5 rfl rfl 3 (by decide) lf_X5_46 rfl dX5_faultsOf_12 ?_
  refine z_getN hx hb gN hnw htt iw_X4 hown hZ 4 rfl rfl 3 (by decide) lf_X5_104 rfl dX5_faultsOf_15 ?_
  refine lv_iload_n hx hb dX5_faultsOf_18 rfl (lv_at hl 2 rfl) ?_
  obtain ⟨h_3, hf⟩ := ck_s hf
  refine z_ild hx hb hZ 17 11 rfl rfl h_3 dX5_faultsOf_19 ?_
  refine lv_topi (fun v4 e_v4 => ?_)
  have hf := lt_n e_v4 hf
  refine lv_istore (lv' := [(6, .int v4), (5, .int v2), (0, .ref (ad 5)), (1, .int x1), (2, .int x2), (3, .int x3), (4, .int x4)]) hx hb dX5_faultsOf_20 hl (by decide) rfl (fun ls hl => ?_)
  refine lv_aload_n hx hb dX5_faultsOf_22 rfl (lv_at hl 2 rfl) ?_
  refine z_get hx hb htt iw_X5 hown hZ 5 rfl rfl 3 (by decide) lf_X5_46 rfl dX5_faultsOf_23 ?_
  refine z_getN hx hb gN hnw htt iw_X4 hown hZ 4 rfl rfl 1 (by decide) lf_X5_107 rfl dX5_faultsOf_26 ?_
  refine lv_iload_n hx hb dX5_faultsOf_29 rfl (lv_at hl 3 rfl) ?_
  obtain ⟨h_5, hf⟩ := ck_s hf
  refine z_ild hx hb hZ 15 9 rfl rfl h_5 dX5_faultsOf_30 ?_
  by_cases c_6 : (σ.1 15 (x1).toNatClampNeg) = 2
  · have hf := ite_t c_6 hf
    refine lv_tableIn (tgt := 108) hx hb dX5_faultsOf_31 (by rw [c_6]; decide) (by rw [c_6]; decide) (by rw [c_6]; rfl) (by decide) ?_
    refine lv_iload_n hx hb dX5_faultsOf_108 rfl (lv_at hl 5 rfl) ?_
    refine z_pcalli (z_runS (As := [.int x3]) (rest := []) ⟨hx, hb, hml, hown, htt⟩ gT (ct_J0_bitCount l x3 rfl) md_J0_bitCount lm_X5_122 rfl rfl ⟨Nat.le_of_ble_eq_true rfl, Nat.le_of_ble_eq_true rfl⟩ z_preP rfl rfl hl.1 rfl (lv_room (Nat.le_of_ble_eq_true rfl)) dX5_faultsOf_109 ⟨Nat.le_of_ble_eq_true rfl, Nat.le_of_ble_eq_true rfl⟩) ?_
    refine lv_topi (fun r7 e_r7 => ?_)
    have hf := lt_n e_r7 hf
    refine lv_iload hx hb dX5_faultsOf_112 (lv_at hl 1 rfl) ?_
    refine lv_iload hx hb dX5_faultsOf_114 (lv_at hl 0 rfl) ?_
    refine z_pcalli (z_runSN (As := [.int r7, .int v2, .int v4]) (rest := []) ⟨hx, hb, hml, hown, htt⟩ gT (ct_X0_isBetween l r7 v2 v4 rfl) md_X0_isBetween hnw lm_X5_127 rfl rfl ⟨Nat.le_of_ble_eq_true rfl, Nat.le_of_ble_eq_true rfl⟩ z_preP rfl rfl hl.1 rfl (lv_room (Nat.le_of_ble_eq_true rfl)) dX5_faultsOf_116 ⟨Nat.le_of_ble_eq_true rfl, Nat.le_of_ble_eq_true rfl⟩) ?_
    refine lv_topi (fun r8 e_r8 => ?_)
    have hf := lt_n e_r8 hf
    refine z_pcalll (z_runS (As := [.int r8]) (rest := []) ⟨hx, hb, hml, hown, htt⟩ gT (ct_X5_unless l r8 rfl) md_X5_unless lm_X5_131 rfl rfl ⟨Nat.le_of_ble_eq_true rfl, Nat.le_of_ble_eq_true rfl⟩ z_preP rfl rfl hl.1 rfl (lv_room (Nat.le_of_ble_eq_true rfl)) dX5_faultsOf_119 ⟨Nat.le_of_ble_eq_true rfl, Nat.le_of_ble_eq_true rfl⟩) ?_
    refine lv_topl (fun r9 e_r9 => ?_)
    have hf := lt_n e_r9 hf
    exact z_lret hx hb hr hlocks hZ (Option.some.inj hf) rfl dX5_faultsOf_122
  have hf := ite_f c_6 hf
  by_cases c_10 : (σ.1 15 (x1).toNatClampNeg) = 5
  · have hf := ite_t c_10 hf
    refine lv_tableIn (tgt := 123) hx hb dX5_faultsOf_31 (by rw [c_10]; decide) (by rw [c_10]; decide) (by rw [c_10]; rfl) (by decide) ?_
    refine lv_iload_n hx hb dX5_faultsOf_123 rfl (lv_at hl 5 rfl) ?_
    refine lv_iload hx hb dX5_faultsOf_124 (lv_at hl 1 rfl) ?_
    refine z_pcalli (z_runSN (As := [.int x3, .int v2]) (rest := []) ⟨hx, hb, hml, hown, htt⟩ gT (ct_X0_holdsBit l x3 v2 rfl) md_X0_holdsBit hnw lm_X5_135 rfl rfl ⟨Nat.le_of_ble_eq_true rfl, Nat.le_of_ble_eq_true rfl⟩ z_preP rfl rfl hl.1 rfl (lv_room (Nat.le_of_ble_eq_true rfl)) dX5_faultsOf_126 ⟨Nat.le_of_ble_eq_true rfl, Nat.le_of_ble_eq_true rfl⟩) ?_
    refine lv_topi (fun r11 e_r11 => ?_)
    have hf := lt_n e_r11 hf
    refine z_pcalll (z_runS (As := [.int r11]) (rest := []) ⟨hx, hb, hml, hown, htt⟩ gT (ct_X5_unless l r11 rfl) md_X5_unless lm_X5_131 rfl rfl ⟨Nat.le_of_ble_eq_true rfl, Nat.le_of_ble_eq_true rfl⟩ z_preP rfl rfl hl.1 rfl (lv_room (Nat.le_of_ble_eq_true rfl)) dX5_faultsOf_129 ⟨Nat.le_of_ble_eq_true rfl, Nat.le_of_ble_eq_true rfl⟩) ?_
    refine lv_topl (fun r12 e_r12 => ?_)
    have hf := lt_n e_r12 hf
    exact z_lret hx hb hr hlocks hZ (Option.some.inj hf) rfl dX5_faultsOf_132
  have hf := ite_f c_10 hf
  by_cases c_13 : (σ.1 15 (x1).toNatClampNeg) = 6
  · have hf := ite_t c_13 hf
    refine lv_tableIn (tgt := 156) hx hb dX5_faultsOf_31 (by rw [c_13]; decide) (by rw [c_13]; decide) (by rw [c_13]; rfl) (by decide) ?_
    refine lv_iload_n hx hb dX5_faultsOf_156 rfl (lv_at hl 5 rfl) ?_
    refine lv_aload_n hx hb dX5_faultsOf_157 rfl (lv_at hl 2 rfl) ?_
    refine z_get hx hb htt iw_X5 hown hZ 5 rfl rfl 0 (by decide) lf_X5_34 rfl dX5_faultsOf_158 ?_
    refine lv_iload_n hx hb dX5_faultsOf_161 rfl (lv_at hl 4 rfl) ?_
    refine lv_iload hx hb dX5_faultsOf_162 (lv_at hl 1 rfl) ?_
    obtain ⟨r15, k_14, hf⟩ := bn_s hf
    refine z_calli (z_runVN (As := [.int x2, .int v2]) (rest := [.int x3]) ⟨hx, hb, hml, hown, htt⟩ gT (ct_X1_termsAhead l D A ad cA rs tr σ x2 v2 k_14) md_X1_termsAhead hnw lm_X5_139 rfl rfl ⟨Nat.le_of_ble_eq_true rfl, Nat.le_of_ble_eq_true rfl⟩ (z_preV gN hnw hZ rfl (q0 := 1) (ci := 1) rfl) rfl rfl hl.1 rfl (lv_room (Nat.le_of_ble_eq_true rfl)) dX5_faultsOf_164 ⟨Nat.le_of_ble_eq_true rfl, Nat.le_of_ble_eq_true rfl⟩) hZ (fun H locs hZ => ?_)
    refine lv_ixor hx hb dX5_faultsOf_167 ?_
    refine z_pcalll (z_runS (As := [.int (x3 ^^^ r15)]) (rest := []) ⟨hx, hb, hml, hown, htt⟩ gT (ct_X5_withValues l (x3 ^^^ r15) rfl) md_X5_withValues lm_X5_142 rfl rfl ⟨Nat.le_of_ble_eq_true rfl, Nat.le_of_ble_eq_true rfl⟩ z_preP rfl rfl hl.1 rfl (lv_room (Nat.le_of_ble_eq_true rfl)) dX5_faultsOf_168 ⟨Nat.le_of_ble_eq_true rfl, Nat.le_of_ble_eq_true rfl⟩) ?_
    refine lv_topl (fun r16 e_r16 => ?_)
    have hf := lt_n e_r16 hf
    exact z_lret hx hb hr hlocks hZ (Option.some.inj hf) rfl dX5_faultsOf_171
  have hf := ite_f c_13 hf
  by_cases c_17 : (σ.1 15 (x1).toNatClampNeg) = 7
  · have hf := ite_t c_17 hf
    refine lv_tableIn (tgt := 172) hx hb dX5_faultsOf_31 (by rw [c_17]; decide) (by rw [c_17]; decide) (by rw [c_17]; rfl) (by decide) ?_
    refine lv_iload_n hx hb dX5_faultsOf_172 rfl (lv_at hl 5 rfl) ?_
    refine lv_aload_n hx hb dX5_faultsOf_173 rfl (lv_at hl 2 rfl) ?_
    refine z_get hx hb htt iw_X5 hown hZ 5 rfl rfl 0 (by decide) lf_X5_34 rfl dX5_faultsOf_174 ?_
    refine lv_iload_n hx hb dX5_faultsOf_177 rfl (lv_at hl 4 rfl) ?_
    refine lv_iload hx hb dX5_faultsOf_178 (lv_at hl 1 rfl) ?_
    obtain ⟨r19, k_18, hf⟩ := bn_s hf
    refine z_calli (z_runVN (As := [.int x2, .int v2]) (rest := [.int x3]) ⟨hx, hb, hml, hown, htt⟩ gT (ct_X1_termsAhead l D A ad cA rs tr σ x2 v2 k_18) md_X1_termsAhead hnw lm_X5_139 rfl rfl ⟨Nat.le_of_ble_eq_true rfl, Nat.le_of_ble_eq_true rfl⟩ (z_preV gN hnw hZ rfl (q0 := 1) (ci := 1) rfl) rfl rfl hl.1 rfl (lv_room (Nat.le_of_ble_eq_true rfl)) dX5_faultsOf_180 ⟨Nat.le_of_ble_eq_true rfl, Nat.le_of_ble_eq_true rfl⟩) hZ (fun H locs hZ => ?_)
    refine lv_iand hx hb dX5_faultsOf_183 ?_
    refine z_pcalll (z_runS (As := [.int (x3 &&& r19)]) (rest := []) ⟨hx, hb, hml, hown, htt⟩ gT (ct_X5_withValues l (x3 &&& r19) rfl) md_X5_withValues lm_X5_142 rfl rfl ⟨Nat.le_of_ble_eq_true rfl, Nat.le_of_ble_eq_true rfl⟩ z_preP rfl rfl hl.1 rfl (lv_room (Nat.le_of_ble_eq_true rfl)) dX5_faultsOf_184 ⟨Nat.le_of_ble_eq_true rfl, Nat.le_of_ble_eq_true rfl⟩) ?_
    refine lv_topl (fun r20 e_r20 => ?_)
    have hf := lt_n e_r20 hf
    exact z_lret hx hb hr hlocks hZ (Option.some.inj hf) rfl dX5_faultsOf_187
  have hf := ite_f c_17 hf
  by_cases c_21 : (σ.1 15 (x1).toNatClampNeg) = 8
  · have hf := ite_t c_21 hf
    refine lv_tableIn (tgt := 188) hx hb dX5_faultsOf_31 (by rw [c_21]; decide) (by rw [c_21]; decide) (by rw [c_21]; rfl) (by decide) ?_
    refine lv_iload_n hx hb dX5_faultsOf_188 rfl (lv_at hl 5 rfl) ?_
    refine lv_aload_n hx hb dX5_faultsOf_189 rfl (lv_at hl 2 rfl) ?_
    refine z_get hx hb htt iw_X5 hown hZ 5 rfl rfl 0 (by decide) lf_X5_34 rfl dX5_faultsOf_190 ?_
    refine lv_iload_n hx hb dX5_faultsOf_193 rfl (lv_at hl 4 rfl) ?_
    refine lv_iload hx hb dX5_faultsOf_194 (lv_at hl 1 rfl) ?_
    obtain ⟨r23, k_22, hf⟩ := bn_s hf
    refine z_calli (z_runVN (As := [.int x2, .int v2]) (rest := [.int x3]) ⟨hx, hb, hml, hown, htt⟩ gT (ct_X1_termsAhead l D A ad cA rs tr σ x2 v2 k_22) md_X1_termsAhead hnw lm_X5_139 rfl rfl ⟨Nat.le_of_ble_eq_true rfl, Nat.le_of_ble_eq_true rfl⟩ (z_preV gN hnw hZ rfl (q0 := 1) (ci := 1) rfl) rfl rfl hl.1 rfl (lv_room (Nat.le_of_ble_eq_true rfl)) dX5_faultsOf_196 ⟨Nat.le_of_ble_eq_true rfl, Nat.le_of_ble_eq_true rfl⟩) hZ (fun H locs hZ => ?_)
    obtain ⟨r25, k_24, hf⟩ := bn_s hf
    refine z_pcalli (z_runSN (As := [.int r23]) (rest := [.int x3]) ⟨hx, hb, hml, hown, htt⟩ gT (ct_X0_literalsSmallerThanAll l r23 k_24) md_X0_literalsSmallerThanAll hnw lm_X5_146 rfl rfl ⟨Nat.le_of_ble_eq_true rfl, Nat.le_of_ble_eq_true rfl⟩ z_preP rfl rfl hl.1 rfl (lv_room (Nat.le_of_ble_eq_true rfl)) dX5_faultsOf_199 ⟨Nat.le_of_ble_eq_true rfl, Nat.le_of_ble_eq_true rfl⟩) ?_
    refine lv_iconst (v := (-1)) hx hb dX5_faultsOf_202 (by decide) ?_
    refine lv_ixor hx hb dX5_faultsOf_203 ?_
    refine lv_iand hx hb dX5_faultsOf_204 ?_
    refine z_pcalll (z_runS (As := [.int (x3 &&& (r25 ^^^ (-1)))]) (rest := []) ⟨hx, hb, hml, hown, htt⟩ gT (ct_X5_withValues l (x3 &&& (r25 ^^^ (-1))) rfl) md_X5_withValues lm_X5_142 rfl rfl ⟨Nat.le_of_ble_eq_true rfl, Nat.le_of_ble_eq_true rfl⟩ z_preP rfl rfl hl.1 rfl (lv_room (Nat.le_of_ble_eq_true rfl)) dX5_faultsOf_205 ⟨Nat.le_of_ble_eq_true rfl, Nat.le_of_ble_eq_true rfl⟩) ?_
    refine lv_topl (fun r26 e_r26 => ?_)
    have hf := lt_n e_r26 hf
    exact z_lret hx hb hr hlocks hZ (Option.some.inj hf) rfl dX5_faultsOf_208
  have hf := ite_f c_21 hf
  by_cases c_27 : (σ.1 15 (x1).toNatClampNeg) = 9
  · have hf := ite_t c_27 hf
    refine lv_tableIn (tgt := 209) hx hb dX5_faultsOf_31 (by rw [c_27]; decide) (by rw [c_27]; decide) (by rw [c_27]; rfl) (by decide) ?_
    refine lv_iload_n hx hb dX5_faultsOf_209 rfl (lv_at hl 5 rfl) ?_
    refine lv_ldc hx hb hown (htt _ lc_X5_149) dX5_faultsOf_210 ?_
    refine lv_iand hx hb dX5_faultsOf_212 ?_
    refine z_pcalli (z_runSN (As := [.int (x3 &&& 1431306240)]) (rest := []) ⟨hx, hb, hml, hown, htt⟩ gT (ct_X0_leastOfTwoOrMore l (x3 &&& 1431306240) rfl) md_X0_leastOfTwoOrMore hnw lm_X5_150 rfl rfl ⟨Nat.le_of_ble_eq_true rfl, Nat.le_of_ble_eq_true rfl⟩ z_preP rfl rfl hl.1 rfl (lv_room (Nat.le_of_ble_eq_true rfl)) dX5_faultsOf_213 ⟨Nat.le_of_ble_eq_true rfl, Nat.le_of_ble_eq_true rfl⟩) ?_
    refine lv_topi (fun r28 e_r28 => ?_)
    have hf := lt_n e_r28 hf
    refine lv_iload_n hx hb dX5_faultsOf_216 rfl (lv_at hl 5 rfl) ?_
    refine lv_ldc hx hb hown (htt _ lc_X5_153) dX5_faultsOf_217 ?_
    refine lv_iand hx hb dX5_faultsOf_219 ?_
    refine z_pcalli (z_runSN (As := [.int (x3 &&& (-1432354816))]) (rest := [.int r28]) ⟨hx, hb, hml, hown, htt⟩ gT (ct_X0_leastOfTwoOrMore l (x3 &&& (-1432354816)) rfl) md_X0_leastOfTwoOrMore hnw lm_X5_150 rfl rfl ⟨Nat.le_of_ble_eq_true rfl, Nat.le_of_ble_eq_true rfl⟩ z_preP rfl rfl hl.1 rfl (lv_room (Nat.le_of_ble_eq_true rfl)) dX5_faultsOf_220 ⟨Nat.le_of_ble_eq_true rfl, Nat.le_of_ble_eq_true rfl⟩) ?_
    refine lv_topi (fun r29 e_r29 => ?_)
    have hf := lt_n e_r29 hf
    refine lv_ior hx hb dX5_faultsOf_223 ?_
    refine z_pcalll (z_runS (As := [.int (r28 ||| r29)]) (rest := []) ⟨hx, hb, hml, hown, htt⟩ gT (ct_X5_withValues l (r28 ||| r29) rfl) md_X5_withValues lm_X5_142 rfl rfl ⟨Nat.le_of_ble_eq_true rfl, Nat.le_of_ble_eq_true rfl⟩ z_preP rfl rfl hl.1 rfl (lv_room (Nat.le_of_ble_eq_true rfl)) dX5_faultsOf_224 ⟨Nat.le_of_ble_eq_true rfl, Nat.le_of_ble_eq_true rfl⟩) ?_
    refine lv_topl (fun r30 e_r30 => ?_)
    have hf := lt_n e_r30 hf
    exact z_lret hx hb hr hlocks hZ (Option.some.inj hf) rfl dX5_faultsOf_227
  have hf := ite_f c_27 hf
  by_cases c_31 : (σ.1 15 (x1).toNatClampNeg) = 10
  · have hf := ite_t c_31 hf
    refine lv_tableIn (tgt := 228) hx hb dX5_faultsOf_31 (by rw [c_31]; decide) (by rw [c_31]; decide) (by rw [c_31]; rfl) (by decide) ?_
    refine lv_aload_n hx hb dX5_faultsOf_228 rfl (lv_at hl 2 rfl) ?_
    refine z_get hx hb htt iw_X5 hown hZ 5 rfl rfl 0 (by decide) lf_X5_34 rfl dX5_faultsOf_229 ?_
    refine lv_iload_n hx hb dX5_faultsOf_232 rfl (lv_at hl 5 rfl) ?_
    refine lv_ldc hx hb hown (htt _ lc_X5_154) dX5_faultsOf_233 ?_
    refine lv_iand hx hb dX5_faultsOf_235 ?_
    refine lv_iload hx hb dX5_faultsOf_236 (lv_at hl 1 rfl) ?_
    obtain ⟨r33, k_32, hf⟩ := bn_s hf
    refine z_calli (z_runVN (As := [.int (x3 &&& 1048575), .int v2]) (rest := []) ⟨hx, hb, hml, hown, htt⟩ gT (ct_X1_termsAheadBut l D A ad cA rs tr σ (x3 &&& 1048575) v2 k_32) md_X1_termsAheadBut hnw lm_X5_155 rfl rfl ⟨Nat.le_of_ble_eq_true rfl, Nat.le_of_ble_eq_true rfl⟩ (z_preV gN hnw hZ rfl (q0 := 1) (ci := 1) rfl) rfl rfl hl.1 rfl (lv_room (Nat.le_of_ble_eq_true rfl)) dX5_faultsOf_238 ⟨Nat.le_of_ble_eq_true rfl, Nat.le_of_ble_eq_true rfl⟩) hZ (fun H locs hZ => ?_)
    refine z_pcalll (z_runS (As := [.int r33]) (rest := []) ⟨hx, hb, hml, hown, htt⟩ gT (ct_X5_withValues l r33 rfl) md_X5_withValues lm_X5_142 rfl rfl ⟨Nat.le_of_ble_eq_true rfl, Nat.le_of_ble_eq_true rfl⟩ z_preP rfl rfl hl.1 rfl (lv_room (Nat.le_of_ble_eq_true rfl)) dX5_faultsOf_241 ⟨Nat.le_of_ble_eq_true rfl, Nat.le_of_ble_eq_true rfl⟩) ?_
    refine lv_topl (fun r34 e_r34 => ?_)
    have hf := lt_n e_r34 hf
    exact z_lret hx hb hr hlocks hZ (Option.some.inj hf) rfl dX5_faultsOf_244
  have hf := ite_f c_31 hf
  by_cases c_35 : (σ.1 15 (x1).toNatClampNeg) = 17
  · have hf := ite_t c_35 hf
    refine lv_tableIn (tgt := 133) hx hb dX5_faultsOf_31 (by rw [c_35]; decide) (by rw [c_35]; decide) (by rw [c_35]; rfl) (by decide) ?_
    refine lv_iload_n hx hb dX5_faultsOf_133 rfl (lv_at hl 5 rfl) ?_
    refine lv_iload hx hb dX5_faultsOf_134 (lv_at hl 6 rfl) ?_
    refine lv_iand hx hb dX5_faultsOf_136 ?_
    refine z_pcalli (z_runS (As := [.int (x3 &&& x4)]) (rest := []) ⟨hx, hb, hml, hown, htt⟩ gT (ct_J0_bitCount l (x3 &&& x4) rfl) md_J0_bitCount lm_X5_122 rfl rfl ⟨Nat.le_of_ble_eq_true rfl, Nat.le_of_ble_eq_true rfl⟩ z_preP rfl rfl hl.1 rfl (lv_room (Nat.le_of_ble_eq_true rfl)) dX5_faultsOf_137 ⟨Nat.le_of_ble_eq_true rfl, Nat.le_of_ble_eq_true rfl⟩) ?_
    refine lv_topi (fun r36 e_r36 => ?_)
    have hf := lt_n e_r36 hf
    refine lv_iload hx hb dX5_faultsOf_140 (lv_at hl 0 rfl) ?_
    refine lv_iconst (v := 4) hx hb dX5_faultsOf_142 (by decide) ?_
    refine lv_ishr hx hb dX5_faultsOf_143 ?_
    refine lv_iload hx hb dX5_faultsOf_144 (lv_at hl 0 rfl) ?_
    refine lv_bipush (v := 15) hx hb dX5_faultsOf_146 (by decide) ?_
    refine lv_iand hx hb dX5_faultsOf_148 ?_
    refine z_pcalli (z_runSN (As := [.int r36, .int (v4 >>> (4 &&& 31)), .int (v4 &&& 15)]) (rest := []) ⟨hx, hb, hml, hown, htt⟩ gT (ct_X0_isBetween l r36 (v4 >>> (4 &&& 31)) (v4 &&& 15) rfl) md_X0_isBetween hnw lm_X5_127 rfl rfl ⟨Nat.le_of_ble_eq_true rfl, Nat.le_of_ble_eq_true rfl⟩ z_preP rfl rfl hl.1 rfl (lv_room (Nat.le_of_ble_eq_true rfl)) dX5_faultsOf_149 ⟨Nat.le_of_ble_eq_true rfl, Nat.le_of_ble_eq_true rfl⟩) ?_
    refine lv_topi (fun r37 e_r37 => ?_)
    have hf := lt_n e_r37 hf
    refine z_pcalll (z_runS (As := [.int r37]) (rest := []) ⟨hx, hb, hml, hown, htt⟩ gT (ct_X5_unless l r37 rfl) md_X5_unless lm_X5_131 rfl rfl ⟨Nat.le_of_ble_eq_true rfl, Nat.le_of_ble_eq_true rfl⟩ z_preP rfl rfl hl.1 rfl (lv_room (Nat.le_of_ble_eq_true rfl)) dX5_faultsOf_152 ⟨Nat.le_of_ble_eq_true rfl, Nat.le_of_ble_eq_true rfl⟩) ?_
    refine lv_topl (fun r38 e_r38 => ?_)
    have hf := lt_n e_r38 hf
    exact z_lret hx hb hr hlocks hZ (Option.some.inj hf) rfl dX5_faultsOf_155
  have hf := ite_f c_35 hf
  have nc_6 := lv_neT c_6 (show (2 : Int32).toInt = 2 from by decide)
  have nc_10 := lv_neT c_10 (show (5 : Int32).toInt = 5 from by decide)
  have nc_13 := lv_neT c_13 (show (6 : Int32).toInt = 6 from by decide)
  have nc_17 := lv_neT c_17 (show (7 : Int32).toInt = 7 from by decide)
  have nc_21 := lv_neT c_21 (show (8 : Int32).toInt = 8 from by decide)
  have nc_27 := lv_neT c_27 (show (9 : Int32).toInt = 9 from by decide)
  have nc_31 := lv_neT c_31 (show (10 : Int32).toInt = 10 from by decide)
  have nc_35 := lv_neT c_35 (show (17 : Int32).toInt = 17 from by decide)
  have h_40 : ((σ.1 15 (x1).toNatClampNeg)).toInt < 2 ∨ 17 < ((σ.1 15 (x1).toNatClampNeg)).toInt ∨ ((σ.1 15 (x1).toNatClampNeg)).toInt = 3 ∨ ((σ.1 15 (x1).toNatClampNeg)).toInt = 4 ∨ ((σ.1 15 (x1).toNatClampNeg)).toInt = 11 ∨ ((σ.1 15 (x1).toNatClampNeg)).toInt = 12 ∨ ((σ.1 15 (x1).toNatClampNeg)).toInt = 13 ∨ ((σ.1 15 (x1).toNatClampNeg)).toInt = 14 ∨ ((σ.1 15 (x1).toNatClampNeg)).toInt = 15 ∨ ((σ.1 15 (x1).toNatClampNeg)).toInt = 16 := by omega
  refine z_tdef (tgt := 245) hx hb dX5_faultsOf_31 (by
    rcases h_40 with h_40 | h_40 | h_40 | h_40 | h_40 | h_40 | h_40 | h_40 | h_40 | h_40
    · exact Or.inl h_40
    · exact Or.inr (Or.inl h_40)
    · exact Or.inr (Or.inr (by rw [h_40]; rfl))
    · exact Or.inr (Or.inr (by rw [h_40]; rfl))
    · exact Or.inr (Or.inr (by rw [h_40]; rfl))
    · exact Or.inr (Or.inr (by rw [h_40]; rfl))
    · exact Or.inr (Or.inr (by rw [h_40]; rfl))
    · exact Or.inr (Or.inr (by rw [h_40]; rfl))
    · exact Or.inr (Or.inr (by rw [h_40]; rfl))
    · exact Or.inr (Or.inr (by rw [h_40]; rfl))) (by decide) ?_
  refine lv_iload_n hx hb dX5_faultsOf_245 rfl (lv_at hl 5 rfl) ?_
  refine lv_iload hx hb dX5_faultsOf_246 (lv_at hl 6 rfl) ?_
  refine lv_iconst (v := (-1)) hx hb dX5_faultsOf_248 (by decide) ?_
  refine lv_ixor hx hb dX5_faultsOf_249 ?_
  refine lv_iand hx hb dX5_faultsOf_250 ?_
  refine z_pcalll (z_runS (As := [.int (x3 &&& (x4 ^^^ (-1)))]) (rest := []) ⟨hx, hb, hml, hown, htt⟩ gT (ct_X5_withValues l (x3 &&& (x4 ^^^ (-1))) rfl) md_X5_withValues lm_X5_142 rfl rfl ⟨Nat.le_of_ble_eq_true rfl, Nat.le_of_ble_eq_true rfl⟩ z_preP rfl rfl hl.1 rfl (lv_room (Nat.le_of_ble_eq_true rfl)) dX5_faultsOf_251 ⟨Nat.le_of_ble_eq_true rfl, Nat.le_of_ble_eq_true rfl⟩) ?_
  refine lv_topl (fun r39 e_r39 => ?_)
  have hf := lt_n e_r39 hf
  exact z_lret hx hb hr hlocks hZ (Option.some.inj hf) rfl dX5_faultsOf_254
abbrev rm_X5_weighConstraint : Room := { frames := 3, cells := 0, slots := 0, locals := 72 }
def fn_X5_weighConstraint_21 : Nat → S2 → Int32 → Int32 → Int32 → Int32 → Option (S2)
  | 0, _, _, _, _, _ => none
  | n + 1, σ, x1, x2, x3, x4 => if 32 ≤ x4 then some σ else ck x2 12 (bn (fn_X1_byPath σ x4 (σ.1 8 (x2).toNatClampNeg)) (fun r4 => bn (fn_X5_faultsOf σ x1 x4 r4 x3) (fun r6 => ck ((x4 * 40) + x1) 1280 (lt (stL σ 18 (((x4 * 40) + x1)).toNatClampNeg r6) (fun σ8 => if (lg_cmp r6 0) = 0 then lt (x4 + 1) (fun v10 => fn_X5_weighConstraint_21 n σ8 x1 x2 x3 v10) else ck x2 12 (ck x2 12 (lt (st σ8 19 (x2).toNatClampNeg ((σ8.1 19 (x2).toNatClampNeg) &&& ((1 <<< (x4 &&& 31)) ^^^ (-1)))) (fun σ13 => lt (x4 + 1) (fun v14 => fn_X5_weighConstraint_21 n σ13 x1 x2 x3 v14)))))))))
def fn_X5_weighConstraint (σ : S2) (x1 : Int32) (x2 : Int32) : Option (S2) := lt (fn_X2_has σ x2) (fun r1 => if r1 = 0 then some σ else bn (fn_X5_goodValues σ x1) (fun r4 => fn_X5_weighConstraint_21 fu σ x1 x2 r4 0))
set_option maxHeartbeats 4000000 in
set_option maxRecDepth 100000 in
theorem wk_X5_weighConstraint_21 {p : Program} {l : Launch} {e : Env} {s : State} {m : MethodId} {args : Array Value} {below : List Frame} {meth : Method} {c : Code} {D : va_G} {A : Nat → Prop} {ad : Nat → Nat} {cA : Nat → ClassId} {rs : va_W} {tr : List (ClassId × FieldType)} {res : S2} (C0 : cx p m meth c cX5_weighConstraint none 7 s args tb nl RX5) : ∀ (n : Nat) (σ : S2) (x1 : Int32) (x2 : Int32) (x3 : Int32) (x4 : Int32), ∀ (H : Heap) (locs : List Loc) (ls : Array Slot), zz D vwCl (tyC cA tr) A (wC ad cA rs) s s.heap H locs σ → lv_has ls 7 [(0, .ref (ad 5)), (1, .int x1), (2, .int x2), (3, .int x3), (4, .int x4)] → fn_X5_weighConstraint_21 n σ x1 x2 x3 x4 = some res → W p l e rm_X5_weighConstraint s m args below meth c H locs 0 0 (MQ below (va_Qv (fun u' => u' = res) (zB D vwCl (tyC cA tr) A (wC ad cA rs)) A) args s 0 0 A) (F0 m 21 ls []) := by
  obtain ⟨hx, hb, hr, hml, hown, htt, hlocks, hnw⟩ := id C0
  intro n
  induction n with
  | zero => intro σ x1 x2 x3 x4 H locs ls hZ hl hf; exact no_some hf
  | succ n ih =>
    intro σ x1 x2 x3 x4 H locs ls hZ hl hf
    rw [fn_X5_weighConstraint_21] at hf
    refine lv_iload hx hb dX5_weighConstraint_21 (lv_at hl 4 rfl) ?_
    refine lv_bipush (v := 32) hx hb dX5_weighConstraint_23 (by decide) ?_
    refine lv_icmp_ge (tgt := 98) hx hb dX5_weighConstraint_25 (by decide) (fun c_1 => ?_) (fun c_1 => ?_)
    · have hf := ite_t c_1 hf
      exact z_vret hx hb hr hlocks hZ (Option.some.inj hf) dX5_weighConstraint_98
    · have hf := ite_f c_1 hf
      refine lv_aload_n hx hb dX5_weighConstraint_28 rfl (lv_at hl 0 rfl) ?_
      refine lv_iload_n hx hb dX5_weighConstraint_29 rfl (lv_at hl 1 rfl) ?_
      refine lv_iload hx hb dX5_weighConstraint_30 (lv_at hl 4 rfl) ?_
      refine lv_aload_n hx hb dX5_weighConstraint_32 rfl (lv_at hl 0 rfl) ?_
      refine z_get hx hb htt iw_X5 hown hZ 5 rfl rfl 0 (by decide) lf_X5_34 rfl dX5_weighConstraint_33 ?_
      refine lv_iload hx hb dX5_weighConstraint_36 (lv_at hl 4 rfl) ?_
      refine lv_aload_n hx hb dX5_weighConstraint_38 rfl (lv_at hl 0 rfl) ?_
      refine z_get hx hb htt iw_X5 hown hZ 5 rfl rfl 1 (by decide) lf_X5_38 rfl dX5_weighConstraint_39 ?_
      refine z_getN hx hb gN hnw htt iw_X2 hown hZ 2 rfl rfl 0 (by decide) lf_X5_88 rfl dX5_weighConstraint_42 ?_
      refine lv_iload_n hx hb dX5_weighConstraint_45 rfl (lv_at hl 2 rfl) ?_
      obtain ⟨h_2, hf⟩ := ck_s hf
      refine z_ild hx hb hZ 8 2 rfl rfl h_2 dX5_weighConstraint_46 ?_
      obtain ⟨r4, k_3, hf⟩ := bn_s hf
      refine z_calli (z_runVN (As := [.int x4, .int (σ.1 8 (x2).toNatClampNeg)]) (rest := [.int x4, .int x1, .ref (ad 5)]) ⟨hx, hb, hml, hown, htt⟩ gT (ct_X1_byPath l D A ad cA rs tr σ x4 (σ.1 8 (x2).toNatClampNeg) k_3) md_X1_byPath hnw lm_X5_91 rfl rfl ⟨Nat.le_of_ble_eq_true rfl, Nat.le_of_ble_eq_true rfl⟩ (z_preV gN hnw hZ rfl (q0 := 1) (ci := 1) rfl) rfl rfl hl.1 rfl (lv_room (Nat.le_of_ble_eq_true rfl)) dX5_weighConstraint_47 ⟨Nat.le_of_ble_eq_true rfl, Nat.le_of_ble_eq_true rfl⟩) hZ (fun H locs hZ => ?_)
      refine lv_iload_n hx hb dX5_weighConstraint_50 rfl (lv_at hl 3 rfl) ?_
      obtain ⟨r6, k_5, hf⟩ := bn_s hf
      refine z_calll (z_runV (As := [.int x1, .int x4, .int r4, .int x3]) (rest := []) ⟨hx, hb, hml, hown, htt⟩ gT (ct_X5_faultsOf l D A ad cA rs tr σ x1 x4 r4 x3 k_5) md_X5_faultsOf lm_X5_97 rfl rfl ⟨Nat.le_of_ble_eq_true rfl, Nat.le_of_ble_eq_true rfl⟩ (z_preV gN hnw hZ rfl (q0 := 5) (ci := 5) rfl) rfl rfl hl.1 rfl (lv_room (Nat.le_of_ble_eq_true rfl)) dX5_weighConstraint_51 ⟨Nat.le_of_ble_eq_true rfl, Nat.le_of_ble_eq_true rfl⟩) hZ (fun H locs hZ => ?_)
      refine lv_lstore (lv' := [(5, .long r6), (0, .ref (ad 5)), (1, .int x1), (2, .int x2), (3, .int x3), (4, .int x4)]) hx hb dX5_weighConstraint_54 hl (by decide) rfl (fun ls hl => ?_)
      refine lv_aload_n hx hb dX5_weighConstraint_56 rfl (lv_at hl 1 rfl) ?_
      refine z_get hx hb htt iw_X5 hown hZ 5 rfl rfl 4 (by decide) lf_X5_9 rfl dX5_weighConstraint_57 ?_
      refine lv_iload hx hb dX5_weighConstraint_60 (lv_at hl 5 rfl) ?_
      refine lv_bipush (v := 40) hx hb dX5_weighConstraint_62 (by decide) ?_
      refine lv_imul hx hb dX5_weighConstraint_64 ?_
      refine lv_iload_n hx hb dX5_weighConstraint_65 rfl (lv_at hl 2 rfl) ?_
      refine lv_iadd hx hb dX5_weighConstraint_66 ?_
      refine lv_lload hx hb dX5_weighConstraint_67 (lv_at hl 0 rfl) ?_
      obtain ⟨h_7, hf⟩ := ck_s hf
      refine z_lst (σ' := stL σ 18 (((x4 * 40) + x1)).toNatClampNeg r6) hx hb hZ 18 12 rfl rfl h_7 dX5_weighConstraint_69 rfl (fun σ8 H locs e_σ8 hZ => ?_)
      have hf := lt_n e_σ8 hf
      refine lv_lload hx hb dX5_weighConstraint_70 (lv_at hl 0 rfl) ?_
      refine lv_lconst (v := 0) hx hb dX5_weighConstraint_72 (by decide) ?_
      refine W.lcmp hx hb dX5_weighConstraint_73 ?_
      refine lv_if_eq (tgt := 92) hx hb dX5_weighConstraint_74 (by decide) (fun c_9 => ?_) (fun c_9 => ?_)
      · have hf := ite_t c_9 hf
        obtain ⟨v10, e_v10⟩ : ∃ y : Int32, y = x4 + 1 := ⟨_, rfl⟩
        have hf := lt_n e_v10 hf
        refine lv_iinc (v := v10) (lv' := [(4, .int v10), (5, .long r6), (0, .ref (ad 5)), (1, .int x1), (2, .int x2), (3, .int x3)]) hx hb dX5_weighConstraint_92 hl (k := 5) rfl (by rw [e_v10]; rfl) (by decide) rfl (fun ls hl => ?_)
        refine lv_goto (tgt := 21) hx hb dX5_weighConstraint_95 (by decide) ?_
        exact ih σ8 x1 x2 x3 v10 _ _ _ hZ (lv_sub hl [2, 3, 4, 5, 0] rfl) hf
      · have hf := ite_f c_9 hf
        refine lv_aload_n hx hb dX5_weighConstraint_77 rfl (lv_at hl 1 rfl) ?_
        refine z_get hx hb htt iw_X5 hown hZ 5 rfl rfl 5 (by decide) lf_X5_15 rfl dX5_weighConstraint_78 ?_
        refine lv_iload_n hx hb dX5_weighConstraint_81 rfl (lv_at hl 3 rfl) ?_
        refine lv_dup2_11 hx hb dX5_weighConstraint_82 rfl rfl ?_
        obtain ⟨h_11, hf⟩ := ck_s hf
        refine z_ild hx hb hZ 19 13 rfl rfl h_11 dX5_weighConstraint_83 ?_
        refine lv_iconst (v := 1) hx hb dX5_weighConstraint_84 (by decide) ?_
        refine lv_iload hx hb dX5_weighConstraint_85 (lv_at hl 5 rfl) ?_
        refine lv_ishl hx hb dX5_weighConstraint_87 ?_
        refine lv_iconst (v := (-1)) hx hb dX5_weighConstraint_88 (by decide) ?_
        refine lv_ixor hx hb dX5_weighConstraint_89 ?_
        refine lv_iand hx hb dX5_weighConstraint_90 ?_
        obtain ⟨h_12, hf⟩ := ck_s hf
        refine z_ist (σ' := st σ8 19 (x2).toNatClampNeg ((σ8.1 19 (x2).toNatClampNeg) &&& ((1 <<< (x4 &&& 31)) ^^^ (-1)))) hx hb hZ 19 13 rfl rfl h_12 dX5_weighConstraint_91 rfl (fun σ13 H locs e_σ13 hZ => ?_)
        have hf := lt_n e_σ13 hf
        obtain ⟨v14, e_v14⟩ : ∃ y : Int32, y = x4 + 1 := ⟨_, rfl⟩
        have hf := lt_n e_v14 hf
        refine lv_iinc (v := v14) (lv' := [(4, .int v14), (5, .long r6), (0, .ref (ad 5)), (1, .int x1), (2, .int x2), (3, .int x3)]) hx hb dX5_weighConstraint_92 hl (k := 5) rfl (by rw [e_v14]; rfl) (by decide) rfl (fun ls hl => ?_)
        refine lv_goto (tgt := 21) hx hb dX5_weighConstraint_95 (by decide) ?_
        exact ih σ13 x1 x2 x3 v14 _ _ _ hZ (lv_sub hl [2, 3, 4, 5, 0] rfl) hf
set_option maxHeartbeats 4000000 in
set_option maxRecDepth 100000 in
theorem ct_X5_weighConstraint (l : Launch) (D : va_G) (A : Nat → Prop) (ad : Nat → Nat) (cA : Nat → ClassId) (rs : va_W) (tr : List (ClassId × FieldType)) (σ : S2) (x1 : Int32) (x2 : Int32) {res : S2} (hf : fn_X5_weighConstraint σ x1 x2 = some res) : Met l yX5_weighConstraint (.code yX5_weighConstraint cX5_weighConstraint 7 none :: tb) rm_X5_weighConstraint (va_Pc [.ref (ad 5), .int x1, .int x2] (zN D vwCl (tyC cA tr) A (wC ad cA rs) nl σ)) (va_Qv (fun u' => u' = res) (zB D vwCl (tyC cA tr) A (wC ad cA rs)) A) 0 0 A := by
  refine Met.ofW (cc := cX5_weighConstraint) (maxL := 7) (ret := none) (by decide) rfl ?_
  intro p e s m args below meth c s₁ B hml hv
  obtain ⟨rfl, hB, hnw0⟩ := hv
  have htt : ∀ w ∈ tb, w.before (([.ref (ad 5), .int x1, .int x2] : List Value).toArray) s = true := fun w h => atoms_spec (ws := (.code yX5_weighConstraint cX5_weighConstraint 7 none :: tb)) B.pre w (List.mem_cons_of_mem _ h)
  have C0 : cx p m meth c cX5_weighConstraint none 7 s (([.ref (ad 5), .int x1, .int x2] : List Value).toArray) tb nl RX5 := ⟨B.exec, B.bytes, B.returns, hml, findClass_of_methodNamed B.named, htt, B.notSynchronized, hnw0⟩
  obtain ⟨hx, hb, hr, hml, hown, htt, hlocks, hnw⟩ := id C0
  have hZ := z_start hB
  have hl := lv_entry ([.ref (ad 5), .int x1, .int x2]) (n := 7) (Nat.le_of_ble_eq_true rfl)
  rw [lg_entry_eq]
  generalize (lg_sl ([.ref (ad 5), .int x1, .int x2]) ++ List.replicate (7 - (lg_sl ([.ref (ad 5), .int x1, .int x2])).length) Slot.unset).toArray = ls at hl ⊢
  have hl : lv_has ls 7 [(0, .ref (ad 5)), (1, .int x1), (2, .int x2)] := hl
  unfold fn_X5_weighConstraint at hf
  refine lv_aload_n hx hb dX5_weighConstraint_0 rfl (lv_at hl 0 rfl) ?_
  refine z_get hx hb htt iw_X5 hown hZ 5 rfl rfl 1 (by decide) lf_X5_38 rfl dX5_weighConstraint_1 ?_
  refine lv_iload_n hx hb dX5_weighConstraint_4 rfl (lv_at hl 2 rfl) ?_
  refine z_calli (z_runVN (As := [.int x2]) (rest := []) ⟨hx, hb, hml, hown, htt⟩ gT (ct_X2_has l D A ad cA rs tr σ x2 rfl) md_X2_has hnw lm_X5_81 rfl rfl ⟨Nat.le_of_ble_eq_true rfl, Nat.le_of_ble_eq_true rfl⟩ (z_preV gN hnw hZ rfl (q0 := 2) (ci := 2) rfl) rfl rfl hl.1 rfl (lv_room (Nat.le_of_ble_eq_true rfl)) dX5_weighConstraint_5 ⟨Nat.le_of_ble_eq_true rfl, Nat.le_of_ble_eq_true rfl⟩) hZ (fun H locs hZ => ?_)
  refine lv_topi (fun r1 e_r1 => ?_)
  have hf := lt_n e_r1 hf
  refine lv_if_ne (tgt := 12) hx hb dX5_weighConstraint_8 (by decide) (fun c_2 => ?_) (fun c_2 => ?_)
  · have hf := ite_f c_2 hf
    refine lv_aload_n hx hb dX5_weighConstraint_12 rfl (lv_at hl 0 rfl) ?_
    refine lv_iload_n hx hb dX5_weighConstraint_13 rfl (lv_at hl 1 rfl) ?_
    obtain ⟨r4, k_3, hf⟩ := bn_s hf
    refine z_calli (z_runV (As := [.int x1]) (rest := []) ⟨hx, hb, hml, hown, htt⟩ gT (ct_X5_goodValues l D A ad cA rs tr σ x1 k_3) md_X5_goodValues lm_X5_85 rfl rfl ⟨Nat.le_of_ble_eq_true rfl, Nat.le_of_ble_eq_true rfl⟩ (z_preV gN hnw hZ rfl (q0 := 5) (ci := 5) rfl) rfl rfl hl.1 rfl (lv_room (Nat.le_of_ble_eq_true rfl)) dX5_weighConstraint_14 ⟨Nat.le_of_ble_eq_true rfl, Nat.le_of_ble_eq_true rfl⟩) hZ (fun H locs hZ => ?_)
    refine lv_istore_n (lv' := [(3, .int r4), (0, .ref (ad 5)), (1, .int x1), (2, .int x2)]) hx hb dX5_weighConstraint_17 rfl hl (by decide) rfl (fun ls hl => ?_)
    refine lv_iconst (v := 0) hx hb dX5_weighConstraint_18 (by decide) ?_
    refine lv_istore (lv' := [(4, .int 0), (3, .int r4), (0, .ref (ad 5)), (1, .int x1), (2, .int x2)]) hx hb dX5_weighConstraint_19 hl (by decide) rfl (fun ls hl => ?_)
    exact wk_X5_weighConstraint_21 C0  fu σ x1 x2 r4 0 _ _ _ hZ (lv_sub hl [2, 3, 4, 1, 0] rfl) hf
  · have hf := ite_t c_2 hf
    exact z_vret hx hb hr hlocks hZ (Option.some.inj hf) dX5_weighConstraint_11
abbrev rm_X5_weighAll : Room := { frames := 4, cells := 0, slots := 0, locals := 98 }
def fn_X5_weighAll_36 (K28 : S2 → Int32 → Option (S2)) : Nat → S2 → Int32 → Int32 → Option (S2)
  | 0, _, _, _ => none
  | n + 1, σ, x1, x2 => if (σ.1 4 0) ≤ x2 then lt (x1 + 1) (fun v2 => K28 σ v2) else ck x2 40 (bn (fn_X2_height σ (σ.1 14 (x2).toNatClampNeg)) (fun r5 => if r5 = x1 then ck x2 40 (bn (fn_X5_weighConstraint σ x2 (σ.1 14 (x2).toNatClampNeg)) (fun σ10 => lt (x2 + 1) (fun v11 => fn_X5_weighAll_36 K28 n σ10 x1 v11))) else lt (x2 + 1) (fun v7 => fn_X5_weighAll_36 K28 n σ x1 v7)))
def fn_X5_weighAll_28 : Nat → S2 → Int32 → Option (S2)
  | 0, _, _ => none
  | n + 1, σ, x1 => if 12 ≤ x1 then some σ else fn_X5_weighAll_36 (fn_X5_weighAll_28 n) fu σ x1 0
def fn_X5_weighAll_2 : Nat → S2 → Int32 → Option (S2)
  | 0, _, _ => none
  | n + 1, σ, x1 => if (σ.1 2 0) ≤ x1 then fn_X5_weighAll_28 fu σ 0 else ck x1 12 (lt (st σ 19 (x1).toNatClampNeg (-1)) (fun σ3 => lt (x1 + 1) (fun v4 => fn_X5_weighAll_2 n σ3 v4)))
def fn_X5_weighAll (σ : S2) : Option (S2) := fn_X5_weighAll_2 fu σ 0
set_option maxHeartbeats 4000000 in
set_option maxRecDepth 100000 in
theorem wk_X5_weighAll_36 {p : Program} {l : Launch} {e : Env} {s : State} {m : MethodId} {args : Array Value} {below : List Frame} {meth : Method} {c : Code} {D : va_G} {A : Nat → Prop} {ad : Nat → Nat} {cA : Nat → ClassId} {rs : va_W} {tr : List (ClassId × FieldType)} {res : S2} (C0 : cx p m meth c cX5_weighAll none 3 s args tb nl RX5) (K28 : S2 → Int32 → Option (S2)) (hK28 : ∀ (σ : S2) (x1 : Int32), ∀ (H : Heap) (locs : List Loc) (ls : Array Slot), zz D vwCl (tyC cA tr) A (wC ad cA rs) s s.heap H locs σ → lv_has ls 3 [(0, .ref (ad 5)), (1, .int x1)] → K28 σ x1 = some res → W p l e rm_X5_weighAll s m args below meth c H locs 0 0 (MQ below (va_Qv (fun u' => u' = res) (zB D vwCl (tyC cA tr) A (wC ad cA rs)) A) args s 0 0 A) (F0 m 28 ls [])) : ∀ (n : Nat) (σ : S2) (x1 : Int32) (x2 : Int32), ∀ (H : Heap) (locs : List Loc) (ls : Array Slot), zz D vwCl (tyC cA tr) A (wC ad cA rs) s s.heap H locs σ → lv_has ls 3 [(0, .ref (ad 5)), (1, .int x1), (2, .int x2)] → fn_X5_weighAll_36 K28 n σ x1 x2 = some res → W p l e rm_X5_weighAll s m args below meth c H locs 0 0 (MQ below (va_Qv (fun u' => u' = res) (zB D vwCl (tyC cA tr) A (wC ad cA rs)) A) args s 0 0 A) (F0 m 36 ls []) := by
  obtain ⟨hx, hb, hr, hml, hown, htt, hlocks, hnw⟩ := id C0
  intro n
  induction n with
  | zero => intro σ x1 x2 H locs ls hZ hl hf; exact no_some hf
  | succ n ih =>
    intro σ x1 x2 H locs ls hZ hl hf
    rw [fn_X5_weighAll_36] at hf
    refine lv_iload_n hx hb dX5_weighAll_36 rfl (lv_at hl 2 rfl) ?_
    refine lv_aload_n hx hb dX5_weighAll_37 rfl (lv_at hl 0 rfl) ?_
    refine z_get hx hb htt iw_X5 hown hZ 5 rfl rfl 3 (by decide) lf_X5_46 rfl dX5_weighAll_38 ?_
    refine z_getN hx hb gN hnw htt iw_X4 hown hZ 4 rfl rfl 4 (by decide) lf_X5_69 rfl dX5_weighAll_41 ?_
    refine lv_icmp_ge (tgt := 87) hx hb dX5_weighAll_44 (by decide) (fun c_1 => ?_) (fun c_1 => ?_)
    · have hf := ite_t c_1 hf
      obtain ⟨v2, e_v2⟩ : ∃ y : Int32, y = x1 + 1 := ⟨_, rfl⟩
      have hf := lt_n e_v2 hf
      refine lv_iinc (v := v2) (lv' := [(1, .int v2), (0, .ref (ad 5)), (2, .int x2)]) hx hb dX5_weighAll_87 hl (k := 1) rfl (by rw [e_v2]; rfl) (by decide) rfl (fun ls hl => ?_)
      refine lv_goto (tgt := 28) hx hb dX5_weighAll_90 (by decide) ?_
      exact hK28 σ v2 _ _ _ hZ (lv_sub hl [1, 0] rfl) hf
    · have hf := ite_f c_1 hf
      refine lv_aload_n hx hb dX5_weighAll_47 rfl (lv_at hl 0 rfl) ?_
      refine z_get hx hb htt iw_X5 hown hZ 5 rfl rfl 1 (by decide) lf_X5_38 rfl dX5_weighAll_48 ?_
      refine lv_aload_n hx hb dX5_weighAll_51 rfl (lv_at hl 0 rfl) ?_
      refine z_get hx hb htt iw_X5 hown hZ 5 rfl rfl 3 (by decide) lf_X5_46 rfl dX5_weighAll_52 ?_
      refine z_getN hx hb gN hnw htt iw_X4 hown hZ 4 rfl rfl 0 (by decide) lf_X5_72 rfl dX5_weighAll_55 ?_
      refine lv_iload_n hx hb dX5_weighAll_58 rfl (lv_at hl 2 rfl) ?_
      obtain ⟨h_3, hf⟩ := ck_s hf
      refine z_ild hx hb hZ 14 8 rfl rfl h_3 dX5_weighAll_59 ?_
      obtain ⟨r5, k_4, hf⟩ := bn_s hf
      refine z_calli (z_runVN (As := [.int (σ.1 14 (x2).toNatClampNeg)]) (rest := []) ⟨hx, hb, hml, hown, htt⟩ gT (ct_X2_height l D A ad cA rs tr σ (σ.1 14 (x2).toNatClampNeg) k_4) md_X2_height hnw lm_X5_73 rfl rfl ⟨Nat.le_of_ble_eq_true rfl, Nat.le_of_ble_eq_true rfl⟩ (z_preV gN hnw hZ rfl (q0 := 2) (ci := 2) rfl) rfl rfl hl.1 rfl (lv_room (Nat.le_of_ble_eq_true rfl)) dX5_weighAll_60 ⟨Nat.le_of_ble_eq_true rfl, Nat.le_of_ble_eq_true rfl⟩) hZ (fun H locs hZ => ?_)
      refine lv_iload_n hx hb dX5_weighAll_63 rfl (lv_at hl 1 rfl) ?_
      refine lv_icmp_ne (tgt := 81) hx hb dX5_weighAll_64 (by decide) (fun c_6 => ?_) (fun c_6 => ?_)
      · have hf := ite_f c_6 hf
        obtain ⟨v7, e_v7⟩ : ∃ y : Int32, y = x2 + 1 := ⟨_, rfl⟩
        have hf := lt_n e_v7 hf
        refine lv_iinc (v := v7) (lv' := [(2, .int v7), (0, .ref (ad 5)), (1, .int x1)]) hx hb dX5_weighAll_81 hl (k := 2) rfl (by rw [e_v7]; rfl) (by decide) rfl (fun ls hl => ?_)
        refine lv_goto (tgt := 36) hx hb dX5_weighAll_84 (by decide) ?_
        exact ih σ x1 v7 _ _ _ hZ (lv_sub hl [1, 2, 0] rfl) hf
      · have hf := ite_t c_6 hf
        refine lv_aload_n hx hb dX5_weighAll_67 rfl (lv_at hl 0 rfl) ?_
        refine lv_iload_n hx hb dX5_weighAll_68 rfl (lv_at hl 2 rfl) ?_
        refine lv_aload_n hx hb dX5_weighAll_69 rfl (lv_at hl 0 rfl) ?_
        refine z_get hx hb htt iw_X5 hown hZ 5 rfl rfl 3 (by decide) lf_X5_46 rfl dX5_weighAll_70 ?_
        refine z_getN hx hb gN hnw htt iw_X4 hown hZ 4 rfl rfl 0 (by decide) lf_X5_72 rfl dX5_weighAll_73 ?_
        refine lv_iload_n hx hb dX5_weighAll_76 rfl (lv_at hl 2 rfl) ?_
        obtain ⟨h_8, hf⟩ := ck_s hf
        refine z_ild hx hb hZ 14 8 rfl rfl h_8 dX5_weighAll_77 ?_
        obtain ⟨σ10, k_9, hf⟩ := bn_s hf
        refine z_callv (u := σ10) (z_runV (As := [.int x2, .int (σ.1 14 (x2).toNatClampNeg)]) (rest := []) ⟨hx, hb, hml, hown, htt⟩ gT (ct_X5_weighConstraint l D A ad cA rs tr σ x2 (σ.1 14 (x2).toNatClampNeg) k_9) md_X5_weighConstraint lm_X5_77 rfl rfl ⟨Nat.le_of_ble_eq_true rfl, Nat.le_of_ble_eq_true rfl⟩ (z_preV gN hnw hZ rfl (q0 := 5) (ci := 5) rfl) rfl rfl hl.1 rfl (lv_room (Nat.le_of_ble_eq_true rfl)) dX5_weighAll_78 ⟨Nat.le_of_ble_eq_true rfl, Nat.le_of_ble_eq_true rfl⟩) hZ (fun H locs hZ => ?_)
        obtain ⟨v11, e_v11⟩ : ∃ y : Int32, y = x2 + 1 := ⟨_, rfl⟩
        have hf := lt_n e_v11 hf
        refine lv_iinc (v := v11) (lv' := [(2, .int v11), (0, .ref (ad 5)), (1, .int x1)]) hx hb dX5_weighAll_81 hl (k := 2) rfl (by rw [e_v11]; rfl) (by decide) rfl (fun ls hl => ?_)
        refine lv_goto (tgt := 36) hx hb dX5_weighAll_84 (by decide) ?_
        exact ih σ10 x1 v11 _ _ _ hZ (lv_sub hl [1, 2, 0] rfl) hf
set_option maxHeartbeats 4000000 in
set_option maxRecDepth 100000 in
theorem wk_X5_weighAll_28 {p : Program} {l : Launch} {e : Env} {s : State} {m : MethodId} {args : Array Value} {below : List Frame} {meth : Method} {c : Code} {D : va_G} {A : Nat → Prop} {ad : Nat → Nat} {cA : Nat → ClassId} {rs : va_W} {tr : List (ClassId × FieldType)} {res : S2} (C0 : cx p m meth c cX5_weighAll none 3 s args tb nl RX5) : ∀ (n : Nat) (σ : S2) (x1 : Int32), ∀ (H : Heap) (locs : List Loc) (ls : Array Slot), zz D vwCl (tyC cA tr) A (wC ad cA rs) s s.heap H locs σ → lv_has ls 3 [(0, .ref (ad 5)), (1, .int x1)] → fn_X5_weighAll_28 n σ x1 = some res → W p l e rm_X5_weighAll s m args below meth c H locs 0 0 (MQ below (va_Qv (fun u' => u' = res) (zB D vwCl (tyC cA tr) A (wC ad cA rs)) A) args s 0 0 A) (F0 m 28 ls []) := by
  obtain ⟨hx, hb, hr, hml, hown, htt, hlocks, hnw⟩ := id C0
  intro n
  induction n with
  | zero => intro σ x1 H locs ls hZ hl hf; exact no_some hf
  | succ n ih =>
    intro σ x1 H locs ls hZ hl hf
    rw [fn_X5_weighAll_28] at hf
    refine lv_iload_n hx hb dX5_weighAll_28 rfl (lv_at hl 1 rfl) ?_
    refine lv_bipush (v := 12) hx hb dX5_weighAll_29 (by decide) ?_
    refine lv_icmp_ge (tgt := 93) hx hb dX5_weighAll_31 (by decide) (fun c_1 => ?_) (fun c_1 => ?_)
    · have hf := ite_t c_1 hf
      exact z_vret hx hb hr hlocks hZ (Option.some.inj hf) dX5_weighAll_93
    · have hf := ite_f c_1 hf
      refine lv_iconst (v := 0) hx hb dX5_weighAll_34 (by decide) ?_
      refine lv_istore_n (lv' := [(2, .int 0), (0, .ref (ad 5)), (1, .int x1)]) hx hb dX5_weighAll_35 rfl hl (by decide) rfl (fun ls hl => ?_)
      exact wk_X5_weighAll_36 C0 (fn_X5_weighAll_28 n) ih fu σ x1 0 _ _ _ hZ (lv_sub hl [1, 2, 0] rfl) hf
set_option maxHeartbeats 4000000 in
set_option maxRecDepth 100000 in
theorem wk_X5_weighAll_2 {p : Program} {l : Launch} {e : Env} {s : State} {m : MethodId} {args : Array Value} {below : List Frame} {meth : Method} {c : Code} {D : va_G} {A : Nat → Prop} {ad : Nat → Nat} {cA : Nat → ClassId} {rs : va_W} {tr : List (ClassId × FieldType)} {res : S2} (C0 : cx p m meth c cX5_weighAll none 3 s args tb nl RX5) : ∀ (n : Nat) (σ : S2) (x1 : Int32), ∀ (H : Heap) (locs : List Loc) (ls : Array Slot), zz D vwCl (tyC cA tr) A (wC ad cA rs) s s.heap H locs σ → lv_has ls 3 [(0, .ref (ad 5)), (1, .int x1)] → fn_X5_weighAll_2 n σ x1 = some res → W p l e rm_X5_weighAll s m args below meth c H locs 0 0 (MQ below (va_Qv (fun u' => u' = res) (zB D vwCl (tyC cA tr) A (wC ad cA rs)) A) args s 0 0 A) (F0 m 2 ls []) := by
  obtain ⟨hx, hb, hr, hml, hown, htt, hlocks, hnw⟩ := id C0
  intro n
  induction n with
  | zero => intro σ x1 H locs ls hZ hl hf; exact no_some hf
  | succ n ih =>
    intro σ x1 H locs ls hZ hl hf
    rw [fn_X5_weighAll_2] at hf
    refine lv_iload_n hx hb dX5_weighAll_2 rfl (lv_at hl 1 rfl) ?_
    refine lv_aload_n hx hb dX5_weighAll_3 rfl (lv_at hl 0 rfl) ?_
    refine z_get hx hb htt iw_X5 hown hZ 5 rfl rfl 1 (by decide) lf_X5_38 rfl dX5_weighAll_4 ?_
    refine z_getN hx hb gN hnw htt iw_X2 hown hZ 2 rfl rfl 3 (by decide) lf_X5_63 rfl dX5_weighAll_7 ?_
    refine lv_icmp_ge (tgt := 26) hx hb dX5_weighAll_10 (by decide) (fun c_1 => ?_) (fun c_1 => ?_)
    · have hf := ite_t c_1 hf
      refine lv_iconst (v := 0) hx hb dX5_weighAll_26 (by decide) ?_
      refine lv_istore_n (lv' := [(1, .int 0), (0, .ref (ad 5))]) hx hb dX5_weighAll_27 rfl hl (by decide) rfl (fun ls hl => ?_)
      exact wk_X5_weighAll_28 C0  fu σ 0 _ _ _ hZ (lv_sub hl [1, 0] rfl) hf
    · have hf := ite_f c_1 hf
      refine lv_aload_n hx hb dX5_weighAll_13 rfl (lv_at hl 0 rfl) ?_
      refine z_get hx hb htt iw_X5 hown hZ 5 rfl rfl 5 (by decide) lf_X5_15 rfl dX5_weighAll_14 ?_
      refine lv_iload_n hx hb dX5_weighAll_17 rfl (lv_at hl 1 rfl) ?_
      refine lv_iconst (v := (-1)) hx hb dX5_weighAll_18 (by decide) ?_
      obtain ⟨h_2, hf⟩ := ck_s hf
      refine z_ist (σ' := st σ 19 (x1).toNatClampNeg (-1)) hx hb hZ 19 13 rfl rfl h_2 dX5_weighAll_19 rfl (fun σ3 H locs e_σ3 hZ => ?_)
      have hf := lt_n e_σ3 hf
      obtain ⟨v4, e_v4⟩ : ∃ y : Int32, y = x1 + 1 := ⟨_, rfl⟩
      have hf := lt_n e_v4 hf
      refine lv_iinc (v := v4) (lv' := [(1, .int v4), (0, .ref (ad 5))]) hx hb dX5_weighAll_20 hl (k := 1) rfl (by rw [e_v4]; rfl) (by decide) rfl (fun ls hl => ?_)
      refine lv_goto (tgt := 2) hx hb dX5_weighAll_23 (by decide) ?_
      exact ih σ3 v4 _ _ _ hZ (lv_sub hl [1, 0] rfl) hf
set_option maxHeartbeats 4000000 in
set_option maxRecDepth 100000 in
theorem ct_X5_weighAll (l : Launch) (D : va_G) (A : Nat → Prop) (ad : Nat → Nat) (cA : Nat → ClassId) (rs : va_W) (tr : List (ClassId × FieldType)) (σ : S2) {res : S2} (hf : fn_X5_weighAll σ = some res) : Met l yX5_weighAll (.code yX5_weighAll cX5_weighAll 3 none :: tb) rm_X5_weighAll (va_Pc [.ref (ad 5)] (zN D vwCl (tyC cA tr) A (wC ad cA rs) nl σ)) (va_Qv (fun u' => u' = res) (zB D vwCl (tyC cA tr) A (wC ad cA rs)) A) 0 0 A := by
  refine Met.ofW (cc := cX5_weighAll) (maxL := 3) (ret := none) (by decide) rfl ?_
  intro p e s m args below meth c s₁ B hml hv
  obtain ⟨rfl, hB, hnw0⟩ := hv
  have htt : ∀ w ∈ tb, w.before (([.ref (ad 5)] : List Value).toArray) s = true := fun w h => atoms_spec (ws := (.code yX5_weighAll cX5_weighAll 3 none :: tb)) B.pre w (List.mem_cons_of_mem _ h)
  have C0 : cx p m meth c cX5_weighAll none 3 s (([.ref (ad 5)] : List Value).toArray) tb nl RX5 := ⟨B.exec, B.bytes, B.returns, hml, findClass_of_methodNamed B.named, htt, B.notSynchronized, hnw0⟩
  obtain ⟨hx, hb, hr, hml, hown, htt, hlocks, hnw⟩ := id C0
  have hZ := z_start hB
  have hl := lv_entry ([.ref (ad 5)]) (n := 3) (Nat.le_of_ble_eq_true rfl)
  rw [lg_entry_eq]
  generalize (lg_sl ([.ref (ad 5)]) ++ List.replicate (3 - (lg_sl ([.ref (ad 5)])).length) Slot.unset).toArray = ls at hl ⊢
  have hl : lv_has ls 3 [(0, .ref (ad 5))] := hl
  unfold fn_X5_weighAll at hf
  refine lv_iconst (v := 0) hx hb dX5_weighAll_0 (by decide) ?_
  refine lv_istore_n (lv' := [(1, .int 0), (0, .ref (ad 5))]) hx hb dX5_weighAll_1 rfl hl (by decide) rfl (fun ls hl => ?_)
  exact wk_X5_weighAll_2 C0  fu σ 0 _ _ _ hZ (lv_sub hl [1, 0] rfl) hf
abbrev rm_X1_termsLedTo : Room := { frames := 0, cells := 0, slots := 0, locals := 0 }
def fn_X1_termsLedTo_4 : Nat → S2 → Int32 → Int32 → Int32 → Option (Int32)
  | 0, _, _, _, _ => none
  | n + 1, σ, x1, x2, x3 => if 20 ≤ x3 then some x2 else if x1 < 0 then some x2 else if 8 ≤ x1 then some x2 else ck ((x3 * 8) + x1) 160 (lt ((x2 ||| (σ.1 6 (((x3 * 8) + x1)).toNatClampNeg))) (fun v5 => lt (x3 + 1) (fun v6 => fn_X1_termsLedTo_4 n σ x1 v5 v6)))
def fn_X1_termsLedTo (σ : S2) (x1 : Int32) : Option (Int32) := fn_X1_termsLedTo_4 fu σ x1 0 0
set_option maxHeartbeats 4000000 in
set_option maxRecDepth 100000 in
theorem wk_X1_termsLedTo_4 {p : Program} {l : Launch} {e : Env} {s : State} {m : MethodId} {args : Array Value} {below : List Frame} {meth : Method} {c : Code} {D : va_G} {A : Nat → Prop} {ad : Nat → Nat} {cA : Nat → ClassId} {rs : va_W} {tr : List (ClassId × FieldType)} {σ : S2} {res : Int32} (C0 : cx p m meth c cX1_termsLedTo (some .int) 4 s args tb nl RX1) : ∀ (n : Nat) (x1 : Int32) (x2 : Int32) (x3 : Int32), ∀ (H : Heap) (locs : List Loc) (ls : Array Slot), zz D vwCl (tyC cA tr) A (wC ad cA rs) s s.heap H locs σ → lv_has ls 4 [(0, .ref (ad 1)), (1, .int x1), (2, .int x2), (3, .int x3)] → fn_X1_termsLedTo_4 n σ x1 x2 x3 = some res → W p l e rm_X1_termsLedTo s m args below meth c H locs 0 0 (MQ below (va_Qi (fun r' u' => r' = res ∧ u' = σ) (zB D vwCl (tyC cA tr) A (wC ad cA rs)) A) args s 0 0 A) (F0 m 4 ls []) := by
  obtain ⟨hx, hb, hr, hml, hown, htt, hlocks, hnw⟩ := id C0
  intro n
  induction n with
  | zero => intro x1 x2 x3 H locs ls hZ hl hf; exact no_some hf
  | succ n ih =>
    intro x1 x2 x3 H locs ls hZ hl hf
    rw [fn_X1_termsLedTo_4] at hf
    refine lv_iload_n hx hb dX1_termsLedTo_4 rfl (lv_at hl 3 rfl) ?_
    refine lv_bipush (v := 20) hx hb dX1_termsLedTo_5 (by decide) ?_
    refine lv_icmp_ge (tgt := 40) hx hb dX1_termsLedTo_7 (by decide) (fun c_1 => ?_) (fun c_1 => ?_)
    · have hf := ite_t c_1 hf
      refine lv_iload_n hx hb dX1_termsLedTo_40 rfl (lv_at hl 2 rfl) ?_
      exact z_iret hx hb hr hlocks hZ (Option.some.inj hf) rfl dX1_termsLedTo_41
    · have hf := ite_f c_1 hf
      refine lv_iload_n hx hb dX1_termsLedTo_10 rfl (lv_at hl 1 rfl) ?_
      refine lv_if_lt (tgt := 40) hx hb dX1_termsLedTo_11 (by decide) (fun c_2 => ?_) (fun c_2 => ?_)
      · have hf := ite_t c_2 hf
        refine lv_iload_n hx hb dX1_termsLedTo_40 rfl (lv_at hl 2 rfl) ?_
        exact z_iret hx hb hr hlocks hZ (Option.some.inj hf) rfl dX1_termsLedTo_41
      · have hf := ite_f c_2 hf
        refine lv_iload_n hx hb dX1_termsLedTo_14 rfl (lv_at hl 1 rfl) ?_
        refine lv_bipush (v := 8) hx hb dX1_termsLedTo_15 (by decide) ?_
        refine lv_icmp_ge (tgt := 40) hx hb dX1_termsLedTo_17 (by decide) (fun c_3 => ?_) (fun c_3 => ?_)
        · have hf := ite_t c_3 hf
          refine lv_iload_n hx hb dX1_termsLedTo_40 rfl (lv_at hl 2 rfl) ?_
          exact z_iret hx hb hr hlocks hZ (Option.some.inj hf) rfl dX1_termsLedTo_41
        · have hf := ite_f c_3 hf
          refine lv_iload_n hx hb dX1_termsLedTo_20 rfl (lv_at hl 2 rfl) ?_
          refine lv_aload_n hx hb dX1_termsLedTo_21 rfl (lv_at hl 0 rfl) ?_
          refine z_get hx hb htt iw_X1 hown hZ 1 rfl rfl 0 (by decide) lf_X1_9 rfl dX1_termsLedTo_22 ?_
          refine lv_iload_n hx hb dX1_termsLedTo_25 rfl (lv_at hl 3 rfl) ?_
          refine lv_bipush (v := 8) hx hb dX1_termsLedTo_26 (by decide) ?_
          refine lv_imul hx hb dX1_termsLedTo_28 ?_
          refine lv_iload_n hx hb dX1_termsLedTo_29 rfl (lv_at hl 1 rfl) ?_
          refine lv_iadd hx hb dX1_termsLedTo_30 ?_
          obtain ⟨h_4, hf⟩ := ck_s hf
          refine z_ild hx hb hZ 6 0 rfl rfl h_4 dX1_termsLedTo_31 ?_
          refine lv_ior hx hb dX1_termsLedTo_32 ?_
          refine lv_topi (fun v5 e_v5 => ?_)
          have hf := lt_n e_v5 hf
          refine lv_istore_n (lv' := [(2, .int v5), (0, .ref (ad 1)), (1, .int x1), (3, .int x3)]) hx hb dX1_termsLedTo_33 rfl hl (by decide) rfl (fun ls hl => ?_)
          obtain ⟨v6, e_v6⟩ : ∃ y : Int32, y = x3 + 1 := ⟨_, rfl⟩
          have hf := lt_n e_v6 hf
          refine lv_iinc (v := v6) (lv' := [(3, .int v6), (2, .int v5), (0, .ref (ad 1)), (1, .int x1)]) hx hb dX1_termsLedTo_34 hl (k := 3) rfl (by rw [e_v6]; rfl) (by decide) rfl (fun ls hl => ?_)
          refine lv_goto (tgt := 4) hx hb dX1_termsLedTo_37 (by decide) ?_
          exact ih x1 v5 v6 _ _ _ hZ (lv_sub hl [2, 3, 1, 0] rfl) hf
set_option maxHeartbeats 4000000 in
set_option maxRecDepth 100000 in
theorem ct_X1_termsLedTo (l : Launch) (D : va_G) (A : Nat → Prop) (ad : Nat → Nat) (cA : Nat → ClassId) (rs : va_W) (tr : List (ClassId × FieldType)) (σ : S2) (x1 : Int32) {res : Int32} (hf : fn_X1_termsLedTo σ x1 = some res) : Met l yX1_termsLedTo (.code yX1_termsLedTo cX1_termsLedTo 4 (some .int) :: tb) rm_X1_termsLedTo (va_Pc [.ref (ad 1), .int x1] (zN D vwCl (tyC cA tr) A (wC ad cA rs) nl σ)) (va_Qi (fun r' u' => r' = res ∧ u' = σ) (zB D vwCl (tyC cA tr) A (wC ad cA rs)) A) 0 0 A := by
  refine Met.ofW (cc := cX1_termsLedTo) (maxL := 4) (ret := (some .int)) (by decide) rfl ?_
  intro p e s m args below meth c s₁ B hml hv
  obtain ⟨rfl, hB, hnw0⟩ := hv
  have htt : ∀ w ∈ tb, w.before (([.ref (ad 1), .int x1] : List Value).toArray) s = true := fun w h => atoms_spec (ws := (.code yX1_termsLedTo cX1_termsLedTo 4 (some .int) :: tb)) B.pre w (List.mem_cons_of_mem _ h)
  have C0 : cx p m meth c cX1_termsLedTo (some .int) 4 s (([.ref (ad 1), .int x1] : List Value).toArray) tb nl RX1 := ⟨B.exec, B.bytes, B.returns, hml, findClass_of_methodNamed B.named, htt, B.notSynchronized, hnw0⟩
  obtain ⟨hx, hb, hr, hml, hown, htt, hlocks, hnw⟩ := id C0
  have hZ := z_start hB
  have hl := lv_entry ([.ref (ad 1), .int x1]) (n := 4) (Nat.le_of_ble_eq_true rfl)
  rw [lg_entry_eq]
  generalize (lg_sl ([.ref (ad 1), .int x1]) ++ List.replicate (4 - (lg_sl ([.ref (ad 1), .int x1])).length) Slot.unset).toArray = ls at hl ⊢
  have hl : lv_has ls 4 [(0, .ref (ad 1)), (1, .int x1)] := hl
  unfold fn_X1_termsLedTo at hf
  refine lv_iconst (v := 0) hx hb dX1_termsLedTo_0 (by decide) ?_
  refine lv_istore_n (lv' := [(2, .int 0), (0, .ref (ad 1)), (1, .int x1)]) hx hb dX1_termsLedTo_1 rfl hl (by decide) rfl (fun ls hl => ?_)
  refine lv_iconst (v := 0) hx hb dX1_termsLedTo_2 (by decide) ?_
  refine lv_istore_n (lv' := [(3, .int 0), (2, .int 0), (0, .ref (ad 1)), (1, .int x1)]) hx hb dX1_termsLedTo_3 rfl hl (by decide) rfl (fun ls hl => ?_)
  exact wk_X1_termsLedTo_4 C0  fu x1 0 0 _ _ _ hZ (lv_sub hl [2, 3, 1, 0] rfl) hf
abbrev rm_X3_termsAimedAt : Room := { frames := 2, cells := 0, slots := 0, locals := 48 }
def fn_X3_termsAimedAt (σ : S2) (x0 : Int32) (x1 : Int32) : Option (Int32) := if x0 = 0 then some (1 <<< (x1 &&& 31)) else if x0 = 1 then bn (fn_X1_ofClass σ x1) (fun r4 => some r4) else if x0 = 2 then bn (fn_X1_termsBackOfAny σ (-1) x1) (fun r7 => some r7) else bn (fn_X1_termsLedTo σ x1) (fun r9 => some r9)
set_option maxHeartbeats 4000000 in
set_option maxRecDepth 100000 in
theorem ct_X3_termsAimedAt (l : Launch) (D : va_G) (A : Nat → Prop) (ad : Nat → Nat) (cA : Nat → ClassId) (rs : va_W) (tr : List (ClassId × FieldType)) (σ : S2) (x0 : Int32) (x1 : Int32) {res : Int32} (hf : fn_X3_termsAimedAt σ x0 x1 = some res) : Met l yX3_termsAimedAt (.code yX3_termsAimedAt cX3_termsAimedAt 3 (some .int) :: tb) rm_X3_termsAimedAt (va_Pc [.int x0, .int x1, .ref (ad 1)] (zN D vwCl (tyC cA tr) A (wC ad cA rs) nl σ)) (va_Qi (fun r' u' => r' = res ∧ u' = σ) (zB D vwCl (tyC cA tr) A (wC ad cA rs)) A) 0 0 A := by
  refine Met.ofW (cc := cX3_termsAimedAt) (maxL := 3) (ret := (some .int)) (by decide) rfl ?_
  intro p e s m args below meth c s₁ B hml hv
  obtain ⟨rfl, hB, hnw0⟩ := hv
  have htt : ∀ w ∈ tb, w.before (([.int x0, .int x1, .ref (ad 1)] : List Value).toArray) s = true := fun w h => atoms_spec (ws := (.code yX3_termsAimedAt cX3_termsAimedAt 3 (some .int) :: tb)) B.pre w (List.mem_cons_of_mem _ h)
  have C0 : cx p m meth c cX3_termsAimedAt (some .int) 3 s (([.int x0, .int x1, .ref (ad 1)] : List Value).toArray) tb nl RX3 := ⟨B.exec, B.bytes, B.returns, hml, findClass_of_methodNamed B.named, htt, B.notSynchronized, hnw0⟩
  obtain ⟨hx, hb, hr, hml, hown, htt, hlocks, hnw⟩ := id C0
  have hZ := z_start hB
  have hl := lv_entry ([.int x0, .int x1, .ref (ad 1)]) (n := 3) (Nat.le_of_ble_eq_true rfl)
  rw [lg_entry_eq]
  generalize (lg_sl ([.int x0, .int x1, .ref (ad 1)]) ++ List.replicate (3 - (lg_sl ([.int x0, .int x1, .ref (ad 1)])).length) Slot.unset).toArray = ls at hl ⊢
  have hl : lv_has ls 3 [(0, .int x0), (1, .int x1), (2, .ref (ad 1))] := hl
  unfold fn_X3_termsAimedAt at hf
  refine lv_iload_n hx hb dX3_termsAimedAt_0 rfl (lv_at hl 0 rfl) ?_
  by_cases c_1 : x0 = 0
  · have hf := ite_t c_1 hf
    refine lv_tableIn (tgt := 28) hx hb dX3_termsAimedAt_1 (by rw [c_1]; decide) (by rw [c_1]; decide) (by rw [c_1]; rfl) (by decide) ?_
    refine lv_iconst (v := 1) hx hb dX3_termsAimedAt_28 (by decide) ?_
    refine lv_iload_n hx hb dX3_termsAimedAt_29 rfl (lv_at hl 1 rfl) ?_
    refine lv_ishl hx hb dX3_termsAimedAt_30 ?_
    exact z_iret hx hb hr hlocks hZ (Option.some.inj hf) rfl dX3_termsAimedAt_31
  have hf := ite_f c_1 hf
  by_cases c_2 : x0 = 1
  · have hf := ite_t c_2 hf
    refine lv_tableIn (tgt := 32) hx hb dX3_termsAimedAt_1 (by rw [c_2]; decide) (by rw [c_2]; decide) (by rw [c_2]; rfl) (by decide) ?_
    refine lv_aload_n hx hb dX3_termsAimedAt_32 rfl (lv_at hl 2 rfl) ?_
    refine lv_iload_n hx hb dX3_termsAimedAt_33 rfl (lv_at hl 1 rfl) ?_
    obtain ⟨r4, k_3, hf⟩ := bn_s hf
    refine z_calli (z_runVN (As := [.int x1]) (rest := []) ⟨hx, hb, hml, hown, htt⟩ gT (ct_X1_ofClass l D A ad cA rs tr σ x1 k_3) md_X1_ofClass hnw lm_X3_29 rfl rfl ⟨Nat.le_of_ble_eq_true rfl, Nat.le_of_ble_eq_true rfl⟩ (z_preV gN hnw hZ rfl (q0 := 1) (ci := 1) rfl) rfl rfl hl.1 rfl (lv_room (Nat.le_of_ble_eq_true rfl)) dX3_termsAimedAt_34 ⟨Nat.le_of_ble_eq_true rfl, Nat.le_of_ble_eq_true rfl⟩) hZ (fun H locs hZ => ?_)
    exact z_iret hx hb hr hlocks hZ (Option.some.inj hf) rfl dX3_termsAimedAt_37
  have hf := ite_f c_2 hf
  by_cases c_5 : x0 = 2
  · have hf := ite_t c_5 hf
    refine lv_tableIn (tgt := 38) hx hb dX3_termsAimedAt_1 (by rw [c_5]; decide) (by rw [c_5]; decide) (by rw [c_5]; rfl) (by decide) ?_
    refine lv_aload_n hx hb dX3_termsAimedAt_38 rfl (lv_at hl 2 rfl) ?_
    refine lv_iconst (v := (-1)) hx hb dX3_termsAimedAt_39 (by decide) ?_
    refine lv_iload_n hx hb dX3_termsAimedAt_40 rfl (lv_at hl 1 rfl) ?_
    obtain ⟨r7, k_6, hf⟩ := bn_s hf
    refine z_calli (z_runVN (As := [.int (-1), .int x1]) (rest := []) ⟨hx, hb, hml, hown, htt⟩ gT (ct_X1_termsBackOfAny l D A ad cA rs tr σ (-1) x1 k_6) md_X1_termsBackOfAny hnw lm_X3_35 rfl rfl ⟨Nat.le_of_ble_eq_true rfl, Nat.le_of_ble_eq_true rfl⟩ (z_preV gN hnw hZ rfl (q0 := 1) (ci := 1) rfl) rfl rfl hl.1 rfl (lv_room (Nat.le_of_ble_eq_true rfl)) dX3_termsAimedAt_41 ⟨Nat.le_of_ble_eq_true rfl, Nat.le_of_ble_eq_true rfl⟩) hZ (fun H locs hZ => ?_)
    exact z_iret hx hb hr hlocks hZ (Option.some.inj hf) rfl dX3_termsAimedAt_44
  have hf := ite_f c_5 hf
  have nc_1 := lv_neT c_1 (show (0 : Int32).toInt = 0 from by decide)
  have nc_2 := lv_neT c_2 (show (1 : Int32).toInt = 1 from by decide)
  have nc_5 := lv_neT c_5 (show (2 : Int32).toInt = 2 from by decide)
  have h_10 : (x0).toInt < 0 ∨ 2 < (x0).toInt := by omega
  refine z_tdef (tgt := 45) hx hb dX3_termsAimedAt_1 (by
    rcases h_10 with h_10 | h_10
    · exact Or.inl h_10
    · exact Or.inr (Or.inl h_10)) (by decide) ?_
  refine lv_aload_n hx hb dX3_termsAimedAt_45 rfl (lv_at hl 2 rfl) ?_
  refine lv_iload_n hx hb dX3_termsAimedAt_46 rfl (lv_at hl 1 rfl) ?_
  obtain ⟨r9, k_8, hf⟩ := bn_s hf
  refine z_calli (z_runVN (As := [.int x1]) (rest := []) ⟨hx, hb, hml, hown, htt⟩ gT (ct_X1_termsLedTo l D A ad cA rs tr σ x1 k_8) md_X1_termsLedTo hnw lm_X3_39 rfl rfl ⟨Nat.le_of_ble_eq_true rfl, Nat.le_of_ble_eq_true rfl⟩ (z_preV gN hnw hZ rfl (q0 := 1) (ci := 1) rfl) rfl rfl hl.1 rfl (lv_room (Nat.le_of_ble_eq_true rfl)) dX3_termsAimedAt_47 ⟨Nat.le_of_ble_eq_true rfl, Nat.le_of_ble_eq_true rfl⟩) hZ (fun H locs hZ => ?_)
  exact z_iret hx hb hr hlocks hZ (Option.some.inj hf) rfl dX3_termsAimedAt_50
abbrev rm_X3_termsOf : Room := { frames := 3, cells := 0, slots := 0, locals := 70 }
def fn_X3_termsOf_5 : Nat → S2 → Int32 → Int32 → Int32 → Option (Int32)
  | 0, _, _, _, _ => none
  | n + 1, σ, x1, x3, x4 => if (σ.1 3 0) ≤ x4 then some x3 else ck x4 24 (if (σ.1 11 (x4).toNatClampNeg) = x1 then ck x4 24 (ck x4 24 (bn (fn_X3_termsAimedAt σ (σ.1 12 (x4).toNatClampNeg) (σ.1 13 (x4).toNatClampNeg)) (fun r8 => lt ((x3 ||| r8)) (fun v9 => lt (x4 + 1) (fun v10 => fn_X3_termsOf_5 n σ x1 v9 v10))))) else lt (x4 + 1) (fun v4 => fn_X3_termsOf_5 n σ x1 x3 v4))
def fn_X3_termsOf (σ : S2) (x1 : Int32) : Option (Int32) := fn_X3_termsOf_5 fu σ x1 0 0
set_option maxHeartbeats 4000000 in
set_option maxRecDepth 100000 in
theorem wk_X3_termsOf_5 {p : Program} {l : Launch} {e : Env} {s : State} {m : MethodId} {args : Array Value} {below : List Frame} {meth : Method} {c : Code} {D : va_G} {A : Nat → Prop} {ad : Nat → Nat} {cA : Nat → ClassId} {rs : va_W} {tr : List (ClassId × FieldType)} {σ : S2} {res : Int32} (C0 : cx p m meth c cX3_termsOf (some .int) 5 s args tb nl RX3) : ∀ (n : Nat) (x1 : Int32) (x3 : Int32) (x4 : Int32), ∀ (H : Heap) (locs : List Loc) (ls : Array Slot), zz D vwCl (tyC cA tr) A (wC ad cA rs) s s.heap H locs σ → lv_has ls 5 [(0, .ref (ad 3)), (1, .int x1), (2, .ref (ad 1)), (3, .int x3), (4, .int x4)] → fn_X3_termsOf_5 n σ x1 x3 x4 = some res → W p l e rm_X3_termsOf s m args below meth c H locs 0 0 (MQ below (va_Qi (fun r' u' => r' = res ∧ u' = σ) (zB D vwCl (tyC cA tr) A (wC ad cA rs)) A) args s 0 0 A) (F0 m 5 ls []) := by
  obtain ⟨hx, hb, hr, hml, hown, htt, hlocks, hnw⟩ := id C0
  intro n
  induction n with
  | zero => intro x1 x3 x4 H locs ls hZ hl hf; exact no_some hf
  | succ n ih =>
    intro x1 x3 x4 H locs ls hZ hl hf
    rw [fn_X3_termsOf_5] at hf
    refine lv_iload hx hb dX3_termsOf_5 (lv_at hl 4 rfl) ?_
    refine lv_aload_n hx hb dX3_termsOf_7 rfl (lv_at hl 0 rfl) ?_
    refine z_get hx hb htt iw_X3 hown hZ 3 rfl rfl 3 (by decide) lf_X3_21 rfl dX3_termsOf_8 ?_
    refine lv_icmp_ge (tgt := 52) hx hb dX3_termsOf_11 (by decide) (fun c_1 => ?_) (fun c_1 => ?_)
    · have hf := ite_t c_1 hf
      refine lv_iload_n hx hb dX3_termsOf_52 rfl (lv_at hl 3 rfl) ?_
      exact z_iret hx hb hr hlocks hZ (Option.some.inj hf) rfl dX3_termsOf_53
    · have hf := ite_f c_1 hf
      refine lv_aload_n hx hb dX3_termsOf_14 rfl (lv_at hl 0 rfl) ?_
      refine z_get hx hb htt iw_X3 hown hZ 3 rfl rfl 0 (by decide) lf_X3_9 rfl dX3_termsOf_15 ?_
      refine lv_iload hx hb dX3_termsOf_18 (lv_at hl 4 rfl) ?_
      obtain ⟨h_2, hf⟩ := ck_s hf
      refine z_ild hx hb hZ 11 5 rfl rfl h_2 dX3_termsOf_20 ?_
      refine lv_iload_n hx hb dX3_termsOf_21 rfl (lv_at hl 1 rfl) ?_
      refine lv_icmp_ne (tgt := 46) hx hb dX3_termsOf_22 (by decide) (fun c_3 => ?_) (fun c_3 => ?_)
      · have hf := ite_f c_3 hf
        obtain ⟨v4, e_v4⟩ : ∃ y : Int32, y = x4 + 1 := ⟨_, rfl⟩
        have hf := lt_n e_v4 hf
        refine lv_iinc (v := v4) (lv' := [(4, .int v4), (0, .ref (ad 3)), (1, .int x1), (2, .ref (ad 1)), (3, .int x3)]) hx hb dX3_termsOf_46 hl (k := 4) rfl (by rw [e_v4]; rfl) (by decide) rfl (fun ls hl => ?_)
        refine lv_goto (tgt := 5) hx hb dX3_termsOf_49 (by decide) ?_
        exact ih x1 x3 v4 _ _ _ hZ (lv_sub hl [1, 2, 3, 4, 0] rfl) hf
      · have hf := ite_t c_3 hf
        refine lv_iload_n hx hb dX3_termsOf_25 rfl (lv_at hl 3 rfl) ?_
        refine lv_aload_n hx hb dX3_termsOf_26 rfl (lv_at hl 0 rfl) ?_
        refine z_get hx hb htt iw_X3 hown hZ 3 rfl rfl 1 (by decide) lf_X3_15 rfl dX3_termsOf_27 ?_
        refine lv_iload hx hb dX3_termsOf_30 (lv_at hl 4 rfl) ?_
        obtain ⟨h_5, hf⟩ := ck_s hf
        refine z_ild hx hb hZ 12 6 rfl rfl h_5 dX3_termsOf_32 ?_
        refine lv_aload_n hx hb dX3_termsOf_33 rfl (lv_at hl 0 rfl) ?_
        refine z_get hx hb htt iw_X3 hown hZ 3 rfl rfl 2 (by decide) lf_X3_18 rfl dX3_termsOf_34 ?_
        refine lv_iload hx hb dX3_termsOf_37 (lv_at hl 4 rfl) ?_
        obtain ⟨h_6, hf⟩ := ck_s hf
        refine z_ild hx hb hZ 13 7 rfl rfl h_6 dX3_termsOf_39 ?_
        refine lv_aload_n hx hb dX3_termsOf_40 rfl (lv_at hl 2 rfl) ?_
        obtain ⟨r8, k_7, hf⟩ := bn_s hf
        refine z_calli (z_runS (As := [.int (σ.1 12 (x4).toNatClampNeg), .int (σ.1 13 (x4).toNatClampNeg), .ref (ad 1)]) (rest := [.int x3]) ⟨hx, hb, hml, hown, htt⟩ gT (ct_X3_termsAimedAt l D A ad cA rs tr σ (σ.1 12 (x4).toNatClampNeg) (σ.1 13 (x4).toNatClampNeg) k_7) md_X3_termsAimedAt lm_X3_25 rfl rfl ⟨Nat.le_of_ble_eq_true rfl, Nat.le_of_ble_eq_true rfl⟩ (z_preS gN hnw hZ) rfl rfl hl.1 rfl (lv_room (Nat.le_of_ble_eq_true rfl)) dX3_termsOf_41 ⟨Nat.le_of_ble_eq_true rfl, Nat.le_of_ble_eq_true rfl⟩) hZ (fun H locs hZ => ?_)
        refine lv_ior hx hb dX3_termsOf_44 ?_
        refine lv_topi (fun v9 e_v9 => ?_)
        have hf := lt_n e_v9 hf
        refine lv_istore_n (lv' := [(3, .int v9), (0, .ref (ad 3)), (1, .int x1), (2, .ref (ad 1)), (4, .int x4)]) hx hb dX3_termsOf_45 rfl hl (by decide) rfl (fun ls hl => ?_)
        obtain ⟨v10, e_v10⟩ : ∃ y : Int32, y = x4 + 1 := ⟨_, rfl⟩
        have hf := lt_n e_v10 hf
        refine lv_iinc (v := v10) (lv' := [(4, .int v10), (3, .int v9), (0, .ref (ad 3)), (1, .int x1), (2, .ref (ad 1))]) hx hb dX3_termsOf_46 hl (k := 4) rfl (by rw [e_v10]; rfl) (by decide) rfl (fun ls hl => ?_)
        refine lv_goto (tgt := 5) hx hb dX3_termsOf_49 (by decide) ?_
        exact ih x1 v9 v10 _ _ _ hZ (lv_sub hl [2, 3, 4, 1, 0] rfl) hf
set_option maxHeartbeats 4000000 in
set_option maxRecDepth 100000 in
theorem ct_X3_termsOf (l : Launch) (D : va_G) (A : Nat → Prop) (ad : Nat → Nat) (cA : Nat → ClassId) (rs : va_W) (tr : List (ClassId × FieldType)) (σ : S2) (x1 : Int32) {res : Int32} (hf : fn_X3_termsOf σ x1 = some res) : Met l yX3_termsOf (.code yX3_termsOf cX3_termsOf 5 (some .int) :: tb) rm_X3_termsOf (va_Pc [.ref (ad 3), .int x1, .ref (ad 1)] (zN D vwCl (tyC cA tr) A (wC ad cA rs) nl σ)) (va_Qi (fun r' u' => r' = res ∧ u' = σ) (zB D vwCl (tyC cA tr) A (wC ad cA rs)) A) 0 0 A := by
  refine Met.ofW (cc := cX3_termsOf) (maxL := 5) (ret := (some .int)) (by decide) rfl ?_
  intro p e s m args below meth c s₁ B hml hv
  obtain ⟨rfl, hB, hnw0⟩ := hv
  have htt : ∀ w ∈ tb, w.before (([.ref (ad 3), .int x1, .ref (ad 1)] : List Value).toArray) s = true := fun w h => atoms_spec (ws := (.code yX3_termsOf cX3_termsOf 5 (some .int) :: tb)) B.pre w (List.mem_cons_of_mem _ h)
  have C0 : cx p m meth c cX3_termsOf (some .int) 5 s (([.ref (ad 3), .int x1, .ref (ad 1)] : List Value).toArray) tb nl RX3 := ⟨B.exec, B.bytes, B.returns, hml, findClass_of_methodNamed B.named, htt, B.notSynchronized, hnw0⟩
  obtain ⟨hx, hb, hr, hml, hown, htt, hlocks, hnw⟩ := id C0
  have hZ := z_start hB
  have hl := lv_entry ([.ref (ad 3), .int x1, .ref (ad 1)]) (n := 5) (Nat.le_of_ble_eq_true rfl)
  rw [lg_entry_eq]
  generalize (lg_sl ([.ref (ad 3), .int x1, .ref (ad 1)]) ++ List.replicate (5 - (lg_sl ([.ref (ad 3), .int x1, .ref (ad 1)])).length) Slot.unset).toArray = ls at hl ⊢
  have hl : lv_has ls 5 [(0, .ref (ad 3)), (1, .int x1), (2, .ref (ad 1))] := hl
  unfold fn_X3_termsOf at hf
  refine lv_iconst (v := 0) hx hb dX3_termsOf_0 (by decide) ?_
  refine lv_istore_n (lv' := [(3, .int 0), (0, .ref (ad 3)), (1, .int x1), (2, .ref (ad 1))]) hx hb dX3_termsOf_1 rfl hl (by decide) rfl (fun ls hl => ?_)
  refine lv_iconst (v := 0) hx hb dX3_termsOf_2 (by decide) ?_
  refine lv_istore (lv' := [(4, .int 0), (3, .int 0), (0, .ref (ad 3)), (1, .int x1), (2, .ref (ad 1))]) hx hb dX3_termsOf_3 hl (by decide) rfl (fun ls hl => ?_)
  exact wk_X3_termsOf_5 C0  fu x1 0 0 _ _ _ hZ (lv_sub hl [2, 3, 4, 1, 0] rfl) hf
