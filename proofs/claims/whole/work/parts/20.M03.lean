abbrev rm_X6_isWrong : Room := { frames := 2, cells := 0, slots := 0, locals := 48 }
def fn_X6_isWrong (σ : S2) (x1 : Int32) (x2 : Int32) (x3 : Int32) : Option (Int32 × S2) := ck x1 40 (lt ((σ.1 9 (x1).toNatClampNeg)) (fun v2 => ck x1 40 (lt ((σ.1 10 (x1).toNatClampNeg)) (fun v4 => ck x1 40 (if (σ.1 8 (x1).toNatClampNeg) = 0 then bn2 (fn_X6_isOfClass σ x3 v2) (fun r9 σ8 => if r9 = 0 then some (1, σ8) else some (0, σ8)) else if (σ.1 8 (x1).toNatClampNeg) = 1 then if v2 = 0 then lt (fn_X6_isLiteral x3) (fun r18 => some (r18, σ)) else lt (fn_X6_isLiteral x3) (fun r13 => if r13 = 0 then some (1, σ) else if v2 ≤ 1 then some (0, σ) else lt (fn_X6_tagOf x3) (fun r16 => if r16 = (v2 - 2) then some (0, σ) else some (1, σ))) else if (σ.1 8 (x1).toNatClampNeg) = 3 then lt (fn_X6_isLiteral x3) (fun r20 => if r20 = 0 then some (1, σ) else lt (fn_X6_numberOf x3) (fun r22 => if r22 < v2 then some (1, σ) else lt (fn_X6_numberOf x3) (fun r24 => if r24 ≤ v4 then some (0, σ) else some (1, σ)))) else if (σ.1 8 (x1).toNatClampNeg) = 4 then if ((v2 >>> (x3 &&& 31)) &&& 1) = 0 then some (1, σ) else some (0, σ) else if (σ.1 8 (x1).toNatClampNeg) = 7 then bn (fn_X6_leads σ x2 v2 x3) (fun r30 => cb r30 (some (r30, σ))) else if (σ.1 8 (x1).toNatClampNeg) = 8 then lt (fn_X6_isLiteral x3) (fun r33 => if r33 = 0 then some (1, σ) else bn (fn_X6_isBelowAll σ x2 v2 x3) (fun r36 => if r36 = 0 then some (1, σ) else some (0, σ))) else if (σ.1 8 (x1).toNatClampNeg) = 11 then ck ((32 * v2) + x3) 384 (cb (σ.1 11 (((32 * v2) + x3)).toNatClampNeg) (some ((σ.1 11 (((32 * v2) + x3)).toNatClampNeg), σ))) else if (σ.1 8 (x1).toNatClampNeg) = 12 then ck ((32 * v2) + x3) 384 (if (σ.1 11 (((32 * v2) + x3)).toNatClampNeg) = 0 then some (1, σ) else ck ((32 * v4) + x3) 384 (if (σ.1 11 (((32 * v4) + x3)).toNatClampNeg) = 0 then some (1, σ) else some (0, σ))) else if (σ.1 8 (x1).toNatClampNeg) = 13 then ck ((32 * v2) + x3) 384 (if (σ.1 11 (((32 * v2) + x3)).toNatClampNeg) = 0 then ck ((32 * v4) + x3) 384 (if (σ.1 11 (((32 * v4) + x3)).toNatClampNeg) = 0 then some (1, σ) else some (0, σ)) else some (0, σ)) else if (σ.1 8 (x1).toNatClampNeg) = 14 then ck ((32 * v2) + x3) 384 (ck ((32 * v4) + x3) 384 (if (σ.1 11 (((32 * v2) + x3)).toNatClampNeg) = (σ.1 11 (((32 * v4) + x3)).toNatClampNeg) then some (1, σ) else some (0, σ))) else ck ((32 * v2) + x3) 384 (if (σ.1 11 (((32 * v2) + x3)).toNatClampNeg) = 0 then some (1, σ) else some (0, σ)))))))
set_option maxHeartbeats 4000000 in
set_option maxRecDepth 100000 in
theorem ct_X6_isWrong (l : Launch) (D : va_G) (A : Nat → Prop) (ad : Nat → Nat) (cA : Nat → ClassId) (rs : va_W) (tr : List (ClassId × FieldType)) (σ : S2) (x1 : Int32) (x2 : Int32) (x3 : Int32) {res : Int32 × S2} (hf : fn_X6_isWrong σ x1 x2 x3 = some res) : Met l yX6_isWrong (.code yX6_isWrong cX6_isWrong 6 (some .boolean) :: tb) rm_X6_isWrong (va_Pc [.ref (ad 0), .int x1, .int x2, .int x3] (zN D vwCl (tyM cA tr) A (wM ad cA rs) nl σ)) (va_Qi (fun r' u' => r' = res.1 ∧ u' = res.2) (zB D vwCl (tyM cA tr) A (wM ad cA rs)) A) 0 0 A := by
  refine Met.ofW (cc := cX6_isWrong) (maxL := 6) (ret := (some .boolean)) (by decide) rfl ?_
  intro p e s m args below meth c s₁ B hml hv
  obtain ⟨rfl, hB, hnw0⟩ := hv
  have htt : ∀ w ∈ tb, w.before (([.ref (ad 0), .int x1, .int x2, .int x3] : List Value).toArray) s = true := fun w h => atoms_spec (ws := (.code yX6_isWrong cX6_isWrong 6 (some .boolean) :: tb)) B.pre w (List.mem_cons_of_mem _ h)
  have C0 : cx p m meth c cX6_isWrong (some .boolean) 6 s (([.ref (ad 0), .int x1, .int x2, .int x3] : List Value).toArray) tb nl RX6 := ⟨B.exec, B.bytes, B.returns, hml, findClass_of_methodNamed B.named, htt, B.notSynchronized, hnw0⟩
  obtain ⟨hx, hb, hr, hml, hown, htt, hlocks, hnw⟩ := id C0
  have hZ := z_start hB
  have hl := lv_entry ([.ref (ad 0), .int x1, .int x2, .int x3]) (n := 6) (Nat.le_of_ble_eq_true rfl)
  rw [lg_entry_eq]
  generalize (lg_sl ([.ref (ad 0), .int x1, .int x2, .int x3]) ++ List.replicate (6 - (lg_sl ([.ref (ad 0), .int x1, .int x2, .int x3])).length) Slot.unset).toArray = ls at hl ⊢
  have hl : lv_has ls 6 [(0, .ref (ad 0)), (1, .int x1), (2, .int x2), (3, .int x3)] := hl
  unfold fn_X6_isWrong at hf
  refine lv_aload_n hx hb dX6_isWrong_0 rfl (lv_at hl 0 rfl) ?_
  refine z_get hx hb htt iw_X6 hown hZ 0 rfl rfl 12 (by decide) lf_X6_35 rfl dX6_isWrong_1 ?_
  refine lv_iload_n hx hb dX6_isWrong_4 rfl (lv_at hl 1 rfl) ?_
  obtain ⟨h_1, hf⟩ := ck_s hf
  refine z_ild hx hb hZ 9 8 rfl rfl h_1 dX6_isWrong_5 ?_
  refine lv_topi (fun v2 e_v2 => ?_)
  have hf := lt_n e_v2 hf
  refine lv_istore (lv' := [(4, .int v2), (0, .ref (ad 0)), (1, .int x1), (2, .int x2), (3, .int x3)]) hx hb dX6_isWrong_6 hl (by decide) rfl (fun ls hl => ?_)
  refine lv_aload_n hx hb dX6_isWrong_8 rfl (lv_at hl 1 rfl) ?_
  refine z_get hx hb htt iw_X6 hown hZ 0 rfl rfl 13 (by decide) lf_X6_38 rfl dX6_isWrong_9 ?_
  refine lv_iload_n hx hb dX6_isWrong_12 rfl (lv_at hl 2 rfl) ?_
  obtain ⟨h_3, hf⟩ := ck_s hf
  refine z_ild hx hb hZ 10 9 rfl rfl h_3 dX6_isWrong_13 ?_
  refine lv_topi (fun v4 e_v4 => ?_)
  have hf := lt_n e_v4 hf
  refine lv_istore (lv' := [(5, .int v4), (4, .int v2), (0, .ref (ad 0)), (1, .int x1), (2, .int x2), (3, .int x3)]) hx hb dX6_isWrong_14 hl (by decide) rfl (fun ls hl => ?_)
  refine lv_aload_n hx hb dX6_isWrong_16 rfl (lv_at hl 2 rfl) ?_
  refine z_get hx hb htt iw_X6 hown hZ 0 rfl rfl 11 (by decide) lf_X6_32 rfl dX6_isWrong_17 ?_
  refine lv_iload_n hx hb dX6_isWrong_20 rfl (lv_at hl 3 rfl) ?_
  obtain ⟨h_5, hf⟩ := ck_s hf
  refine z_ild hx hb hZ 8 7 rfl rfl h_5 dX6_isWrong_21 ?_
  by_cases c_6 : (σ.1 8 (x1).toNatClampNeg) = 0
  · have hf := ite_t c_6 hf
    refine lv_tableIn (tgt := 96) hx hb dX6_isWrong_22 (by rw [c_6]; decide) (by rw [c_6]; decide) (by rw [c_6]; rfl) (by decide) ?_
    refine lv_aload_n hx hb dX6_isWrong_96 rfl (lv_at hl 2 rfl) ?_
    refine lv_iload_n hx hb dX6_isWrong_97 rfl (lv_at hl 5 rfl) ?_
    refine lv_iload hx hb dX6_isWrong_98 (lv_at hl 1 rfl) ?_
    obtain ⟨r9, σ8, k_7, hf⟩ := bn2_s hf
    refine z_calli (r := r9) (u := σ8) (z_runV (As := [.int x3, .int v2]) (rest := []) ⟨hx, hb, hml, hown, htt⟩ gT (ct_X6_isOfClass l D A ad cA rs tr σ x3 v2 k_7) md_X6_isOfClass lm_X6_106 rfl rfl ⟨Nat.le_of_ble_eq_true rfl, Nat.le_of_ble_eq_true rfl⟩ (z_preV gN hnw hZ rfl (q0 := 0) (ci := 6) rfl) rfl rfl hl.1 rfl (lv_room (Nat.le_of_ble_eq_true rfl)) dX6_isWrong_100 ⟨Nat.le_of_ble_eq_true rfl, Nat.le_of_ble_eq_true rfl⟩) hZ (fun H locs hZ => ?_)
    refine lv_if_ne (tgt := 110) hx hb dX6_isWrong_103 (by decide) (fun c_10 => ?_) (fun c_10 => ?_)
    · have hf := ite_f c_10 hf
      refine lv_iconst (v := 0) hx hb dX6_isWrong_110 (by decide) ?_
      exact z_zret hx hb hr hlocks hZ rfl (sp_1 hf) (sp_2 hf) dX6_isWrong_111
    · have hf := ite_t c_10 hf
      refine lv_iconst (v := 1) hx hb dX6_isWrong_106 (by decide) ?_
      refine lv_goto (tgt := 111) hx hb dX6_isWrong_107 (by decide) ?_
      exact z_zret hx hb hr hlocks hZ rfl (sp_1 hf) (sp_2 hf) dX6_isWrong_111
  have hf := ite_f c_6 hf
  by_cases c_11 : (σ.1 8 (x1).toNatClampNeg) = 1
  · have hf := ite_t c_11 hf
    refine lv_tableIn (tgt := 112) hx hb dX6_isWrong_22 (by rw [c_11]; decide) (by rw [c_11]; decide) (by rw [c_11]; rfl) (by decide) ?_
    refine lv_iload hx hb dX6_isWrong_112 (lv_at hl 1 rfl) ?_
    refine lv_if_ne (tgt := 124) hx hb dX6_isWrong_114 (by decide) (fun c_12 => ?_) (fun c_12 => ?_)
    · have hf := ite_f c_12 hf
      refine lv_iload_n hx hb dX6_isWrong_124 rfl (lv_at hl 5 rfl) ?_
      refine z_pcalli (z_runS (As := [.int x3]) (rest := []) ⟨hx, hb, hml, hown, htt⟩ gT (ct_X6_isLiteral l x3 rfl) md_X6_isLiteral lm_X6_109 rfl rfl ⟨Nat.le_of_ble_eq_true rfl, Nat.le_of_ble_eq_true rfl⟩ z_preP rfl rfl hl.1 rfl (lv_room (Nat.le_of_ble_eq_true rfl)) dX6_isWrong_125 ⟨Nat.le_of_ble_eq_true rfl, Nat.le_of_ble_eq_true rfl⟩) ?_
      refine lv_topi (fun r13 e_r13 => ?_)
      have hf := lt_n e_r13 hf
      refine lv_if_eq (tgt := 148) hx hb dX6_isWrong_128 (by decide) (fun c_14 => ?_) (fun c_14 => ?_)
      · have hf := ite_t c_14 hf
        refine lv_iconst (v := 1) hx hb dX6_isWrong_148 (by decide) ?_
        refine lv_goto (tgt := 153) hx hb dX6_isWrong_149 (by decide) ?_
        exact z_zret hx hb hr hlocks hZ rfl (sp_1 hf) (sp_2 hf) dX6_isWrong_153
      · have hf := ite_f c_14 hf
        refine lv_iload hx hb dX6_isWrong_131 (lv_at hl 1 rfl) ?_
        refine lv_iconst (v := 1) hx hb dX6_isWrong_133 (by decide) ?_
        refine lv_icmp_le (tgt := 152) hx hb dX6_isWrong_134 (by decide) (fun c_15 => ?_) (fun c_15 => ?_)
        · have hf := ite_t c_15 hf
          refine lv_iconst (v := 0) hx hb dX6_isWrong_152 (by decide) ?_
          exact z_zret hx hb hr hlocks hZ rfl (sp_1 hf) (sp_2 hf) dX6_isWrong_153
        · have hf := ite_f c_15 hf
          refine lv_iload_n hx hb dX6_isWrong_137 rfl (lv_at hl 5 rfl) ?_
          refine z_pcalli (z_runS (As := [.int x3]) (rest := []) ⟨hx, hb, hml, hown, htt⟩ gT (ct_X6_tagOf l x3 rfl) md_X6_tagOf lm_X6_112 rfl rfl ⟨Nat.le_of_ble_eq_true rfl, Nat.le_of_ble_eq_true rfl⟩ z_preP rfl rfl hl.1 rfl (lv_room (Nat.le_of_ble_eq_true rfl)) dX6_isWrong_138 ⟨Nat.le_of_ble_eq_true rfl, Nat.le_of_ble_eq_true rfl⟩) ?_
          refine lv_topi (fun r16 e_r16 => ?_)
          have hf := lt_n e_r16 hf
          refine lv_iload hx hb dX6_isWrong_141 (lv_at hl 1 rfl) ?_
          refine lv_iconst (v := 2) hx hb dX6_isWrong_143 (by decide) ?_
          refine lv_isub hx hb dX6_isWrong_144 ?_
          refine lv_icmp_eq (tgt := 152) hx hb dX6_isWrong_145 (by decide) (fun c_17 => ?_) (fun c_17 => ?_)
          · have hf := ite_t c_17 hf
            refine lv_iconst (v := 0) hx hb dX6_isWrong_152 (by decide) ?_
            exact z_zret hx hb hr hlocks hZ rfl (sp_1 hf) (sp_2 hf) dX6_isWrong_153
          · have hf := ite_f c_17 hf
            refine lv_iconst (v := 1) hx hb dX6_isWrong_148 (by decide) ?_
            refine lv_goto (tgt := 153) hx hb dX6_isWrong_149 (by decide) ?_
            exact z_zret hx hb hr hlocks hZ rfl (sp_1 hf) (sp_2 hf) dX6_isWrong_153
    · have hf := ite_t c_12 hf
      refine lv_iload_n hx hb dX6_isWrong_117 rfl (lv_at hl 5 rfl) ?_
      refine z_pcalli (z_runS (As := [.int x3]) (rest := []) ⟨hx, hb, hml, hown, htt⟩ gT (ct_X6_isLiteral l x3 rfl) md_X6_isLiteral lm_X6_109 rfl rfl ⟨Nat.le_of_ble_eq_true rfl, Nat.le_of_ble_eq_true rfl⟩ z_preP rfl rfl hl.1 rfl (lv_room (Nat.le_of_ble_eq_true rfl)) dX6_isWrong_118 ⟨Nat.le_of_ble_eq_true rfl, Nat.le_of_ble_eq_true rfl⟩) ?_
      refine lv_topi (fun r18 e_r18 => ?_)
      have hf := lt_n e_r18 hf
      refine lv_goto (tgt := 153) hx hb dX6_isWrong_121 (by decide) ?_
      exact z_zret hx hb hr hlocks hZ (bo_X6_isLiteral e_r18) (sp_1 hf) (sp_2 hf) dX6_isWrong_153
  have hf := ite_f c_11 hf
  by_cases c_19 : (σ.1 8 (x1).toNatClampNeg) = 3
  · have hf := ite_t c_19 hf
    refine lv_tableIn (tgt := 154) hx hb dX6_isWrong_22 (by rw [c_19]; decide) (by rw [c_19]; decide) (by rw [c_19]; rfl) (by decide) ?_
    refine lv_iload_n hx hb dX6_isWrong_154 rfl (lv_at hl 5 rfl) ?_
    refine z_pcalli (z_runS (As := [.int x3]) (rest := []) ⟨hx, hb, hml, hown, htt⟩ gT (ct_X6_isLiteral l x3 rfl) md_X6_isLiteral lm_X6_109 rfl rfl ⟨Nat.le_of_ble_eq_true rfl, Nat.le_of_ble_eq_true rfl⟩ z_preP rfl rfl hl.1 rfl (lv_room (Nat.le_of_ble_eq_true rfl)) dX6_isWrong_155 ⟨Nat.le_of_ble_eq_true rfl, Nat.le_of_ble_eq_true rfl⟩) ?_
    refine lv_topi (fun r20 e_r20 => ?_)
    have hf := lt_n e_r20 hf
    refine lv_if_eq (tgt := 179) hx hb dX6_isWrong_158 (by decide) (fun c_21 => ?_) (fun c_21 => ?_)
    · have hf := ite_t c_21 hf
      refine lv_iconst (v := 1) hx hb dX6_isWrong_179 (by decide) ?_
      refine lv_goto (tgt := 184) hx hb dX6_isWrong_180 (by decide) ?_
      exact z_zret hx hb hr hlocks hZ rfl (sp_1 hf) (sp_2 hf) dX6_isWrong_184
    · have hf := ite_f c_21 hf
      refine lv_iload_n hx hb dX6_isWrong_161 rfl (lv_at hl 5 rfl) ?_
      refine z_pcalli (z_runS (As := [.int x3]) (rest := []) ⟨hx, hb, hml, hown, htt⟩ gT (ct_X6_numberOf l x3 rfl) md_X6_numberOf lm_X6_116 rfl rfl ⟨Nat.le_of_ble_eq_true rfl, Nat.le_of_ble_eq_true rfl⟩ z_preP rfl rfl hl.1 rfl (lv_room (Nat.le_of_ble_eq_true rfl)) dX6_isWrong_162 ⟨Nat.le_of_ble_eq_true rfl, Nat.le_of_ble_eq_true rfl⟩) ?_
      refine lv_topi (fun r22 e_r22 => ?_)
      have hf := lt_n e_r22 hf
      refine lv_iload hx hb dX6_isWrong_165 (lv_at hl 1 rfl) ?_
      refine lv_icmp_lt (tgt := 179) hx hb dX6_isWrong_167 (by decide) (fun c_23 => ?_) (fun c_23 => ?_)
      · have hf := ite_t c_23 hf
        refine lv_iconst (v := 1) hx hb dX6_isWrong_179 (by decide) ?_
        refine lv_goto (tgt := 184) hx hb dX6_isWrong_180 (by decide) ?_
        exact z_zret hx hb hr hlocks hZ rfl (sp_1 hf) (sp_2 hf) dX6_isWrong_184
      · have hf := ite_f c_23 hf
        refine lv_iload_n hx hb dX6_isWrong_170 rfl (lv_at hl 5 rfl) ?_
        refine z_pcalli (z_runS (As := [.int x3]) (rest := []) ⟨hx, hb, hml, hown, htt⟩ gT (ct_X6_numberOf l x3 rfl) md_X6_numberOf lm_X6_116 rfl rfl ⟨Nat.le_of_ble_eq_true rfl, Nat.le_of_ble_eq_true rfl⟩ z_preP rfl rfl hl.1 rfl (lv_room (Nat.le_of_ble_eq_true rfl)) dX6_isWrong_171 ⟨Nat.le_of_ble_eq_true rfl, Nat.le_of_ble_eq_true rfl⟩) ?_
        refine lv_topi (fun r24 e_r24 => ?_)
        have hf := lt_n e_r24 hf
        refine lv_iload hx hb dX6_isWrong_174 (lv_at hl 0 rfl) ?_
        refine lv_icmp_le (tgt := 183) hx hb dX6_isWrong_176 (by decide) (fun c_25 => ?_) (fun c_25 => ?_)
        · have hf := ite_t c_25 hf
          refine lv_iconst (v := 0) hx hb dX6_isWrong_183 (by decide) ?_
          exact z_zret hx hb hr hlocks hZ rfl (sp_1 hf) (sp_2 hf) dX6_isWrong_184
        · have hf := ite_f c_25 hf
          refine lv_iconst (v := 1) hx hb dX6_isWrong_179 (by decide) ?_
          refine lv_goto (tgt := 184) hx hb dX6_isWrong_180 (by decide) ?_
          exact z_zret hx hb hr hlocks hZ rfl (sp_1 hf) (sp_2 hf) dX6_isWrong_184
  have hf := ite_f c_19 hf
  by_cases c_26 : (σ.1 8 (x1).toNatClampNeg) = 4
  · have hf := ite_t c_26 hf
    refine lv_tableIn (tgt := 185) hx hb dX6_isWrong_22 (by rw [c_26]; decide) (by rw [c_26]; decide) (by rw [c_26]; rfl) (by decide) ?_
    refine lv_iload hx hb dX6_isWrong_185 (lv_at hl 1 rfl) ?_
    refine lv_iload_n hx hb dX6_isWrong_187 rfl (lv_at hl 5 rfl) ?_
    refine lv_ishr hx hb dX6_isWrong_188 ?_
    refine lv_iconst (v := 1) hx hb dX6_isWrong_189 (by decide) ?_
    refine lv_iand hx hb dX6_isWrong_190 ?_
    refine lv_if_ne (tgt := 198) hx hb dX6_isWrong_191 (by decide) (fun c_27 => ?_) (fun c_27 => ?_)
    · have hf := ite_f c_27 hf
      refine lv_iconst (v := 0) hx hb dX6_isWrong_198 (by decide) ?_
      exact z_zret hx hb hr hlocks hZ rfl (sp_1 hf) (sp_2 hf) dX6_isWrong_199
    · have hf := ite_t c_27 hf
      refine lv_iconst (v := 1) hx hb dX6_isWrong_194 (by decide) ?_
      refine lv_goto (tgt := 199) hx hb dX6_isWrong_195 (by decide) ?_
      exact z_zret hx hb hr hlocks hZ rfl (sp_1 hf) (sp_2 hf) dX6_isWrong_199
  have hf := ite_f c_26 hf
  by_cases c_28 : (σ.1 8 (x1).toNatClampNeg) = 7
  · have hf := ite_t c_28 hf
    refine lv_tableIn (tgt := 200) hx hb dX6_isWrong_22 (by rw [c_28]; decide) (by rw [c_28]; decide) (by rw [c_28]; rfl) (by decide) ?_
    refine lv_aload_n hx hb dX6_isWrong_200 rfl (lv_at hl 2 rfl) ?_
    refine lv_iload_n hx hb dX6_isWrong_201 rfl (lv_at hl 4 rfl) ?_
    refine lv_iload hx hb dX6_isWrong_202 (lv_at hl 1 rfl) ?_
    refine lv_iload_n hx hb dX6_isWrong_204 rfl (lv_at hl 5 rfl) ?_
    obtain ⟨r30, k_29, hf⟩ := bn_s hf
    refine z_calli (z_runV (As := [.int x2, .int v2, .int x3]) (rest := []) ⟨hx, hb, hml, hown, htt⟩ gT (ct_X6_leads l D A ad cA rs tr σ x2 v2 x3 k_29) md_X6_leads lm_X6_77 rfl rfl ⟨Nat.le_of_ble_eq_true rfl, Nat.le_of_ble_eq_true rfl⟩ (z_preV gN hnw hZ rfl (q0 := 0) (ci := 6) rfl) rfl rfl hl.1 rfl (lv_room (Nat.le_of_ble_eq_true rfl)) dX6_isWrong_205 ⟨Nat.le_of_ble_eq_true rfl, Nat.le_of_ble_eq_true rfl⟩) hZ (fun H locs hZ => ?_)
    obtain ⟨h_31, hf⟩ := cb_s hf
    exact z_zret hx hb hr hlocks hZ h_31 (sp_1 hf) (sp_2 hf) dX6_isWrong_208
  have hf := ite_f c_28 hf
  by_cases c_32 : (σ.1 8 (x1).toNatClampNeg) = 8
  · have hf := ite_t c_32 hf
    refine lv_tableIn (tgt := 209) hx hb dX6_isWrong_22 (by rw [c_32]; decide) (by rw [c_32]; decide) (by rw [c_32]; rfl) (by decide) ?_
    refine lv_iload_n hx hb dX6_isWrong_209 rfl (lv_at hl 5 rfl) ?_
    refine z_pcalli (z_runS (As := [.int x3]) (rest := []) ⟨hx, hb, hml, hown, htt⟩ gT (ct_X6_isLiteral l x3 rfl) md_X6_isLiteral lm_X6_109 rfl rfl ⟨Nat.le_of_ble_eq_true rfl, Nat.le_of_ble_eq_true rfl⟩ z_preP rfl rfl hl.1 rfl (lv_room (Nat.le_of_ble_eq_true rfl)) dX6_isWrong_210 ⟨Nat.le_of_ble_eq_true rfl, Nat.le_of_ble_eq_true rfl⟩) ?_
    refine lv_topi (fun r33 e_r33 => ?_)
    have hf := lt_n e_r33 hf
    refine lv_if_eq (tgt := 227) hx hb dX6_isWrong_213 (by decide) (fun c_34 => ?_) (fun c_34 => ?_)
    · have hf := ite_t c_34 hf
      refine lv_iconst (v := 1) hx hb dX6_isWrong_227 (by decide) ?_
      refine lv_goto (tgt := 232) hx hb dX6_isWrong_228 (by decide) ?_
      exact z_zret hx hb hr hlocks hZ rfl (sp_1 hf) (sp_2 hf) dX6_isWrong_232
    · have hf := ite_f c_34 hf
      refine lv_aload_n hx hb dX6_isWrong_216 rfl (lv_at hl 2 rfl) ?_
      refine lv_iload_n hx hb dX6_isWrong_217 rfl (lv_at hl 4 rfl) ?_
      refine lv_iload hx hb dX6_isWrong_218 (lv_at hl 1 rfl) ?_
      refine lv_iload_n hx hb dX6_isWrong_220 rfl (lv_at hl 5 rfl) ?_
      obtain ⟨r36, k_35, hf⟩ := bn_s hf
      refine z_calli (z_runV (As := [.int x2, .int v2, .int x3]) (rest := []) ⟨hx, hb, hml, hown, htt⟩ gT (ct_X6_isBelowAll l D A ad cA rs tr σ x2 v2 x3 k_35) md_X6_isBelowAll lm_X6_119 rfl rfl ⟨Nat.le_of_ble_eq_true rfl, Nat.le_of_ble_eq_true rfl⟩ (z_preV gN hnw hZ rfl (q0 := 0) (ci := 6) rfl) rfl rfl hl.1 rfl (lv_room (Nat.le_of_ble_eq_true rfl)) dX6_isWrong_221 ⟨Nat.le_of_ble_eq_true rfl, Nat.le_of_ble_eq_true rfl⟩) hZ (fun H locs hZ => ?_)
      refine lv_if_ne (tgt := 231) hx hb dX6_isWrong_224 (by decide) (fun c_37 => ?_) (fun c_37 => ?_)
      · have hf := ite_f c_37 hf
        refine lv_iconst (v := 0) hx hb dX6_isWrong_231 (by decide) ?_
        exact z_zret hx hb hr hlocks hZ rfl (sp_1 hf) (sp_2 hf) dX6_isWrong_232
      · have hf := ite_t c_37 hf
        refine lv_iconst (v := 1) hx hb dX6_isWrong_227 (by decide) ?_
        refine lv_goto (tgt := 232) hx hb dX6_isWrong_228 (by decide) ?_
        exact z_zret hx hb hr hlocks hZ rfl (sp_1 hf) (sp_2 hf) dX6_isWrong_232
  have hf := ite_f c_32 hf
  by_cases c_38 : (σ.1 8 (x1).toNatClampNeg) = 11
  · have hf := ite_t c_38 hf
    refine lv_tableIn (tgt := 233) hx hb dX6_isWrong_22 (by rw [c_38]; decide) (by rw [c_38]; decide) (by rw [c_38]; rfl) (by decide) ?_
    refine lv_aload_n hx hb dX6_isWrong_233 rfl (lv_at hl 2 rfl) ?_
    refine z_get hx hb htt iw_X6 hown hZ 0 rfl rfl 14 (by decide) lf_X6_41 rfl dX6_isWrong_234 ?_
    refine lv_bipush (v := 32) hx hb dX6_isWrong_237 (by decide) ?_
    refine lv_iload hx hb dX6_isWrong_239 (lv_at hl 1 rfl) ?_
    refine lv_imul hx hb dX6_isWrong_241 ?_
    refine lv_iload_n hx hb dX6_isWrong_242 rfl (lv_at hl 5 rfl) ?_
    refine lv_iadd hx hb dX6_isWrong_243 ?_
    obtain ⟨h_39, hf⟩ := ck_s hf
    refine z_zld hx hb hZ 11 10 rfl rfl h_39 dX6_isWrong_244 ?_
    obtain ⟨h_40, hf⟩ := cb_s hf
    exact z_zret hx hb hr hlocks hZ h_40 (sp_1 hf) (sp_2 hf) dX6_isWrong_245
  have hf := ite_f c_38 hf
  by_cases c_41 : (σ.1 8 (x1).toNatClampNeg) = 12
  · have hf := ite_t c_41 hf
    refine lv_tableIn (tgt := 246) hx hb dX6_isWrong_22 (by rw [c_41]; decide) (by rw [c_41]; decide) (by rw [c_41]; rfl) (by decide) ?_
    refine lv_aload_n hx hb dX6_isWrong_246 rfl (lv_at hl 2 rfl) ?_
    refine z_get hx hb htt iw_X6 hown hZ 0 rfl rfl 14 (by decide) lf_X6_41 rfl dX6_isWrong_247 ?_
    refine lv_bipush (v := 32) hx hb dX6_isWrong_250 (by decide) ?_
    refine lv_iload hx hb dX6_isWrong_252 (lv_at hl 1 rfl) ?_
    refine lv_imul hx hb dX6_isWrong_254 ?_
    refine lv_iload_n hx hb dX6_isWrong_255 rfl (lv_at hl 5 rfl) ?_
    refine lv_iadd hx hb dX6_isWrong_256 ?_
    obtain ⟨h_42, hf⟩ := ck_s hf
    refine z_zld hx hb hZ 11 10 rfl rfl h_42 dX6_isWrong_257 ?_
    refine lv_if_eq (tgt := 276) hx hb dX6_isWrong_258 (by decide) (fun c_43 => ?_) (fun c_43 => ?_)
    · have hf := ite_t c_43 hf
      refine lv_iconst (v := 1) hx hb dX6_isWrong_276 (by decide) ?_
      refine lv_goto (tgt := 281) hx hb dX6_isWrong_277 (by decide) ?_
      exact z_zret hx hb hr hlocks hZ rfl (sp_1 hf) (sp_2 hf) dX6_isWrong_281
    · have hf := ite_f c_43 hf
      refine lv_aload_n hx hb dX6_isWrong_261 rfl (lv_at hl 2 rfl) ?_
      refine z_get hx hb htt iw_X6 hown hZ 0 rfl rfl 14 (by decide) lf_X6_41 rfl dX6_isWrong_262 ?_
      refine lv_bipush (v := 32) hx hb dX6_isWrong_265 (by decide) ?_
      refine lv_iload hx hb dX6_isWrong_267 (lv_at hl 0 rfl) ?_
      refine lv_imul hx hb dX6_isWrong_269 ?_
      refine lv_iload_n hx hb dX6_isWrong_270 rfl (lv_at hl 5 rfl) ?_
      refine lv_iadd hx hb dX6_isWrong_271 ?_
      obtain ⟨h_44, hf⟩ := ck_s hf
      refine z_zld hx hb hZ 11 10 rfl rfl h_44 dX6_isWrong_272 ?_
      refine lv_if_ne (tgt := 280) hx hb dX6_isWrong_273 (by decide) (fun c_45 => ?_) (fun c_45 => ?_)
      · have hf := ite_f c_45 hf
        refine lv_iconst (v := 0) hx hb dX6_isWrong_280 (by decide) ?_
        exact z_zret hx hb hr hlocks hZ rfl (sp_1 hf) (sp_2 hf) dX6_isWrong_281
      · have hf := ite_t c_45 hf
        refine lv_iconst (v := 1) hx hb dX6_isWrong_276 (by decide) ?_
        refine lv_goto (tgt := 281) hx hb dX6_isWrong_277 (by decide) ?_
        exact z_zret hx hb hr hlocks hZ rfl (sp_1 hf) (sp_2 hf) dX6_isWrong_281
  have hf := ite_f c_41 hf
  by_cases c_46 : (σ.1 8 (x1).toNatClampNeg) = 13
  · have hf := ite_t c_46 hf
    refine lv_tableIn (tgt := 282) hx hb dX6_isWrong_22 (by rw [c_46]; decide) (by rw [c_46]; decide) (by rw [c_46]; rfl) (by decide) ?_
    refine lv_aload_n hx hb dX6_isWrong_282 rfl (lv_at hl 2 rfl) ?_
    refine z_get hx hb htt iw_X6 hown hZ 0 rfl rfl 14 (by decide) lf_X6_41 rfl dX6_isWrong_283 ?_
    refine lv_bipush (v := 32) hx hb dX6_isWrong_286 (by decide) ?_
    refine lv_iload hx hb dX6_isWrong_288 (lv_at hl 1 rfl) ?_
    refine lv_imul hx hb dX6_isWrong_290 ?_
    refine lv_iload_n hx hb dX6_isWrong_291 rfl (lv_at hl 5 rfl) ?_
    refine lv_iadd hx hb dX6_isWrong_292 ?_
    obtain ⟨h_47, hf⟩ := ck_s hf
    refine z_zld hx hb hZ 11 10 rfl rfl h_47 dX6_isWrong_293 ?_
    refine lv_if_ne (tgt := 316) hx hb dX6_isWrong_294 (by decide) (fun c_48 => ?_) (fun c_48 => ?_)
    · have hf := ite_f c_48 hf
      refine lv_iconst (v := 0) hx hb dX6_isWrong_316 (by decide) ?_
      exact z_zret hx hb hr hlocks hZ rfl (sp_1 hf) (sp_2 hf) dX6_isWrong_317
    · have hf := ite_t c_48 hf
      refine lv_aload_n hx hb dX6_isWrong_297 rfl (lv_at hl 2 rfl) ?_
      refine z_get hx hb htt iw_X6 hown hZ 0 rfl rfl 14 (by decide) lf_X6_41 rfl dX6_isWrong_298 ?_
      refine lv_bipush (v := 32) hx hb dX6_isWrong_301 (by decide) ?_
      refine lv_iload hx hb dX6_isWrong_303 (lv_at hl 0 rfl) ?_
      refine lv_imul hx hb dX6_isWrong_305 ?_
      refine lv_iload_n hx hb dX6_isWrong_306 rfl (lv_at hl 5 rfl) ?_
      refine lv_iadd hx hb dX6_isWrong_307 ?_
      obtain ⟨h_49, hf⟩ := ck_s hf
      refine z_zld hx hb hZ 11 10 rfl rfl h_49 dX6_isWrong_308 ?_
      refine lv_if_ne (tgt := 316) hx hb dX6_isWrong_309 (by decide) (fun c_50 => ?_) (fun c_50 => ?_)
      · have hf := ite_f c_50 hf
        refine lv_iconst (v := 0) hx hb dX6_isWrong_316 (by decide) ?_
        exact z_zret hx hb hr hlocks hZ rfl (sp_1 hf) (sp_2 hf) dX6_isWrong_317
      · have hf := ite_t c_50 hf
        refine lv_iconst (v := 1) hx hb dX6_isWrong_312 (by decide) ?_
        refine lv_goto (tgt := 317) hx hb dX6_isWrong_313 (by decide) ?_
        exact z_zret hx hb hr hlocks hZ rfl (sp_1 hf) (sp_2 hf) dX6_isWrong_317
  have hf := ite_f c_46 hf
  by_cases c_51 : (σ.1 8 (x1).toNatClampNeg) = 14
  · have hf := ite_t c_51 hf
    refine lv_tableIn (tgt := 318) hx hb dX6_isWrong_22 (by rw [c_51]; decide) (by rw [c_51]; decide) (by rw [c_51]; rfl) (by decide) ?_
    refine lv_aload_n hx hb dX6_isWrong_318 rfl (lv_at hl 2 rfl) ?_
    refine z_get hx hb htt iw_X6 hown hZ 0 rfl rfl 14 (by decide) lf_X6_41 rfl dX6_isWrong_319 ?_
    refine lv_bipush (v := 32) hx hb dX6_isWrong_322 (by decide) ?_
    refine lv_iload hx hb dX6_isWrong_324 (lv_at hl 1 rfl) ?_
    refine lv_imul hx hb dX6_isWrong_326 ?_
    refine lv_iload_n hx hb dX6_isWrong_327 rfl (lv_at hl 5 rfl) ?_
    refine lv_iadd hx hb dX6_isWrong_328 ?_
    obtain ⟨h_52, hf⟩ := ck_s hf
    refine z_zld hx hb hZ 11 10 rfl rfl h_52 dX6_isWrong_329 ?_
    refine lv_aload_n hx hb dX6_isWrong_330 rfl (lv_at hl 2 rfl) ?_
    refine z_get hx hb htt iw_X6 hown hZ 0 rfl rfl 14 (by decide) lf_X6_41 rfl dX6_isWrong_331 ?_
    refine lv_bipush (v := 32) hx hb dX6_isWrong_334 (by decide) ?_
    refine lv_iload hx hb dX6_isWrong_336 (lv_at hl 0 rfl) ?_
    refine lv_imul hx hb dX6_isWrong_338 ?_
    refine lv_iload_n hx hb dX6_isWrong_339 rfl (lv_at hl 5 rfl) ?_
    refine lv_iadd hx hb dX6_isWrong_340 ?_
    obtain ⟨h_53, hf⟩ := ck_s hf
    refine z_zld hx hb hZ 11 10 rfl rfl h_53 dX6_isWrong_341 ?_
    refine lv_icmp_ne (tgt := 349) hx hb dX6_isWrong_342 (by decide) (fun c_54 => ?_) (fun c_54 => ?_)
    · have hf := ite_f c_54 hf
      refine lv_iconst (v := 0) hx hb dX6_isWrong_349 (by decide) ?_
      exact z_zret hx hb hr hlocks hZ rfl (sp_1 hf) (sp_2 hf) dX6_isWrong_350
    · have hf := ite_t c_54 hf
      refine lv_iconst (v := 1) hx hb dX6_isWrong_345 (by decide) ?_
      refine lv_goto (tgt := 350) hx hb dX6_isWrong_346 (by decide) ?_
      exact z_zret hx hb hr hlocks hZ rfl (sp_1 hf) (sp_2 hf) dX6_isWrong_350
  have hf := ite_f c_51 hf
  have nc_6 := lv_neT c_6 (show (0 : Int32).toInt = 0 from by decide)
  have nc_11 := lv_neT c_11 (show (1 : Int32).toInt = 1 from by decide)
  have nc_19 := lv_neT c_19 (show (3 : Int32).toInt = 3 from by decide)
  have nc_26 := lv_neT c_26 (show (4 : Int32).toInt = 4 from by decide)
  have nc_28 := lv_neT c_28 (show (7 : Int32).toInt = 7 from by decide)
  have nc_32 := lv_neT c_32 (show (8 : Int32).toInt = 8 from by decide)
  have nc_38 := lv_neT c_38 (show (11 : Int32).toInt = 11 from by decide)
  have nc_41 := lv_neT c_41 (show (12 : Int32).toInt = 12 from by decide)
  have nc_46 := lv_neT c_46 (show (13 : Int32).toInt = 13 from by decide)
  have nc_51 := lv_neT c_51 (show (14 : Int32).toInt = 14 from by decide)
  have h_57 : ((σ.1 8 (x1).toNatClampNeg)).toInt < 0 ∨ 14 < ((σ.1 8 (x1).toNatClampNeg)).toInt ∨ ((σ.1 8 (x1).toNatClampNeg)).toInt = 2 ∨ ((σ.1 8 (x1).toNatClampNeg)).toInt = 5 ∨ ((σ.1 8 (x1).toNatClampNeg)).toInt = 6 ∨ ((σ.1 8 (x1).toNatClampNeg)).toInt = 9 ∨ ((σ.1 8 (x1).toNatClampNeg)).toInt = 10 := by omega
  refine z_tdef (tgt := 351) hx hb dX6_isWrong_22 (by
    rcases h_57 with h_57 | h_57 | h_57 | h_57 | h_57 | h_57 | h_57
    · exact Or.inl h_57
    · exact Or.inr (Or.inl h_57)
    · exact Or.inr (Or.inr (by rw [h_57]; rfl))
    · exact Or.inr (Or.inr (by rw [h_57]; rfl))
    · exact Or.inr (Or.inr (by rw [h_57]; rfl))
    · exact Or.inr (Or.inr (by rw [h_57]; rfl))
    · exact Or.inr (Or.inr (by rw [h_57]; rfl))) (by decide) ?_
  refine lv_aload_n hx hb dX6_isWrong_351 rfl (lv_at hl 2 rfl) ?_
  refine z_get hx hb htt iw_X6 hown hZ 0 rfl rfl 14 (by decide) lf_X6_41 rfl dX6_isWrong_352 ?_
  refine lv_bipush (v := 32) hx hb dX6_isWrong_355 (by decide) ?_
  refine lv_iload hx hb dX6_isWrong_357 (lv_at hl 1 rfl) ?_
  refine lv_imul hx hb dX6_isWrong_359 ?_
  refine lv_iload_n hx hb dX6_isWrong_360 rfl (lv_at hl 5 rfl) ?_
  refine lv_iadd hx hb dX6_isWrong_361 ?_
  obtain ⟨h_55, hf⟩ := ck_s hf
  refine z_zld hx hb hZ 11 10 rfl rfl h_55 dX6_isWrong_362 ?_
  refine lv_if_ne (tgt := 370) hx hb dX6_isWrong_363 (by decide) (fun c_56 => ?_) (fun c_56 => ?_)
  · have hf := ite_f c_56 hf
    refine lv_iconst (v := 0) hx hb dX6_isWrong_370 (by decide) ?_
    exact z_zret hx hb hr hlocks hZ rfl (sp_1 hf) (sp_2 hf) dX6_isWrong_371
  · have hf := ite_t c_56 hf
    refine lv_iconst (v := 1) hx hb dX6_isWrong_366 (by decide) ?_
    refine lv_goto (tgt := 371) hx hb dX6_isWrong_367 (by decide) ?_
    exact z_zret hx hb hr hlocks hZ rfl (sp_1 hf) (sp_2 hf) dX6_isWrong_371
abbrev rm_X6_lookAtTags : Room := { frames := 1, cells := 0, slots := 0, locals := 20 }
def fn_X6_lookAtTags_15 (K2 : S2 → Int32 → Option (S2)) : Nat → S2 → Int32 → Int32 → Int32 → Int32 → Option (S2)
  | 0, _, _, _, _, _ => none
  | n + 1, σ, x1, x2, x3, x4 => if x4 < 20 then if x3 ≤ 1 then lt (x1 + 1) (fun v3 => K2 σ v3) else ck (x2 + 1) 33 (lt (st σ 16 ((x2 + 1)).toNatClampNeg 1) (fun σ5 => lt (x1 + 1) (fun v6 => K2 σ5 v6))) else ck x4 32 (if (σ.1 15 (x4).toNatClampNeg) = 0 then lt (x4 + (-1)) (fun v9 => fn_X6_lookAtTags_15 K2 n σ x1 x2 x3 v9) else lt (fn_X6_tagOf x4) (fun r10 => if r10 = x1 then lt (x3 + 1) (fun v13 => lt (x4 + (-1)) (fun v14 => fn_X6_lookAtTags_15 K2 n σ x1 x4 v13 v14)) else lt (x4 + (-1)) (fun v12 => fn_X6_lookAtTags_15 K2 n σ x1 x2 x3 v12)))
def fn_X6_lookAtTags_2 : Nat → S2 → Int32 → Option (S2)
  | 0, _, _ => none
  | n + 1, σ, x1 => if 2 ≤ x1 then some σ else fn_X6_lookAtTags_15 (fn_X6_lookAtTags_2 n) fu σ x1 (-1) 0 31
def fn_X6_lookAtTags (σ : S2) : Option (S2) := fn_X6_lookAtTags_2 fu σ 0
set_option maxHeartbeats 4000000 in
set_option maxRecDepth 100000 in
theorem wk_X6_lookAtTags_15 {p : Program} {l : Launch} {e : Env} {s : State} {m : MethodId} {args : Array Value} {below : List Frame} {meth : Method} {c : Code} {D : va_G} {A : Nat → Prop} {ad : Nat → Nat} {cA : Nat → ClassId} {rs : va_W} {tr : List (ClassId × FieldType)} {res : S2} (C0 : cx p m meth c cX6_lookAtTags none 5 s args tb nl RX6) (K2 : S2 → Int32 → Option (S2)) (hK2 : ∀ (σ : S2) (x1 : Int32), ∀ (H : Heap) (locs : List Loc) (ls : Array Slot), zz D vwCl (tyM cA tr) A (wM ad cA rs) s s.heap H locs σ → lv_has ls 5 [(0, .ref (ad 0)), (1, .int x1)] → K2 σ x1 = some res → W p l e rm_X6_lookAtTags s m args below meth c H locs 0 0 (MQ below (va_Qv (fun u' => u' = res) (zB D vwCl (tyM cA tr) A (wM ad cA rs)) A) args s 0 0 A) (F0 m 2 ls [])) : ∀ (n : Nat) (σ : S2) (x1 : Int32) (x2 : Int32) (x3 : Int32) (x4 : Int32), ∀ (H : Heap) (locs : List Loc) (ls : Array Slot), zz D vwCl (tyM cA tr) A (wM ad cA rs) s s.heap H locs σ → lv_has ls 5 [(0, .ref (ad 0)), (1, .int x1), (2, .int x2), (3, .int x3), (4, .int x4)] → fn_X6_lookAtTags_15 K2 n σ x1 x2 x3 x4 = some res → W p l e rm_X6_lookAtTags s m args below meth c H locs 0 0 (MQ below (va_Qv (fun u' => u' = res) (zB D vwCl (tyM cA tr) A (wM ad cA rs)) A) args s 0 0 A) (F0 m 15 ls []) := by
  obtain ⟨hx, hb, hr, hml, hown, htt, hlocks, hnw⟩ := id C0
  intro n
  induction n with
  | zero => intro σ x1 x2 x3 x4 H locs ls hZ hl hf; exact no_some hf
  | succ n ih =>
    intro σ x1 x2 x3 x4 H locs ls hZ hl hf
    rw [fn_X6_lookAtTags_15] at hf
    refine lv_iload hx hb dX6_lookAtTags_15 (lv_at hl 4 rfl) ?_
    refine lv_bipush (v := 20) hx hb dX6_lookAtTags_17 (by decide) ?_
    refine lv_icmp_lt (tgt := 53) hx hb dX6_lookAtTags_19 (by decide) (fun c_1 => ?_) (fun c_1 => ?_)
    · have hf := ite_t c_1 hf
      refine lv_iload_n hx hb dX6_lookAtTags_53 rfl (lv_at hl 3 rfl) ?_
      refine lv_iconst (v := 1) hx hb dX6_lookAtTags_54 (by decide) ?_
      refine lv_icmp_le (tgt := 67) hx hb dX6_lookAtTags_55 (by decide) (fun c_2 => ?_) (fun c_2 => ?_)
      · have hf := ite_t c_2 hf
        obtain ⟨v3, e_v3⟩ : ∃ y : Int32, y = x1 + 1 := ⟨_, rfl⟩
        have hf := lt_n e_v3 hf
        refine lv_iinc (v := v3) (lv' := [(1, .int v3), (0, .ref (ad 0)), (2, .int x2), (3, .int x3), (4, .int x4)]) hx hb dX6_lookAtTags_67 hl (k := 1) rfl (by rw [e_v3]; rfl) (by decide) rfl (fun ls hl => ?_)
        refine lv_goto (tgt := 2) hx hb dX6_lookAtTags_70 (by decide) ?_
        exact hK2 σ v3 _ _ _ hZ (lv_sub hl [1, 0] rfl) hf
      · have hf := ite_f c_2 hf
        refine lv_aload_n hx hb dX6_lookAtTags_58 rfl (lv_at hl 0 rfl) ?_
        refine z_get hx hb htt iw_X6 hown hZ 0 rfl rfl 19 (by decide) lf_X6_56 rfl dX6_lookAtTags_59 ?_
        refine lv_iload_n hx hb dX6_lookAtTags_62 rfl (lv_at hl 2 rfl) ?_
        refine lv_iconst (v := 1) hx hb dX6_lookAtTags_63 (by decide) ?_
        refine lv_iadd hx hb dX6_lookAtTags_64 ?_
        refine lv_iconst (v := 1) hx hb dX6_lookAtTags_65 (by decide) ?_
        obtain ⟨h_4, hf⟩ := ck_s hf
        refine z_zst (σ' := st σ 16 ((x2 + 1)).toNatClampNeg 1) hx hb hZ 16 15 rfl rfl h_4 dX6_lookAtTags_66 rfl (fun σ5 H locs e_σ5 hZ => ?_)
        have hf := lt_n e_σ5 hf
        obtain ⟨v6, e_v6⟩ : ∃ y : Int32, y = x1 + 1 := ⟨_, rfl⟩
        have hf := lt_n e_v6 hf
        refine lv_iinc (v := v6) (lv' := [(1, .int v6), (0, .ref (ad 0)), (2, .int x2), (3, .int x3), (4, .int x4)]) hx hb dX6_lookAtTags_67 hl (k := 1) rfl (by rw [e_v6]; rfl) (by decide) rfl (fun ls hl => ?_)
        refine lv_goto (tgt := 2) hx hb dX6_lookAtTags_70 (by decide) ?_
        exact hK2 σ5 v6 _ _ _ hZ (lv_sub hl [1, 0] rfl) hf
    · have hf := ite_f c_1 hf
      refine lv_aload_n hx hb dX6_lookAtTags_22 rfl (lv_at hl 0 rfl) ?_
      refine z_get hx hb htt iw_X6 hown hZ 0 rfl rfl 18 (by decide) lf_X6_53 rfl dX6_lookAtTags_23 ?_
      refine lv_iload hx hb dX6_lookAtTags_26 (lv_at hl 4 rfl) ?_
      obtain ⟨h_7, hf⟩ := ck_s hf
      refine z_zld hx hb hZ 15 14 rfl rfl h_7 dX6_lookAtTags_28 ?_
      refine lv_if_eq (tgt := 47) hx hb dX6_lookAtTags_29 (by decide) (fun c_8 => ?_) (fun c_8 => ?_)
      · have hf := ite_t c_8 hf
        obtain ⟨v9, e_v9⟩ : ∃ y : Int32, y = x4 + (-1) := ⟨_, rfl⟩
        have hf := lt_n e_v9 hf
        refine lv_iinc (v := v9) (lv' := [(4, .int v9), (0, .ref (ad 0)), (1, .int x1), (2, .int x2), (3, .int x3)]) hx hb dX6_lookAtTags_47 hl (k := 4) rfl (by rw [e_v9]; rfl) (by decide) rfl (fun ls hl => ?_)
        refine lv_goto (tgt := 15) hx hb dX6_lookAtTags_50 (by decide) ?_
        exact ih σ x1 x2 x3 v9 _ _ _ hZ (lv_sub hl [1, 2, 3, 4, 0] rfl) hf
      · have hf := ite_f c_8 hf
        refine lv_iload hx hb dX6_lookAtTags_32 (lv_at hl 4 rfl) ?_
        refine z_pcalli (z_runS (As := [.int x4]) (rest := []) ⟨hx, hb, hml, hown, htt⟩ gT (ct_X6_tagOf l x4 rfl) md_X6_tagOf lm_X6_112 rfl rfl ⟨Nat.le_of_ble_eq_true rfl, Nat.le_of_ble_eq_true rfl⟩ z_preP rfl rfl hl.1 rfl (lv_room (Nat.le_of_ble_eq_true rfl)) dX6_lookAtTags_34 ⟨Nat.le_of_ble_eq_true rfl, Nat.le_of_ble_eq_true rfl⟩) ?_
        refine lv_topi (fun r10 e_r10 => ?_)
        have hf := lt_n e_r10 hf
        refine lv_iload_n hx hb dX6_lookAtTags_37 rfl (lv_at hl 1 rfl) ?_
        refine lv_icmp_ne (tgt := 47) hx hb dX6_lookAtTags_38 (by decide) (fun c_11 => ?_) (fun c_11 => ?_)
        · have hf := ite_f c_11 hf
          obtain ⟨v12, e_v12⟩ : ∃ y : Int32, y = x4 + (-1) := ⟨_, rfl⟩
          have hf := lt_n e_v12 hf
          refine lv_iinc (v := v12) (lv' := [(4, .int v12), (0, .ref (ad 0)), (1, .int x1), (2, .int x2), (3, .int x3)]) hx hb dX6_lookAtTags_47 hl (k := 4) rfl (by rw [e_v12]; rfl) (by decide) rfl (fun ls hl => ?_)
          refine lv_goto (tgt := 15) hx hb dX6_lookAtTags_50 (by decide) ?_
          exact ih σ x1 x2 x3 v12 _ _ _ hZ (lv_sub hl [1, 2, 3, 4, 0] rfl) hf
        · have hf := ite_t c_11 hf
          refine lv_iload hx hb dX6_lookAtTags_41 (lv_at hl 4 rfl) ?_
          refine lv_istore_n (lv' := [(2, .int x4), (0, .ref (ad 0)), (1, .int x1), (3, .int x3), (4, .int x4)]) hx hb dX6_lookAtTags_43 rfl hl (by decide) rfl (fun ls hl => ?_)
          obtain ⟨v13, e_v13⟩ : ∃ y : Int32, y = x3 + 1 := ⟨_, rfl⟩
          have hf := lt_n e_v13 hf
          refine lv_iinc (v := v13) (lv' := [(3, .int v13), (2, .int x4), (0, .ref (ad 0)), (1, .int x1), (4, .int x4)]) hx hb dX6_lookAtTags_44 hl (k := 3) rfl (by rw [e_v13]; rfl) (by decide) rfl (fun ls hl => ?_)
          obtain ⟨v14, e_v14⟩ : ∃ y : Int32, y = x4 + (-1) := ⟨_, rfl⟩
          have hf := lt_n e_v14 hf
          refine lv_iinc (v := v14) (lv' := [(4, .int v14), (3, .int v13), (2, .int x4), (0, .ref (ad 0)), (1, .int x1)]) hx hb dX6_lookAtTags_47 hl (k := 4) rfl (by rw [e_v14]; rfl) (by decide) rfl (fun ls hl => ?_)
          refine lv_goto (tgt := 15) hx hb dX6_lookAtTags_50 (by decide) ?_
          exact ih σ x1 x4 v13 v14 _ _ _ hZ (lv_sub hl [3, 4, 2, 1, 0] rfl) hf
set_option maxHeartbeats 4000000 in
set_option maxRecDepth 100000 in
theorem wk_X6_lookAtTags_2 {p : Program} {l : Launch} {e : Env} {s : State} {m : MethodId} {args : Array Value} {below : List Frame} {meth : Method} {c : Code} {D : va_G} {A : Nat → Prop} {ad : Nat → Nat} {cA : Nat → ClassId} {rs : va_W} {tr : List (ClassId × FieldType)} {res : S2} (C0 : cx p m meth c cX6_lookAtTags none 5 s args tb nl RX6) : ∀ (n : Nat) (σ : S2) (x1 : Int32), ∀ (H : Heap) (locs : List Loc) (ls : Array Slot), zz D vwCl (tyM cA tr) A (wM ad cA rs) s s.heap H locs σ → lv_has ls 5 [(0, .ref (ad 0)), (1, .int x1)] → fn_X6_lookAtTags_2 n σ x1 = some res → W p l e rm_X6_lookAtTags s m args below meth c H locs 0 0 (MQ below (va_Qv (fun u' => u' = res) (zB D vwCl (tyM cA tr) A (wM ad cA rs)) A) args s 0 0 A) (F0 m 2 ls []) := by
  obtain ⟨hx, hb, hr, hml, hown, htt, hlocks, hnw⟩ := id C0
  intro n
  induction n with
  | zero => intro σ x1 H locs ls hZ hl hf; exact no_some hf
  | succ n ih =>
    intro σ x1 H locs ls hZ hl hf
    rw [fn_X6_lookAtTags_2] at hf
    refine lv_iload_n hx hb dX6_lookAtTags_2 rfl (lv_at hl 1 rfl) ?_
    refine lv_iconst (v := 2) hx hb dX6_lookAtTags_3 (by decide) ?_
    refine lv_icmp_ge (tgt := 73) hx hb dX6_lookAtTags_4 (by decide) (fun c_1 => ?_) (fun c_1 => ?_)
    · have hf := ite_t c_1 hf
      exact z_vret hx hb hr hlocks hZ (Option.some.inj hf) dX6_lookAtTags_73
    · have hf := ite_f c_1 hf
      refine lv_iconst (v := (-1)) hx hb dX6_lookAtTags_7 (by decide) ?_
      refine lv_istore_n (lv' := [(2, .int (-1)), (0, .ref (ad 0)), (1, .int x1)]) hx hb dX6_lookAtTags_8 rfl hl (by decide) rfl (fun ls hl => ?_)
      refine lv_iconst (v := 0) hx hb dX6_lookAtTags_9 (by decide) ?_
      refine lv_istore_n (lv' := [(3, .int 0), (2, .int (-1)), (0, .ref (ad 0)), (1, .int x1)]) hx hb dX6_lookAtTags_10 rfl hl (by decide) rfl (fun ls hl => ?_)
      refine lv_bipush (v := 31) hx hb dX6_lookAtTags_11 (by decide) ?_
      refine lv_istore (lv' := [(4, .int 31), (3, .int 0), (2, .int (-1)), (0, .ref (ad 0)), (1, .int x1)]) hx hb dX6_lookAtTags_13 hl (by decide) rfl (fun ls hl => ?_)
      exact wk_X6_lookAtTags_15 C0 (fn_X6_lookAtTags_2 n) ih fu σ x1 (-1) 0 31 _ _ _ hZ (lv_sub hl [3, 4, 2, 1, 0] rfl) hf
set_option maxHeartbeats 4000000 in
set_option maxRecDepth 100000 in
theorem ct_X6_lookAtTags (l : Launch) (D : va_G) (A : Nat → Prop) (ad : Nat → Nat) (cA : Nat → ClassId) (rs : va_W) (tr : List (ClassId × FieldType)) (σ : S2) {res : S2} (hf : fn_X6_lookAtTags σ = some res) : Met l yX6_lookAtTags (.code yX6_lookAtTags cX6_lookAtTags 5 none :: tb) rm_X6_lookAtTags (va_Pc [.ref (ad 0)] (zN D vwCl (tyM cA tr) A (wM ad cA rs) nl σ)) (va_Qv (fun u' => u' = res) (zB D vwCl (tyM cA tr) A (wM ad cA rs)) A) 0 0 A := by
  refine Met.ofW (cc := cX6_lookAtTags) (maxL := 5) (ret := none) (by decide) rfl ?_
  intro p e s m args below meth c s₁ B hml hv
  obtain ⟨rfl, hB, hnw0⟩ := hv
  have htt : ∀ w ∈ tb, w.before (([.ref (ad 0)] : List Value).toArray) s = true := fun w h => atoms_spec (ws := (.code yX6_lookAtTags cX6_lookAtTags 5 none :: tb)) B.pre w (List.mem_cons_of_mem _ h)
  have C0 : cx p m meth c cX6_lookAtTags none 5 s (([.ref (ad 0)] : List Value).toArray) tb nl RX6 := ⟨B.exec, B.bytes, B.returns, hml, findClass_of_methodNamed B.named, htt, B.notSynchronized, hnw0⟩
  obtain ⟨hx, hb, hr, hml, hown, htt, hlocks, hnw⟩ := id C0
  have hZ := z_start hB
  have hl := lv_entry ([.ref (ad 0)]) (n := 5) (Nat.le_of_ble_eq_true rfl)
  rw [lg_entry_eq]
  generalize (lg_sl ([.ref (ad 0)]) ++ List.replicate (5 - (lg_sl ([.ref (ad 0)])).length) Slot.unset).toArray = ls at hl ⊢
  have hl : lv_has ls 5 [(0, .ref (ad 0))] := hl
  unfold fn_X6_lookAtTags at hf
  refine lv_iconst (v := 0) hx hb dX6_lookAtTags_0 (by decide) ?_
  refine lv_istore_n (lv' := [(1, .int 0), (0, .ref (ad 0))]) hx hb dX6_lookAtTags_1 rfl hl (by decide) rfl (fun ls hl => ?_)
  exact wk_X6_lookAtTags_2 C0  fu σ 0 _ _ _ hZ (lv_sub hl [1, 0] rfl) hf
abbrev rm_X6_lookAtOthers : Room := { frames := 1, cells := 0, slots := 0, locals := 23 }
def fn_X6_lookAtOthers_28 (K2 : S2 → Int32 → Int32 → Option (S2)) (K10 : S2 → Int32 → Int32 → Int32 → Option (S2)) : Nat → S2 → Int32 → Int32 → Int32 → Int32 → Option (S2)
  | 0, _, _, _, _, _ => none
  | n + 1, σ, x1, x2, x3, x4 => if 32 ≤ x4 then lt (x3 + 1) (fun v2 => K10 σ x1 x2 v2) else ck (x4 + 1) 33 (if (σ.1 16 ((x4 + 1)).toNatClampNeg) = 0 then if ((x1 >>> (x3 &&& 31)) &&& 1) = 0 then bn (fn_X6_leads σ x2 x3 x4) (fun r13 => if r13 = 0 then ck (x4 + 1) 33 (lt (st σ 16 ((x4 + 1)).toNatClampNeg 0) (fun σ16 => lt (x4 + 1) (fun v17 => fn_X6_lookAtOthers_28 K2 K10 n σ16 x1 x2 x3 v17))) else ck (x4 + 1) 33 (lt (st σ 16 ((x4 + 1)).toNatClampNeg 1) (fun σ19 => lt (x4 + 1) (fun v20 => fn_X6_lookAtOthers_28 K2 K10 n σ19 x1 x2 x3 v20)))) else ck (x4 + 1) 33 (lt (st σ 16 ((x4 + 1)).toNatClampNeg 0) (fun σ10 => lt (x4 + 1) (fun v11 => fn_X6_lookAtOthers_28 K2 K10 n σ10 x1 x2 x3 v11))) else ck (x4 + 1) 33 (lt (st σ 16 ((x4 + 1)).toNatClampNeg 1) (fun σ6 => lt (x4 + 1) (fun v7 => fn_X6_lookAtOthers_28 K2 K10 n σ6 x1 x2 x3 v7))))
def fn_X6_lookAtOthers_10 (K2 : S2 → Int32 → Int32 → Option (S2)) : Nat → S2 → Int32 → Int32 → Int32 → Option (S2)
  | 0, _, _, _, _ => none
  | n + 1, σ, x1, x2, x3 => if 8 ≤ x3 then lt (x2 + 1) (fun v2 => K2 σ x1 v2) else ck x2 32 (if (σ.1 15 (x2).toNatClampNeg) = 0 then lt (x2 + 1) (fun v5 => K2 σ x1 v5) else fn_X6_lookAtOthers_28 K2 (fn_X6_lookAtOthers_10 K2 n) fu σ x1 x2 x3 0)
def fn_X6_lookAtOthers_2 : Nat → S2 → Int32 → Int32 → Option (S2)
  | 0, _, _, _ => none
  | n + 1, σ, x1, x2 => if 20 ≤ x2 then some σ else fn_X6_lookAtOthers_10 (fn_X6_lookAtOthers_2 n) fu σ x1 x2 0
def fn_X6_lookAtOthers (σ : S2) (x1 : Int32) : Option (S2) := fn_X6_lookAtOthers_2 fu σ x1 0
set_option maxHeartbeats 4000000 in
set_option maxRecDepth 100000 in
theorem wk_X6_lookAtOthers_28 {p : Program} {l : Launch} {e : Env} {s : State} {m : MethodId} {args : Array Value} {below : List Frame} {meth : Method} {c : Code} {D : va_G} {A : Nat → Prop} {ad : Nat → Nat} {cA : Nat → ClassId} {rs : va_W} {tr : List (ClassId × FieldType)} {res : S2} (C0 : cx p m meth c cX6_lookAtOthers none 5 s args tb nl RX6) (K2 : S2 → Int32 → Int32 → Option (S2)) (hK2 : ∀ (σ : S2) (x1 : Int32) (x2 : Int32), ∀ (H : Heap) (locs : List Loc) (ls : Array Slot), zz D vwCl (tyM cA tr) A (wM ad cA rs) s s.heap H locs σ → lv_has ls 5 [(0, .ref (ad 0)), (1, .int x1), (2, .int x2)] → K2 σ x1 x2 = some res → W p l e rm_X6_lookAtOthers s m args below meth c H locs 0 0 (MQ below (va_Qv (fun u' => u' = res) (zB D vwCl (tyM cA tr) A (wM ad cA rs)) A) args s 0 0 A) (F0 m 2 ls [])) (K10 : S2 → Int32 → Int32 → Int32 → Option (S2)) (hK10 : ∀ (σ : S2) (x1 : Int32) (x2 : Int32) (x3 : Int32), ∀ (H : Heap) (locs : List Loc) (ls : Array Slot), zz D vwCl (tyM cA tr) A (wM ad cA rs) s s.heap H locs σ → lv_has ls 5 [(0, .ref (ad 0)), (1, .int x1), (2, .int x2), (3, .int x3)] → K10 σ x1 x2 x3 = some res → W p l e rm_X6_lookAtOthers s m args below meth c H locs 0 0 (MQ below (va_Qv (fun u' => u' = res) (zB D vwCl (tyM cA tr) A (wM ad cA rs)) A) args s 0 0 A) (F0 m 10 ls [])) : ∀ (n : Nat) (σ : S2) (x1 : Int32) (x2 : Int32) (x3 : Int32) (x4 : Int32), ∀ (H : Heap) (locs : List Loc) (ls : Array Slot), zz D vwCl (tyM cA tr) A (wM ad cA rs) s s.heap H locs σ → lv_has ls 5 [(0, .ref (ad 0)), (1, .int x1), (2, .int x2), (3, .int x3), (4, .int x4)] → fn_X6_lookAtOthers_28 K2 K10 n σ x1 x2 x3 x4 = some res → W p l e rm_X6_lookAtOthers s m args below meth c H locs 0 0 (MQ below (va_Qv (fun u' => u' = res) (zB D vwCl (tyM cA tr) A (wM ad cA rs)) A) args s 0 0 A) (F0 m 28 ls []) := by
  obtain ⟨hx, hb, hr, hml, hown, htt, hlocks, hnw⟩ := id C0
  intro n
  induction n with
  | zero => intro σ x1 x2 x3 x4 H locs ls hZ hl hf; exact no_some hf
  | succ n ih =>
    intro σ x1 x2 x3 x4 H locs ls hZ hl hf
    rw [fn_X6_lookAtOthers_28] at hf
    refine lv_iload hx hb dX6_lookAtOthers_28 (lv_at hl 4 rfl) ?_
    refine lv_bipush (v := 32) hx hb dX6_lookAtOthers_30 (by decide) ?_
    refine lv_icmp_ge (tgt := 86) hx hb dX6_lookAtOthers_32 (by decide) (fun c_1 => ?_) (fun c_1 => ?_)
    · have hf := ite_t c_1 hf
      obtain ⟨v2, e_v2⟩ : ∃ y : Int32, y = x3 + 1 := ⟨_, rfl⟩
      have hf := lt_n e_v2 hf
      refine lv_iinc (v := v2) (lv' := [(3, .int v2), (0, .ref (ad 0)), (1, .int x1), (2, .int x2), (4, .int x4)]) hx hb dX6_lookAtOthers_86 hl (k := 3) rfl (by rw [e_v2]; rfl) (by decide) rfl (fun ls hl => ?_)
      refine lv_goto (tgt := 10) hx hb dX6_lookAtOthers_89 (by decide) ?_
      exact hK10 σ x1 x2 v2 _ _ _ hZ (lv_sub hl [1, 2, 3, 0] rfl) hf
    · have hf := ite_f c_1 hf
      refine lv_aload_n hx hb dX6_lookAtOthers_35 rfl (lv_at hl 0 rfl) ?_
      refine z_get hx hb htt iw_X6 hown hZ 0 rfl rfl 19 (by decide) lf_X6_56 rfl dX6_lookAtOthers_36 ?_
      refine lv_iload hx hb dX6_lookAtOthers_39 (lv_at hl 4 rfl) ?_
      refine lv_iconst (v := 1) hx hb dX6_lookAtOthers_41 (by decide) ?_
      refine lv_iadd hx hb dX6_lookAtOthers_42 ?_
      refine lv_aload_n hx hb dX6_lookAtOthers_43 rfl (lv_at hl 0 rfl) ?_
      refine z_get hx hb htt iw_X6 hown hZ 0 rfl rfl 19 (by decide) lf_X6_56 rfl dX6_lookAtOthers_44 ?_
      refine lv_iload hx hb dX6_lookAtOthers_47 (lv_at hl 4 rfl) ?_
      refine lv_iconst (v := 1) hx hb dX6_lookAtOthers_49 (by decide) ?_
      refine lv_iadd hx hb dX6_lookAtOthers_50 ?_
      obtain ⟨h_3, hf⟩ := ck_s hf
      refine z_zld hx hb hZ 16 15 rfl rfl h_3 dX6_lookAtOthers_51 ?_
      refine lv_if_ne (tgt := 74) hx hb dX6_lookAtOthers_52 (by decide) (fun c_4 => ?_) (fun c_4 => ?_)
      · have hf := ite_f c_4 hf
        refine lv_iconst (v := 1) hx hb dX6_lookAtOthers_74 (by decide) ?_
        refine lv_goto (tgt := 79) hx hb dX6_lookAtOthers_75 (by decide) ?_
        obtain ⟨h_5, hf⟩ := ck_s hf
        refine z_zst (σ' := st σ 16 ((x4 + 1)).toNatClampNeg 1) hx hb hZ 16 15 rfl rfl h_5 dX6_lookAtOthers_79 rfl (fun σ6 H locs e_σ6 hZ => ?_)
        have hf := lt_n e_σ6 hf
        obtain ⟨v7, e_v7⟩ : ∃ y : Int32, y = x4 + 1 := ⟨_, rfl⟩
        have hf := lt_n e_v7 hf
        refine lv_iinc (v := v7) (lv' := [(4, .int v7), (0, .ref (ad 0)), (1, .int x1), (2, .int x2), (3, .int x3)]) hx hb dX6_lookAtOthers_80 hl (k := 4) rfl (by rw [e_v7]; rfl) (by decide) rfl (fun ls hl => ?_)
        refine lv_goto (tgt := 28) hx hb dX6_lookAtOthers_83 (by decide) ?_
        exact ih σ6 x1 x2 x3 v7 _ _ _ hZ (lv_sub hl [1, 2, 3, 4, 0] rfl) hf
      · have hf := ite_t c_4 hf
        refine lv_iload_n hx hb dX6_lookAtOthers_55 rfl (lv_at hl 1 rfl) ?_
        refine lv_iload_n hx hb dX6_lookAtOthers_56 rfl (lv_at hl 3 rfl) ?_
        refine lv_ishr hx hb dX6_lookAtOthers_57 ?_
        refine lv_iconst (v := 1) hx hb dX6_lookAtOthers_58 (by decide) ?_
        refine lv_iand hx hb dX6_lookAtOthers_59 ?_
        refine lv_if_ne (tgt := 78) hx hb dX6_lookAtOthers_60 (by decide) (fun c_8 => ?_) (fun c_8 => ?_)
        · have hf := ite_f c_8 hf
          refine lv_iconst (v := 0) hx hb dX6_lookAtOthers_78 (by decide) ?_
          obtain ⟨h_9, hf⟩ := ck_s hf
          refine z_zst (σ' := st σ 16 ((x4 + 1)).toNatClampNeg 0) hx hb hZ 16 15 rfl rfl h_9 dX6_lookAtOthers_79 rfl (fun σ10 H locs e_σ10 hZ => ?_)
          have hf := lt_n e_σ10 hf
          obtain ⟨v11, e_v11⟩ : ∃ y : Int32, y = x4 + 1 := ⟨_, rfl⟩
          have hf := lt_n e_v11 hf
          refine lv_iinc (v := v11) (lv' := [(4, .int v11), (0, .ref (ad 0)), (1, .int x1), (2, .int x2), (3, .int x3)]) hx hb dX6_lookAtOthers_80 hl (k := 4) rfl (by rw [e_v11]; rfl) (by decide) rfl (fun ls hl => ?_)
          refine lv_goto (tgt := 28) hx hb dX6_lookAtOthers_83 (by decide) ?_
          exact ih σ10 x1 x2 x3 v11 _ _ _ hZ (lv_sub hl [1, 2, 3, 4, 0] rfl) hf
        · have hf := ite_t c_8 hf
          refine lv_aload_n hx hb dX6_lookAtOthers_63 rfl (lv_at hl 0 rfl) ?_
          refine lv_iload_n hx hb dX6_lookAtOthers_64 rfl (lv_at hl 2 rfl) ?_
          refine lv_iload_n hx hb dX6_lookAtOthers_65 rfl (lv_at hl 3 rfl) ?_
          refine lv_iload hx hb dX6_lookAtOthers_66 (lv_at hl 4 rfl) ?_
          obtain ⟨r13, k_12, hf⟩ := bn_s hf
          refine z_calli (z_runV (As := [.int x2, .int x3, .int x4]) (rest := [.int (x4 + 1), .ref (ad 16)]) ⟨hx, hb, hml, hown, htt⟩ gT (ct_X6_leads l D A ad cA rs tr σ x2 x3 x4 k_12) md_X6_leads lm_X6_77 rfl rfl ⟨Nat.le_of_ble_eq_true rfl, Nat.le_of_ble_eq_true rfl⟩ (z_preV gN hnw hZ rfl (q0 := 0) (ci := 6) rfl) rfl rfl hl.1 rfl (lv_room (Nat.le_of_ble_eq_true rfl)) dX6_lookAtOthers_68 ⟨Nat.le_of_ble_eq_true rfl, Nat.le_of_ble_eq_true rfl⟩) hZ (fun H locs hZ => ?_)
          refine lv_if_eq (tgt := 78) hx hb dX6_lookAtOthers_71 (by decide) (fun c_14 => ?_) (fun c_14 => ?_)
          · have hf := ite_t c_14 hf
            refine lv_iconst (v := 0) hx hb dX6_lookAtOthers_78 (by decide) ?_
            obtain ⟨h_15, hf⟩ := ck_s hf
            refine z_zst (σ' := st σ 16 ((x4 + 1)).toNatClampNeg 0) hx hb hZ 16 15 rfl rfl h_15 dX6_lookAtOthers_79 rfl (fun σ16 H locs e_σ16 hZ => ?_)
            have hf := lt_n e_σ16 hf
            obtain ⟨v17, e_v17⟩ : ∃ y : Int32, y = x4 + 1 := ⟨_, rfl⟩
            have hf := lt_n e_v17 hf
            refine lv_iinc (v := v17) (lv' := [(4, .int v17), (0, .ref (ad 0)), (1, .int x1), (2, .int x2), (3, .int x3)]) hx hb dX6_lookAtOthers_80 hl (k := 4) rfl (by rw [e_v17]; rfl) (by decide) rfl (fun ls hl => ?_)
            refine lv_goto (tgt := 28) hx hb dX6_lookAtOthers_83 (by decide) ?_
            exact ih σ16 x1 x2 x3 v17 _ _ _ hZ (lv_sub hl [1, 2, 3, 4, 0] rfl) hf
          · have hf := ite_f c_14 hf
            refine lv_iconst (v := 1) hx hb dX6_lookAtOthers_74 (by decide) ?_
            refine lv_goto (tgt := 79) hx hb dX6_lookAtOthers_75 (by decide) ?_
            obtain ⟨h_18, hf⟩ := ck_s hf
            refine z_zst (σ' := st σ 16 ((x4 + 1)).toNatClampNeg 1) hx hb hZ 16 15 rfl rfl h_18 dX6_lookAtOthers_79 rfl (fun σ19 H locs e_σ19 hZ => ?_)
            have hf := lt_n e_σ19 hf
            obtain ⟨v20, e_v20⟩ : ∃ y : Int32, y = x4 + 1 := ⟨_, rfl⟩
            have hf := lt_n e_v20 hf
            refine lv_iinc (v := v20) (lv' := [(4, .int v20), (0, .ref (ad 0)), (1, .int x1), (2, .int x2), (3, .int x3)]) hx hb dX6_lookAtOthers_80 hl (k := 4) rfl (by rw [e_v20]; rfl) (by decide) rfl (fun ls hl => ?_)
            refine lv_goto (tgt := 28) hx hb dX6_lookAtOthers_83 (by decide) ?_
            exact ih σ19 x1 x2 x3 v20 _ _ _ hZ (lv_sub hl [1, 2, 3, 4, 0] rfl) hf
set_option maxHeartbeats 4000000 in
set_option maxRecDepth 100000 in
theorem wk_X6_lookAtOthers_10 {p : Program} {l : Launch} {e : Env} {s : State} {m : MethodId} {args : Array Value} {below : List Frame} {meth : Method} {c : Code} {D : va_G} {A : Nat → Prop} {ad : Nat → Nat} {cA : Nat → ClassId} {rs : va_W} {tr : List (ClassId × FieldType)} {res : S2} (C0 : cx p m meth c cX6_lookAtOthers none 5 s args tb nl RX6) (K2 : S2 → Int32 → Int32 → Option (S2)) (hK2 : ∀ (σ : S2) (x1 : Int32) (x2 : Int32), ∀ (H : Heap) (locs : List Loc) (ls : Array Slot), zz D vwCl (tyM cA tr) A (wM ad cA rs) s s.heap H locs σ → lv_has ls 5 [(0, .ref (ad 0)), (1, .int x1), (2, .int x2)] → K2 σ x1 x2 = some res → W p l e rm_X6_lookAtOthers s m args below meth c H locs 0 0 (MQ below (va_Qv (fun u' => u' = res) (zB D vwCl (tyM cA tr) A (wM ad cA rs)) A) args s 0 0 A) (F0 m 2 ls [])) : ∀ (n : Nat) (σ : S2) (x1 : Int32) (x2 : Int32) (x3 : Int32), ∀ (H : Heap) (locs : List Loc) (ls : Array Slot), zz D vwCl (tyM cA tr) A (wM ad cA rs) s s.heap H locs σ → lv_has ls 5 [(0, .ref (ad 0)), (1, .int x1), (2, .int x2), (3, .int x3)] → fn_X6_lookAtOthers_10 K2 n σ x1 x2 x3 = some res → W p l e rm_X6_lookAtOthers s m args below meth c H locs 0 0 (MQ below (va_Qv (fun u' => u' = res) (zB D vwCl (tyM cA tr) A (wM ad cA rs)) A) args s 0 0 A) (F0 m 10 ls []) := by
  obtain ⟨hx, hb, hr, hml, hown, htt, hlocks, hnw⟩ := id C0
  intro n
  induction n with
  | zero => intro σ x1 x2 x3 H locs ls hZ hl hf; exact no_some hf
  | succ n ih =>
    intro σ x1 x2 x3 H locs ls hZ hl hf
    rw [fn_X6_lookAtOthers_10] at hf
    refine lv_iload_n hx hb dX6_lookAtOthers_10 rfl (lv_at hl 3 rfl) ?_
    refine lv_bipush (v := 8) hx hb dX6_lookAtOthers_11 (by decide) ?_
    refine lv_icmp_ge (tgt := 92) hx hb dX6_lookAtOthers_13 (by decide) (fun c_1 => ?_) (fun c_1 => ?_)
    · have hf := ite_t c_1 hf
      obtain ⟨v2, e_v2⟩ : ∃ y : Int32, y = x2 + 1 := ⟨_, rfl⟩
      have hf := lt_n e_v2 hf
      refine lv_iinc (v := v2) (lv' := [(2, .int v2), (0, .ref (ad 0)), (1, .int x1), (3, .int x3)]) hx hb dX6_lookAtOthers_92 hl (k := 2) rfl (by rw [e_v2]; rfl) (by decide) rfl (fun ls hl => ?_)
      refine lv_goto (tgt := 2) hx hb dX6_lookAtOthers_95 (by decide) ?_
      exact hK2 σ x1 v2 _ _ _ hZ (lv_sub hl [1, 2, 0] rfl) hf
    · have hf := ite_f c_1 hf
      refine lv_aload_n hx hb dX6_lookAtOthers_16 rfl (lv_at hl 0 rfl) ?_
      refine z_get hx hb htt iw_X6 hown hZ 0 rfl rfl 18 (by decide) lf_X6_53 rfl dX6_lookAtOthers_17 ?_
      refine lv_iload_n hx hb dX6_lookAtOthers_20 rfl (lv_at hl 2 rfl) ?_
      obtain ⟨h_3, hf⟩ := ck_s hf
      refine z_zld hx hb hZ 15 14 rfl rfl h_3 dX6_lookAtOthers_21 ?_
      refine lv_if_eq (tgt := 92) hx hb dX6_lookAtOthers_22 (by decide) (fun c_4 => ?_) (fun c_4 => ?_)
      · have hf := ite_t c_4 hf
        obtain ⟨v5, e_v5⟩ : ∃ y : Int32, y = x2 + 1 := ⟨_, rfl⟩
        have hf := lt_n e_v5 hf
        refine lv_iinc (v := v5) (lv' := [(2, .int v5), (0, .ref (ad 0)), (1, .int x1), (3, .int x3)]) hx hb dX6_lookAtOthers_92 hl (k := 2) rfl (by rw [e_v5]; rfl) (by decide) rfl (fun ls hl => ?_)
        refine lv_goto (tgt := 2) hx hb dX6_lookAtOthers_95 (by decide) ?_
        exact hK2 σ x1 v5 _ _ _ hZ (lv_sub hl [1, 2, 0] rfl) hf
      · have hf := ite_f c_4 hf
        refine lv_iconst (v := 0) hx hb dX6_lookAtOthers_25 (by decide) ?_
        refine lv_istore (lv' := [(4, .int 0), (0, .ref (ad 0)), (1, .int x1), (2, .int x2), (3, .int x3)]) hx hb dX6_lookAtOthers_26 hl (by decide) rfl (fun ls hl => ?_)
        exact wk_X6_lookAtOthers_28 C0 K2 hK2 (fn_X6_lookAtOthers_10 K2 n) ih fu σ x1 x2 x3 0 _ _ _ hZ (lv_sub hl [1, 2, 3, 4, 0] rfl) hf
set_option maxHeartbeats 4000000 in
set_option maxRecDepth 100000 in
theorem wk_X6_lookAtOthers_2 {p : Program} {l : Launch} {e : Env} {s : State} {m : MethodId} {args : Array Value} {below : List Frame} {meth : Method} {c : Code} {D : va_G} {A : Nat → Prop} {ad : Nat → Nat} {cA : Nat → ClassId} {rs : va_W} {tr : List (ClassId × FieldType)} {res : S2} (C0 : cx p m meth c cX6_lookAtOthers none 5 s args tb nl RX6) : ∀ (n : Nat) (σ : S2) (x1 : Int32) (x2 : Int32), ∀ (H : Heap) (locs : List Loc) (ls : Array Slot), zz D vwCl (tyM cA tr) A (wM ad cA rs) s s.heap H locs σ → lv_has ls 5 [(0, .ref (ad 0)), (1, .int x1), (2, .int x2)] → fn_X6_lookAtOthers_2 n σ x1 x2 = some res → W p l e rm_X6_lookAtOthers s m args below meth c H locs 0 0 (MQ below (va_Qv (fun u' => u' = res) (zB D vwCl (tyM cA tr) A (wM ad cA rs)) A) args s 0 0 A) (F0 m 2 ls []) := by
  obtain ⟨hx, hb, hr, hml, hown, htt, hlocks, hnw⟩ := id C0
  intro n
  induction n with
  | zero => intro σ x1 x2 H locs ls hZ hl hf; exact no_some hf
  | succ n ih =>
    intro σ x1 x2 H locs ls hZ hl hf
    rw [fn_X6_lookAtOthers_2] at hf
    refine lv_iload_n hx hb dX6_lookAtOthers_2 rfl (lv_at hl 2 rfl) ?_
    refine lv_bipush (v := 20) hx hb dX6_lookAtOthers_3 (by decide) ?_
    refine lv_icmp_ge (tgt := 98) hx hb dX6_lookAtOthers_5 (by decide) (fun c_1 => ?_) (fun c_1 => ?_)
    · have hf := ite_t c_1 hf
      exact z_vret hx hb hr hlocks hZ (Option.some.inj hf) dX6_lookAtOthers_98
    · have hf := ite_f c_1 hf
      refine lv_iconst (v := 0) hx hb dX6_lookAtOthers_8 (by decide) ?_
      refine lv_istore_n (lv' := [(3, .int 0), (0, .ref (ad 0)), (1, .int x1), (2, .int x2)]) hx hb dX6_lookAtOthers_9 rfl hl (by decide) rfl (fun ls hl => ?_)
      exact wk_X6_lookAtOthers_10 C0 (fn_X6_lookAtOthers_2 n) ih fu σ x1 x2 0 _ _ _ hZ (lv_sub hl [1, 2, 3, 0] rfl) hf
set_option maxHeartbeats 4000000 in
set_option maxRecDepth 100000 in
theorem ct_X6_lookAtOthers (l : Launch) (D : va_G) (A : Nat → Prop) (ad : Nat → Nat) (cA : Nat → ClassId) (rs : va_W) (tr : List (ClassId × FieldType)) (σ : S2) (x1 : Int32) {res : S2} (hf : fn_X6_lookAtOthers σ x1 = some res) : Met l yX6_lookAtOthers (.code yX6_lookAtOthers cX6_lookAtOthers 5 none :: tb) rm_X6_lookAtOthers (va_Pc [.ref (ad 0), .int x1] (zN D vwCl (tyM cA tr) A (wM ad cA rs) nl σ)) (va_Qv (fun u' => u' = res) (zB D vwCl (tyM cA tr) A (wM ad cA rs)) A) 0 0 A := by
  refine Met.ofW (cc := cX6_lookAtOthers) (maxL := 5) (ret := none) (by decide) rfl ?_
  intro p e s m args below meth c s₁ B hml hv
  obtain ⟨rfl, hB, hnw0⟩ := hv
  have htt : ∀ w ∈ tb, w.before (([.ref (ad 0), .int x1] : List Value).toArray) s = true := fun w h => atoms_spec (ws := (.code yX6_lookAtOthers cX6_lookAtOthers 5 none :: tb)) B.pre w (List.mem_cons_of_mem _ h)
  have C0 : cx p m meth c cX6_lookAtOthers none 5 s (([.ref (ad 0), .int x1] : List Value).toArray) tb nl RX6 := ⟨B.exec, B.bytes, B.returns, hml, findClass_of_methodNamed B.named, htt, B.notSynchronized, hnw0⟩
  obtain ⟨hx, hb, hr, hml, hown, htt, hlocks, hnw⟩ := id C0
  have hZ := z_start hB
  have hl := lv_entry ([.ref (ad 0), .int x1]) (n := 5) (Nat.le_of_ble_eq_true rfl)
  rw [lg_entry_eq]
  generalize (lg_sl ([.ref (ad 0), .int x1]) ++ List.replicate (5 - (lg_sl ([.ref (ad 0), .int x1])).length) Slot.unset).toArray = ls at hl ⊢
  have hl : lv_has ls 5 [(0, .ref (ad 0)), (1, .int x1)] := hl
  unfold fn_X6_lookAtOthers at hf
  refine lv_iconst (v := 0) hx hb dX6_lookAtOthers_0 (by decide) ?_
  refine lv_istore_n (lv' := [(2, .int 0), (0, .ref (ad 0)), (1, .int x1)]) hx hb dX6_lookAtOthers_1 rfl hl (by decide) rfl (fun ls hl => ?_)
  exact wk_X6_lookAtOthers_2 C0  fu σ x1 0 _ _ _ hZ (lv_sub hl [1, 2, 0] rfl) hf
