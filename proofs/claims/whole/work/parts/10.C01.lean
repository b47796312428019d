abbrev rm_X2_severityOf : Room := { frames := 1, cells := 0, slots := 0, locals := 21 }
def fn_X2_severityOf (σ : S2) (x1 : Int32) : Option (Int32) := lt (fn_X2_has σ x1) (fun r1 => if r1 = 0 then some 2 else ck x1 12 (some (σ.1 9 (x1).toNatClampNeg)))
set_option maxHeartbeats 4000000 in
set_option maxRecDepth 100000 in
theorem ct_X2_severityOf (l : Launch) (D : va_G) (A : Nat → Prop) (ad : Nat → Nat) (cA : Nat → ClassId) (rs : va_W) (tr : List (ClassId × FieldType)) (σ : S2) (x1 : Int32) {res : Int32} (hf : fn_X2_severityOf σ x1 = some res) : Met l yX2_severityOf (.code yX2_severityOf cX2_severityOf 2 (some .int) :: tb) rm_X2_severityOf (va_Pc [.ref (ad 2), .int x1] (zN D vwCl (tyC cA tr) A (wC ad cA rs) nl σ)) (va_Qi (fun r' u' => r' = res ∧ u' = σ) (zB D vwCl (tyC cA tr) A (wC ad cA rs)) A) 0 0 A := by
  refine Met.ofW (cc := cX2_severityOf) (maxL := 2) (ret := (some .int)) (by decide) rfl ?_
  intro p e s m args below meth c s₁ B hml hv
  obtain ⟨rfl, hB, hnw0⟩ := hv
  have htt : ∀ w ∈ tb, w.before (([.ref (ad 2), .int x1] : List Value).toArray) s = true := fun w h => atoms_spec (ws := (.code yX2_severityOf cX2_severityOf 2 (some .int) :: tb)) B.pre w (List.mem_cons_of_mem _ h)
  have C0 : cx p m meth c cX2_severityOf (some .int) 2 s (([.ref (ad 2), .int x1] : List Value).toArray) tb nl RX2 := ⟨B.exec, B.bytes, B.returns, hml, findClass_of_methodNamed B.named, htt, B.notSynchronized, hnw0⟩
  obtain ⟨hx, hb, hr, hml, hown, htt, hlocks, hnw⟩ := id C0
  have hZ := z_start hB
  have hl := lv_entry ([.ref (ad 2), .int x1]) (n := 2) (Nat.le_of_ble_eq_true rfl)
  rw [lg_entry_eq]
  generalize (lg_sl ([.ref (ad 2), .int x1]) ++ List.replicate (2 - (lg_sl ([.ref (ad 2), .int x1])).length) Slot.unset).toArray = ls at hl ⊢
  have hl : lv_has ls 2 [(0, .ref (ad 2)), (1, .int x1)] := hl
  unfold fn_X2_severityOf at hf
  refine lv_aload_n hx hb dX2_severityOf_0 rfl (lv_at hl 0 rfl) ?_
  refine lv_iload_n hx hb dX2_severityOf_1 rfl (lv_at hl 1 rfl) ?_
  refine z_calli (z_runV (As := [.int x1]) (rest := []) ⟨hx, hb, hml, hown, htt⟩ gT (ct_X2_has l D A ad cA rs tr σ x1 rfl) md_X2_has lm_X2_25 rfl rfl ⟨Nat.le_of_ble_eq_true rfl, Nat.le_of_ble_eq_true rfl⟩ (z_preV gN hnw hZ rfl (q0 := 2) (ci := 2) rfl) rfl rfl hl.1 rfl (lv_room (Nat.le_of_ble_eq_true rfl)) dX2_severityOf_2 ⟨Nat.le_of_ble_eq_true rfl, Nat.le_of_ble_eq_true rfl⟩) hZ (fun H locs hZ => ?_)
  refine lv_topi (fun r1 e_r1 => ?_)
  have hf := lt_n e_r1 hf
  refine lv_if_eq (tgt := 17) hx hb dX2_severityOf_5 (by decide) (fun c_2 => ?_) (fun c_2 => ?_)
  · have hf := ite_t c_2 hf
    refine lv_iconst (v := 2) hx hb dX2_severityOf_17 (by decide) ?_
    exact z_iret hx hb hr hlocks hZ (Option.some.inj hf) rfl dX2_severityOf_18
  · have hf := ite_f c_2 hf
    refine lv_aload_n hx hb dX2_severityOf_8 rfl (lv_at hl 0 rfl) ?_
    refine z_get hx hb htt iw_X2 hown hZ 2 rfl rfl 1 (by decide) lf_X2_15 rfl dX2_severityOf_9 ?_
    refine lv_iload_n hx hb dX2_severityOf_12 rfl (lv_at hl 1 rfl) ?_
    obtain ⟨h_3, hf⟩ := ck_s hf
    refine z_ild hx hb hZ 9 3 rfl rfl h_3 dX2_severityOf_13 ?_
    refine lv_goto (tgt := 18) hx hb dX2_severityOf_14 (by decide) ?_
    exact z_iret hx hb hr hlocks hZ (Option.some.inj hf) rfl dX2_severityOf_18
abbrev rm_X0_severity : Room := { frames := 2, cells := 0, slots := 0, locals := 42 }
def fn_X0_severity (σ : S2) (x1 : Int32) (x2 : Int32) : Option (Int32 × S2) := lt (fn_X2_has σ x1) (fun r1 => if r1 = 0 then some ((-1), σ) else lt (fn_X0_isBetween x2 0 2) (fun r3 => if r3 = 0 then some ((-1), σ) else bn (fn_X2_severityOf σ x1) (fun r6 => if r6 = x2 then some (0, σ) else ck x1 12 (lt (st σ 9 (x1).toNatClampNeg x2) (fun σ9 => some (1, σ9))))))
set_option maxHeartbeats 4000000 in
set_option maxRecDepth 100000 in
theorem ct_X0_severity (l : Launch) (D : va_G) (A : Nat → Prop) (ad : Nat → Nat) (cA : Nat → ClassId) (rs : va_W) (tr : List (ClassId × FieldType)) (σ : S2) (x1 : Int32) (x2 : Int32) {res : Int32 × S2} (hf : fn_X0_severity σ x1 x2 = some res) : Met l yX0_severity (.code yX0_severity cX0_severity 3 (some .int) :: tb) rm_X0_severity (va_Pc [.ref (ad 0), .int x1, .int x2] (zN D vwCl (tyC cA tr) A (wC ad cA rs) nl σ)) (va_Qi (fun r' u' => r' = res.1 ∧ u' = res.2) (zB D vwCl (tyC cA tr) A (wC ad cA rs)) A) 0 0 A := by
  refine Met.ofW (cc := cX0_severity) (maxL := 3) (ret := (some .int)) (by decide) rfl ?_
  intro p e s m args below meth c s₁ B hml hv
  obtain ⟨rfl, hB, hnw0⟩ := hv
  have htt : ∀ w ∈ tb, w.before (([.ref (ad 0), .int x1, .int x2] : List Value).toArray) s = true := fun w h => atoms_spec (ws := (.code yX0_severity cX0_severity 3 (some .int) :: tb)) B.pre w (List.mem_cons_of_mem _ h)
  have C0 : cx p m meth c cX0_severity (some .int) 3 s (([.ref (ad 0), .int x1, .int x2] : List Value).toArray) tb nl RX0 := ⟨B.exec, B.bytes, B.returns, hml, findClass_of_methodNamed B.named, htt, B.notSynchronized, hnw0⟩
  obtain ⟨hx, hb, hr, hml, hown, htt, hlocks, hnw⟩ := id C0
  have hZ := z_start hB
  have hl := lv_entry ([.ref (ad 0), .int x1, .int x2]) (n := 3) (Nat.le_of_ble_eq_true rfl)
  rw [lg_entry_eq]
  generalize (lg_sl ([.ref (ad 0), .int x1, .int x2]) ++ List.replicate (3 - (lg_sl ([.ref (ad 0), .int x1, .int x2])).length) Slot.unset).toArray = ls at hl ⊢
  have hl : lv_has ls 3 [(0, .ref (ad 0)), (1, .int x1), (2, .int x2)] := hl
  unfold fn_X0_severity at hf
  refine lv_aload_n hx hb dX0_severity_0 rfl (lv_at hl 0 rfl) ?_
  refine z_get hx hb htt iw_X0 hown hZ 0 rfl rfl 1 (by decide) lf_X0_19 rfl dX0_severity_1 ?_
  refine lv_iload_n hx hb dX0_severity_4 rfl (lv_at hl 1 rfl) ?_
  refine z_calli (z_runVN (As := [.int x1]) (rest := []) ⟨hx, hb, hml, hown, htt⟩ gT (ct_X2_has l D A ad cA rs tr σ x1 rfl) md_X2_has hnw lm_X0_73 rfl rfl ⟨Nat.le_of_ble_eq_true rfl, Nat.le_of_ble_eq_true rfl⟩ (z_preV gN hnw hZ rfl (q0 := 2) (ci := 2) rfl) rfl rfl hl.1 rfl (lv_room (Nat.le_of_ble_eq_true rfl)) dX0_severity_5 ⟨Nat.le_of_ble_eq_true rfl, Nat.le_of_ble_eq_true rfl⟩) hZ (fun H locs hZ => ?_)
  refine lv_topi (fun r1 e_r1 => ?_)
  have hf := lt_n e_r1 hf
  refine lv_if_eq (tgt := 20) hx hb dX0_severity_8 (by decide) (fun c_2 => ?_) (fun c_2 => ?_)
  · have hf := ite_t c_2 hf
    refine lv_iconst (v := (-1)) hx hb dX0_severity_20 (by decide) ?_
    exact z_iret hx hb hr hlocks hZ (sp_1 hf) (sp_2 hf) dX0_severity_21
  · have hf := ite_f c_2 hf
    refine lv_iload_n hx hb dX0_severity_11 rfl (lv_at hl 2 rfl) ?_
    refine lv_iconst (v := 0) hx hb dX0_severity_12 (by decide) ?_
    refine lv_iconst (v := 2) hx hb dX0_severity_13 (by decide) ?_
    refine z_pcalli (z_runS (As := [.int x2, .int 0, .int 2]) (rest := []) ⟨hx, hb, hml, hown, htt⟩ gT (ct_X0_isBetween l x2 0 2 rfl) md_X0_isBetween lm_X0_76 rfl rfl ⟨Nat.le_of_ble_eq_true rfl, Nat.le_of_ble_eq_true rfl⟩ z_preP rfl rfl hl.1 rfl (lv_room (Nat.le_of_ble_eq_true rfl)) dX0_severity_14 ⟨Nat.le_of_ble_eq_true rfl, Nat.le_of_ble_eq_true rfl⟩) ?_
    refine lv_topi (fun r3 e_r3 => ?_)
    have hf := lt_n e_r3 hf
    refine lv_if_ne (tgt := 22) hx hb dX0_severity_17 (by decide) (fun c_4 => ?_) (fun c_4 => ?_)
    · have hf := ite_f c_4 hf
      refine lv_aload_n hx hb dX0_severity_22 rfl (lv_at hl 0 rfl) ?_
      refine z_get hx hb htt iw_X0 hown hZ 0 rfl rfl 1 (by decide) lf_X0_19 rfl dX0_severity_23 ?_
      refine lv_iload_n hx hb dX0_severity_26 rfl (lv_at hl 1 rfl) ?_
      obtain ⟨r6, k_5, hf⟩ := bn_s hf
      refine z_calli (z_runVN (As := [.int x1]) (rest := []) ⟨hx, hb, hml, hown, htt⟩ gT (ct_X2_severityOf l D A ad cA rs tr σ x1 k_5) md_X2_severityOf hnw lm_X0_79 rfl rfl ⟨Nat.le_of_ble_eq_true rfl, Nat.le_of_ble_eq_true rfl⟩ (z_preV gN hnw hZ rfl (q0 := 2) (ci := 2) rfl) rfl rfl hl.1 rfl (lv_room (Nat.le_of_ble_eq_true rfl)) dX0_severity_27 ⟨Nat.le_of_ble_eq_true rfl, Nat.le_of_ble_eq_true rfl⟩) hZ (fun H locs hZ => ?_)
      refine lv_iload_n hx hb dX0_severity_30 rfl (lv_at hl 2 rfl) ?_
      refine lv_icmp_ne (tgt := 36) hx hb dX0_severity_31 (by decide) (fun c_7 => ?_) (fun c_7 => ?_)
      · have hf := ite_f c_7 hf
        refine lv_aload_n hx hb dX0_severity_36 rfl (lv_at hl 0 rfl) ?_
        refine z_get hx hb htt iw_X0 hown hZ 0 rfl rfl 1 (by decide) lf_X0_19 rfl dX0_severity_37 ?_
        refine z_getN hx hb gN hnw htt iw_X2 hown hZ 2 rfl rfl 1 (by decide) lf_X0_82 rfl dX0_severity_40 ?_
        refine lv_iload_n hx hb dX0_severity_43 rfl (lv_at hl 1 rfl) ?_
        refine lv_iload_n hx hb dX0_severity_44 rfl (lv_at hl 2 rfl) ?_
        obtain ⟨h_8, hf⟩ := ck_s hf
        refine z_ist (σ' := st σ 9 (x1).toNatClampNeg x2) hx hb hZ 9 3 rfl rfl h_8 dX0_severity_45 rfl (fun σ9 H locs e_σ9 hZ => ?_)
        have hf := lt_n e_σ9 hf
        refine lv_iconst (v := 1) hx hb dX0_severity_46 (by decide) ?_
        exact z_iret hx hb hr hlocks hZ (sp_1 hf) (sp_2 hf) dX0_severity_47
      · have hf := ite_t c_7 hf
        refine lv_iconst (v := 0) hx hb dX0_severity_34 (by decide) ?_
        exact z_iret hx hb hr hlocks hZ (sp_1 hf) (sp_2 hf) dX0_severity_35
    · have hf := ite_t c_4 hf
      refine lv_iconst (v := (-1)) hx hb dX0_severity_20 (by decide) ?_
      exact z_iret hx hb hr hlocks hZ (sp_1 hf) (sp_2 hf) dX0_severity_21
abbrev rm_X0_isTarget : Room := { frames := 1, cells := 0, slots := 0, locals := 20 }
def fn_X0_isTarget (x0 : Int32) (x1 : Int32) : Int32 := if x0 = 0 then lt (fn_X0_isTerm x1) (fun r2 => r2) else if x0 = 1 then lt (fn_X0_isNode x1) (fun r4 => r4) else if x0 = 2 then lt (fn_X0_isPredicate x1) (fun r6 => r6) else if x0 = 3 then lt (fn_X0_isPredicate x1) (fun r8 => r8) else 0
set_option maxHeartbeats 4000000 in
set_option maxRecDepth 100000 in
theorem ct_X0_isTarget (l : Launch) (x0 : Int32) (x1 : Int32) {res : Int32} (hf : fn_X0_isTarget x0 x1 = res) : Met l yX0_isTarget (.code yX0_isTarget cX0_isTarget 2 (some .boolean) :: tb) rm_X0_isTarget (va_Pc [.int x0, .int x1] (fun _ => True)) (vp_Si (fun r' => r' = res)) 0 0 (fun _ => False) := by
  refine Met.ofW (cc := cX0_isTarget) (maxL := 2) (ret := (some .boolean)) (by decide) rfl ?_
  intro p e s m args below meth c s₁ B hml hv
  obtain ⟨rfl, hB⟩ := hv
  have htt : ∀ w ∈ tb, w.before (([.int x0, .int x1] : List Value).toArray) s = true := fun w h => atoms_spec (ws := (.code yX0_isTarget cX0_isTarget 2 (some .boolean) :: tb)) B.pre w (List.mem_cons_of_mem _ h)
  have C0 : cx p m meth c cX0_isTarget (some .boolean) 2 s (([.int x0, .int x1] : List Value).toArray) tb [] RX0 := ⟨B.exec, B.bytes, B.returns, hml, findClass_of_methodNamed B.named, htt, B.notSynchronized, fun _ h => absurd h List.not_mem_nil⟩
  obtain ⟨hx, hb, hr, hml, hown, htt, hlocks, hnw⟩ := id C0
  have hl := lv_entry ([.int x0, .int x1]) (n := 2) (Nat.le_of_ble_eq_true rfl)
  rw [lg_entry_eq]
  generalize (lg_sl ([.int x0, .int x1]) ++ List.replicate (2 - (lg_sl ([.int x0, .int x1])).length) Slot.unset).toArray = ls at hl ⊢
  have hl : lv_has ls 2 [(0, .int x0), (1, .int x1)] := hl
  unfold fn_X0_isTarget at hf
  refine lv_iload_n hx hb dX0_isTarget_0 rfl (lv_at hl 0 rfl) ?_
  by_cases c_1 : x0 = 0
  · have hf := ite_t c_1 hf
    refine lv_tableIn (tgt := 32) hx hb dX0_isTarget_1 (by rw [c_1]; decide) (by rw [c_1]; decide) (by rw [c_1]; rfl) (by decide) ?_
    refine lv_iload_n hx hb dX0_isTarget_32 rfl (lv_at hl 1 rfl) ?_
    refine z_pcalli (z_runS (As := [.int x1]) (rest := []) ⟨hx, hb, hml, hown, htt⟩ gT (ct_X0_isTerm l x1 rfl) md_X0_isTerm lm_X0_129 rfl rfl ⟨Nat.le_of_ble_eq_true rfl, Nat.le_of_ble_eq_true rfl⟩ z_preP rfl rfl hl.1 rfl (lv_room (Nat.le_of_ble_eq_true rfl)) dX0_isTarget_33 ⟨Nat.le_of_ble_eq_true rfl, Nat.le_of_ble_eq_true rfl⟩) ?_
    refine lv_topi (fun r2 e_r2 => ?_)
    have hf := lt_n e_r2 hf
    exact z_pzret hx hb hr hlocks (bo_X0_isTerm e_r2) hf dX0_isTarget_36
  have hf := ite_f c_1 hf
  by_cases c_3 : x0 = 1
  · have hf := ite_t c_3 hf
    refine lv_tableIn (tgt := 37) hx hb dX0_isTarget_1 (by rw [c_3]; decide) (by rw [c_3]; decide) (by rw [c_3]; rfl) (by decide) ?_
    refine lv_iload_n hx hb dX0_isTarget_37 rfl (lv_at hl 1 rfl) ?_
    refine z_pcalli (z_runS (As := [.int x1]) (rest := []) ⟨hx, hb, hml, hown, htt⟩ gT (ct_X0_isNode l x1 rfl) md_X0_isNode lm_X0_152 rfl rfl ⟨Nat.le_of_ble_eq_true rfl, Nat.le_of_ble_eq_true rfl⟩ z_preP rfl rfl hl.1 rfl (lv_room (Nat.le_of_ble_eq_true rfl)) dX0_isTarget_38 ⟨Nat.le_of_ble_eq_true rfl, Nat.le_of_ble_eq_true rfl⟩) ?_
    refine lv_topi (fun r4 e_r4 => ?_)
    have hf := lt_n e_r4 hf
    exact z_pzret hx hb hr hlocks (bo_X0_isNode e_r4) hf dX0_isTarget_41
  have hf := ite_f c_3 hf
  by_cases c_5 : x0 = 2
  · have hf := ite_t c_5 hf
    refine lv_tableIn (tgt := 42) hx hb dX0_isTarget_1 (by rw [c_5]; decide) (by rw [c_5]; decide) (by rw [c_5]; rfl) (by decide) ?_
    refine lv_iload_n hx hb dX0_isTarget_42 rfl (lv_at hl 1 rfl) ?_
    refine z_pcalli (z_runS (As := [.int x1]) (rest := []) ⟨hx, hb, hml, hown, htt⟩ gT (ct_X0_isPredicate l x1 rfl) md_X0_isPredicate lm_X0_158 rfl rfl ⟨Nat.le_of_ble_eq_true rfl, Nat.le_of_ble_eq_true rfl⟩ z_preP rfl rfl hl.1 rfl (lv_room (Nat.le_of_ble_eq_true rfl)) dX0_isTarget_43 ⟨Nat.le_of_ble_eq_true rfl, Nat.le_of_ble_eq_true rfl⟩) ?_
    refine lv_topi (fun r6 e_r6 => ?_)
    have hf := lt_n e_r6 hf
    exact z_pzret hx hb hr hlocks (bo_X0_isPredicate e_r6) hf dX0_isTarget_46
  have hf := ite_f c_5 hf
  by_cases c_7 : x0 = 3
  · have hf := ite_t c_7 hf
    refine lv_tableIn (tgt := 42) hx hb dX0_isTarget_1 (by rw [c_7]; decide) (by rw [c_7]; decide) (by rw [c_7]; rfl) (by decide) ?_
    refine lv_iload_n hx hb dX0_isTarget_42 rfl (lv_at hl 1 rfl) ?_
    refine z_pcalli (z_runS (As := [.int x1]) (rest := []) ⟨hx, hb, hml, hown, htt⟩ gT (ct_X0_isPredicate l x1 rfl) md_X0_isPredicate lm_X0_158 rfl rfl ⟨Nat.le_of_ble_eq_true rfl, Nat.le_of_ble_eq_true rfl⟩ z_preP rfl rfl hl.1 rfl (lv_room (Nat.le_of_ble_eq_true rfl)) dX0_isTarget_43 ⟨Nat.le_of_ble_eq_true rfl, Nat.le_of_ble_eq_true rfl⟩) ?_
    refine lv_topi (fun r8 e_r8 => ?_)
    have hf := lt_n e_r8 hf
    exact z_pzret hx hb hr hlocks (bo_X0_isPredicate e_r8) hf dX0_isTarget_46
  have hf := ite_f c_7 hf
  have nc_1 := lv_neT c_1 (show (0 : Int32).toInt = 0 from by decide)
  have nc_3 := lv_neT c_3 (show (1 : Int32).toInt = 1 from by decide)
  have nc_5 := lv_neT c_5 (show (2 : Int32).toInt = 2 from by decide)
  have nc_7 := lv_neT c_7 (show (3 : Int32).toInt = 3 from by decide)
  have h_9 : (x0).toInt < 0 ∨ 3 < (x0).toInt := by omega
  refine z_tdef (tgt := 47) hx hb dX0_isTarget_1 (by
    rcases h_9 with h_9 | h_9
    · exact Or.inl h_9
    · exact Or.inr (Or.inl h_9)) (by decide) ?_
  refine lv_iconst (v := 0) hx hb dX0_isTarget_47 (by decide) ?_
  exact z_pzret hx hb hr hlocks rfl hf dX0_isTarget_48
abbrev rm_X3_add : Room := { frames := 0, cells := 0, slots := 0, locals := 0 }
def fn_X3_add (σ : S2) (x1 : Int32) (x2 : Int32) (x3 : Int32) : Option (S2) := if 24 ≤ (σ.1 3 0) then some σ else ck (σ.1 3 0) 24 (lt (st σ 11 ((σ.1 3 0)).toNatClampNeg x1) (fun σ3 => ck (σ3.1 3 0) 24 (lt (st σ3 12 ((σ3.1 3 0)).toNatClampNeg x2) (fun σ5 => ck (σ5.1 3 0) 24 (lt (st σ5 13 ((σ5.1 3 0)).toNatClampNeg x3) (fun σ7 => lt (st σ7 3 0 ((σ7.1 3 0) + 1)) (fun σ8 => some σ8)))))))
set_option maxHeartbeats 4000000 in
set_option maxRecDepth 100000 in
theorem ct_X3_add (l : Launch) (D : va_G) (A : Nat → Prop) (ad : Nat → Nat) (cA : Nat → ClassId) (rs : va_W) (tr : List (ClassId × FieldType)) (σ : S2) (x1 : Int32) (x2 : Int32) (x3 : Int32) {res : S2} (hf : fn_X3_add σ x1 x2 x3 = some res) : Met l yX3_add (.code yX3_add cX3_add 4 none :: tb) rm_X3_add (va_Pc [.ref (ad 3), .int x1, .int x2, .int x3] (zN D vwCl (tyC cA tr) A (wC ad cA rs) nl σ)) (va_Qv (fun u' => u' = res) (zB D vwCl (tyC cA tr) A (wC ad cA rs)) A) 0 0 A := by
  refine Met.ofW (cc := cX3_add) (maxL := 4) (ret := none) (by decide) rfl ?_
  intro p e s m args below meth c s₁ B hml hv
  obtain ⟨rfl, hB, hnw0⟩ := hv
  have htt : ∀ w ∈ tb, w.before (([.ref (ad 3), .int x1, .int x2, .int x3] : List Value).toArray) s = true := fun w h => atoms_spec (ws := (.code yX3_add cX3_add 4 none :: tb)) B.pre w (List.mem_cons_of_mem _ h)
  have C0 : cx p m meth c cX3_add none 4 s (([.ref (ad 3), .int x1, .int x2, .int x3] : List Value).toArray) tb nl RX3 := ⟨B.exec, B.bytes, B.returns, hml, findClass_of_methodNamed B.named, htt, B.notSynchronized, hnw0⟩
  obtain ⟨hx, hb, hr, hml, hown, htt, hlocks, hnw⟩ := id C0
  have hZ := z_start hB
  have hl := lv_entry ([.ref (ad 3), .int x1, .int x2, .int x3]) (n := 4) (Nat.le_of_ble_eq_true rfl)
  rw [lg_entry_eq]
  generalize (lg_sl ([.ref (ad 3), .int x1, .int x2, .int x3]) ++ List.replicate (4 - (lg_sl ([.ref (ad 3), .int x1, .int x2, .int x3])).length) Slot.unset).toArray = ls at hl ⊢
  have hl : lv_has ls 4 [(0, .ref (ad 3)), (1, .int x1), (2, .int x2), (3, .int x3)] := hl
  unfold fn_X3_add at hf
  refine lv_aload_n hx hb dX3_add_0 rfl (lv_at hl 0 rfl) ?_
  refine z_get hx hb htt iw_X3 hown hZ 3 rfl rfl 3 (by decide) lf_X3_21 rfl dX3_add_1 ?_
  refine lv_bipush (v := 24) hx hb dX3_add_4 (by decide) ?_
  refine lv_icmp_ge (tgt := 49) hx hb dX3_add_6 (by decide) (fun c_1 => ?_) (fun c_1 => ?_)
  · have hf := ite_t c_1 hf
    exact z_vret hx hb hr hlocks hZ (Option.some.inj hf) dX3_add_49
  · have hf := ite_f c_1 hf
    refine lv_aload_n hx hb dX3_add_9 rfl (lv_at hl 0 rfl) ?_
    refine z_get hx hb htt iw_X3 hown hZ 3 rfl rfl 0 (by decide) lf_X3_9 rfl dX3_add_10 ?_
    refine lv_aload_n hx hb dX3_add_13 rfl (lv_at hl 0 rfl) ?_
    refine z_get hx hb htt iw_X3 hown hZ 3 rfl rfl 3 (by decide) lf_X3_21 rfl dX3_add_14 ?_
    refine lv_iload_n hx hb dX3_add_17 rfl (lv_at hl 1 rfl) ?_
    obtain ⟨h_2, hf⟩ := ck_s hf
    refine z_ist (σ' := st σ 11 ((σ.1 3 0)).toNatClampNeg x1) hx hb hZ 11 5 rfl rfl h_2 dX3_add_18 rfl (fun σ3 H locs e_σ3 hZ => ?_)
    have hf := lt_n e_σ3 hf
    refine lv_aload_n hx hb dX3_add_19 rfl (lv_at hl 0 rfl) ?_
    refine z_get hx hb htt iw_X3 hown hZ 3 rfl rfl 1 (by decide) lf_X3_15 rfl dX3_add_20 ?_
    refine lv_aload_n hx hb dX3_add_23 rfl (lv_at hl 0 rfl) ?_
    refine z_get hx hb htt iw_X3 hown hZ 3 rfl rfl 3 (by decide) lf_X3_21 rfl dX3_add_24 ?_
    refine lv_iload_n hx hb dX3_add_27 rfl (lv_at hl 2 rfl) ?_
    obtain ⟨h_4, hf⟩ := ck_s hf
    refine z_ist (σ' := st σ3 12 ((σ3.1 3 0)).toNatClampNeg x2) hx hb hZ 12 6 rfl rfl h_4 dX3_add_28 rfl (fun σ5 H locs e_σ5 hZ => ?_)
    have hf := lt_n e_σ5 hf
    refine lv_aload_n hx hb dX3_add_29 rfl (lv_at hl 0 rfl) ?_
    refine z_get hx hb htt iw_X3 hown hZ 3 rfl rfl 2 (by decide) lf_X3_18 rfl dX3_add_30 ?_
    refine lv_aload_n hx hb dX3_add_33 rfl (lv_at hl 0 rfl) ?_
    refine z_get hx hb htt iw_X3 hown hZ 3 rfl rfl 3 (by decide) lf_X3_21 rfl dX3_add_34 ?_
    refine lv_iload_n hx hb dX3_add_37 rfl (lv_at hl 3 rfl) ?_
    obtain ⟨h_6, hf⟩ := ck_s hf
    refine z_ist (σ' := st σ5 13 ((σ5.1 3 0)).toNatClampNeg x3) hx hb hZ 13 7 rfl rfl h_6 dX3_add_38 rfl (fun σ7 H locs e_σ7 hZ => ?_)
    have hf := lt_n e_σ7 hf
    refine lv_aload_n hx hb dX3_add_39 rfl (lv_at hl 0 rfl) ?_
    refine lv_dup hx hb dX3_add_40 rfl ?_
    refine z_get hx hb htt iw_X3 hown hZ 3 rfl rfl 3 (by decide) lf_X3_21 rfl dX3_add_41 ?_
    refine lv_iconst (v := 1) hx hb dX3_add_44 (by decide) ?_
    refine lv_iadd hx hb dX3_add_45 ?_
    refine z_put (σ' := st σ7 3 0 ((σ7.1 3 0) + 1)) hx hb htt iw_X3 tyX3 to_X3 nm_X3 hown hZ 3 rfl rfl 3 (by decide) lf_X3_21 rfl rfl rfl (Nat.le_of_ble_eq_true rfl) dX3_add_46 rfl (fun σ8 H locs e_σ8 hZ => ?_)
    have hf := lt_n e_σ8 hf
    exact z_vret hx hb hr hlocks hZ (Option.some.inj hf) dX3_add_49
abbrev rm_X0_target : Room := { frames := 2, cells := 0, slots := 0, locals := 41 }
def fn_X0_target (σ : S2) (x1 : Int32) (x2 : Int32) (x3 : Int32) : Option (Int32 × S2) := lt (fn_X2_has σ x1) (fun r1 => if r1 = 0 then some ((-1), σ) else lt (fn_X0_isTarget x2 x3) (fun r3 => if r3 = 0 then some ((-1), σ) else if (σ.1 3 0) < 24 then bn (fn_X3_add σ x1 x2 x3) (fun σ7 => lt (st σ7 0 0 0) (fun σ8 => some ((σ8.1 3 0), σ8))) else some ((-3), σ)))
set_option maxHeartbeats 4000000 in
set_option maxRecDepth 100000 in
theorem ct_X0_target (l : Launch) (D : va_G) (A : Nat → Prop) (ad : Nat → Nat) (cA : Nat → ClassId) (rs : va_W) (tr : List (ClassId × FieldType)) (σ : S2) (x1 : Int32) (x2 : Int32) (x3 : Int32) {res : Int32 × S2} (hf : fn_X0_target σ x1 x2 x3 = some res) : Met l yX0_target (.code yX0_target cX0_target 4 (some .int) :: tb) rm_X0_target (va_Pc [.ref (ad 0), .int x1, .int x2, .int x3] (zN D vwCl (tyC cA tr) A (wC ad cA rs) nl σ)) (va_Qi (fun r' u' => r' = res.1 ∧ u' = res.2) (zB D vwCl (tyC cA tr) A (wC ad cA rs)) A) 0 0 A := by
  refine Met.ofW (cc := cX0_target) (maxL := 4) (ret := (some .int)) (by decide) rfl ?_
  intro p e s m args below meth c s₁ B hml hv
  obtain ⟨rfl, hB, hnw0⟩ := hv
  have htt : ∀ w ∈ tb, w.before (([.ref (ad 0), .int x1, .int x2, .int x3] : List Value).toArray) s = true := fun w h => atoms_spec (ws := (.code yX0_target cX0_target 4 (some .int) :: tb)) B.pre w (List.mem_cons_of_mem _ h)
  have C0 : cx p m meth c cX0_target (some .int) 4 s (([.ref (ad 0), .int x1, .int x2, .int x3] : List Value).toArray) tb nl RX0 := ⟨B.exec, B.bytes, B.returns, hml, findClass_of_methodNamed B.named, htt, B.notSynchronized, hnw0⟩
  obtain ⟨hx, hb, hr, hml, hown, htt, hlocks, hnw⟩ := id C0
  have hZ := z_start hB
  have hl := lv_entry ([.ref (ad 0), .int x1, .int x2, .int x3]) (n := 4) (Nat.le_of_ble_eq_true rfl)
  rw [lg_entry_eq]
  generalize (lg_sl ([.ref (ad 0), .int x1, .int x2, .int x3]) ++ List.replicate (4 - (lg_sl ([.ref (ad 0), .int x1, .int x2, .int x3])).length) Slot.unset).toArray = ls at hl ⊢
  have hl : lv_has ls 4 [(0, .ref (ad 0)), (1, .int x1), (2, .int x2), (3, .int x3)] := hl
  unfold fn_X0_target at hf
  refine lv_aload_n hx hb dX0_target_0 rfl (lv_at hl 0 rfl) ?_
  refine z_get hx hb htt iw_X0 hown hZ 0 rfl rfl 1 (by decide) lf_X0_19 rfl dX0_target_1 ?_
  refine lv_iload_n hx hb dX0_target_4 rfl (lv_at hl 1 rfl) ?_
  refine z_calli (z_runVN (As := [.int x1]) (rest := []) ⟨hx, hb, hml, hown, htt⟩ gT (ct_X2_has l D A ad cA rs tr σ x1 rfl) md_X2_has hnw lm_X0_73 rfl rfl ⟨Nat.le_of_ble_eq_true rfl, Nat.le_of_ble_eq_true rfl⟩ (z_preV gN hnw hZ rfl (q0 := 2) (ci := 2) rfl) rfl rfl hl.1 rfl (lv_room (Nat.le_of_ble_eq_true rfl)) dX0_target_5 ⟨Nat.le_of_ble_eq_true rfl, Nat.le_of_ble_eq_true rfl⟩) hZ (fun H locs hZ => ?_)
  refine lv_topi (fun r1 e_r1 => ?_)
  have hf := lt_n e_r1 hf
  refine lv_if_eq (tgt := 19) hx hb dX0_target_8 (by decide) (fun c_2 => ?_) (fun c_2 => ?_)
  · have hf := ite_t c_2 hf
    refine lv_iconst (v := (-1)) hx hb dX0_target_19 (by decide) ?_
    exact z_iret hx hb hr hlocks hZ (sp_1 hf) (sp_2 hf) dX0_target_20
  · have hf := ite_f c_2 hf
    refine lv_iload_n hx hb dX0_target_11 rfl (lv_at hl 2 rfl) ?_
    refine lv_iload_n hx hb dX0_target_12 rfl (lv_at hl 3 rfl) ?_
    refine z_pcalli (z_runS (As := [.int x2, .int x3]) (rest := []) ⟨hx, hb, hml, hown, htt⟩ gT (ct_X0_isTarget l x2 x3 rfl) md_X0_isTarget lm_X0_86 rfl rfl ⟨Nat.le_of_ble_eq_true rfl, Nat.le_of_ble_eq_true rfl⟩ z_preP rfl rfl hl.1 rfl (lv_room (Nat.le_of_ble_eq_true rfl)) dX0_target_13 ⟨Nat.le_of_ble_eq_true rfl, Nat.le_of_ble_eq_true rfl⟩) ?_
    refine lv_topi (fun r3 e_r3 => ?_)
    have hf := lt_n e_r3 hf
    refine lv_if_ne (tgt := 21) hx hb dX0_target_16 (by decide) (fun c_4 => ?_) (fun c_4 => ?_)
    · have hf := ite_f c_4 hf
      refine lv_aload_n hx hb dX0_target_21 rfl (lv_at hl 0 rfl) ?_
      refine z_get hx hb htt iw_X0 hown hZ 0 rfl rfl 2 (by decide) lf_X0_26 rfl dX0_target_22 ?_
      refine z_getN hx hb gN hnw htt iw_X3 hown hZ 3 rfl rfl 3 (by decide) lf_X0_90 rfl dX0_target_25 ?_
      refine lv_bipush (v := 24) hx hb dX0_target_28 (by decide) ?_
      refine lv_icmp_lt (tgt := 36) hx hb dX0_target_30 (by decide) (fun c_5 => ?_) (fun c_5 => ?_)
      · have hf := ite_t c_5 hf
        refine lv_aload_n hx hb dX0_target_36 rfl (lv_at hl 0 rfl) ?_
        refine z_get hx hb htt iw_X0 hown hZ 0 rfl rfl 2 (by decide) lf_X0_26 rfl dX0_target_37 ?_
        refine lv_iload_n hx hb dX0_target_40 rfl (lv_at hl 1 rfl) ?_
        refine lv_iload_n hx hb dX0_target_41 rfl (lv_at hl 2 rfl) ?_
        refine lv_iload_n hx hb dX0_target_42 rfl (lv_at hl 3 rfl) ?_
        obtain ⟨σ7, k_6, hf⟩ := bn_s hf
        refine z_callv (u := σ7) (z_runVN (As := [.int x1, .int x2, .int x3]) (rest := []) ⟨hx, hb, hml, hown, htt⟩ gT (ct_X3_add l D A ad cA rs tr σ x1 x2 x3 k_6) md_X3_add hnw lm_X0_91 rfl rfl ⟨Nat.le_of_ble_eq_true rfl, Nat.le_of_ble_eq_true rfl⟩ (z_preV gN hnw hZ rfl (q0 := 3) (ci := 3) rfl) rfl rfl hl.1 rfl (lv_room (Nat.le_of_ble_eq_true rfl)) dX0_target_43 ⟨Nat.le_of_ble_eq_true rfl, Nat.le_of_ble_eq_true rfl⟩) hZ (fun H locs hZ => ?_)
        refine lv_aload_n hx hb dX0_target_46 rfl (lv_at hl 0 rfl) ?_
        refine z_get hx hb htt iw_X0 hown hZ 0 rfl rfl 4 (by decide) lf_X0_42 rfl dX0_target_47 ?_
        refine lv_iconst (v := 0) hx hb dX0_target_50 (by decide) ?_
        refine z_putN (σ' := st σ7 0 0 0) hx hb gN hnw htt iw_X5 tyX5 to_X5 nm_X5 hown hZ 5 rfl rfl 12 (by decide) lf_X0_61 rfl rfl rfl (Nat.le_of_ble_eq_true rfl) dX0_target_51 rfl (fun σ8 H locs e_σ8 hZ => ?_)
        have hf := lt_n e_σ8 hf
        refine lv_aload_n hx hb dX0_target_54 rfl (lv_at hl 0 rfl) ?_
        refine z_get hx hb htt iw_X0 hown hZ 0 rfl rfl 2 (by decide) lf_X0_26 rfl dX0_target_55 ?_
        refine z_getN hx hb gN hnw htt iw_X3 hown hZ 3 rfl rfl 3 (by decide) lf_X0_90 rfl dX0_target_58 ?_
        exact z_iret hx hb hr hlocks hZ (sp_1 hf) (sp_2 hf) dX0_target_61
      · have hf := ite_f c_5 hf
        refine lv_bipush (v := (-3)) hx hb dX0_target_33 (by decide) ?_
        exact z_iret hx hb hr hlocks hZ (sp_1 hf) (sp_2 hf) dX0_target_35
    · have hf := ite_t c_4 hf
      refine lv_iconst (v := (-1)) hx hb dX0_target_19 (by decide) ?_
      exact z_iret hx hb hr hlocks hZ (sp_1 hf) (sp_2 hf) dX0_target_20
abbrev rm_X0_namesShapeByA : Room := { frames := 1, cells := 0, slots := 0, locals := 22 }
def fn_X0_namesShapeByA (x0 : Int32) : Int32 := lt (fn_X0_isBetween x0 11 17) (fun r1 => r1)
set_option maxHeartbeats 4000000 in
set_option maxRecDepth 100000 in
theorem ct_X0_namesShapeByA (l : Launch) (x0 : Int32) {res : Int32} (hf : fn_X0_namesShapeByA x0 = res) : Met l yX0_namesShapeByA (.code yX0_namesShapeByA cX0_namesShapeByA 1 (some .boolean) :: tb) rm_X0_namesShapeByA (va_Pc [.int x0] (fun _ => True)) (vp_Si (fun r' => r' = res)) 0 0 (fun _ => False) := by
  refine Met.ofW (cc := cX0_namesShapeByA) (maxL := 1) (ret := (some .boolean)) (by decide) rfl ?_
  intro p e s m args below meth c s₁ B hml hv
  obtain ⟨rfl, hB⟩ := hv
  have htt : ∀ w ∈ tb, w.before (([.int x0] : List Value).toArray) s = true := fun w h => atoms_spec (ws := (.code yX0_namesShapeByA cX0_namesShapeByA 1 (some .boolean) :: tb)) B.pre w (List.mem_cons_of_mem _ h)
  have C0 : cx p m meth c cX0_namesShapeByA (some .boolean) 1 s (([.int x0] : List Value).toArray) tb [] RX0 := ⟨B.exec, B.bytes, B.returns, hml, findClass_of_methodNamed B.named, htt, B.notSynchronized, fun _ h => absurd h List.not_mem_nil⟩
  obtain ⟨hx, hb, hr, hml, hown, htt, hlocks, hnw⟩ := id C0
  have hl := lv_entry ([.int x0]) (n := 1) (Nat.le_of_ble_eq_true rfl)
  rw [lg_entry_eq]
  generalize (lg_sl ([.int x0]) ++ List.replicate (1 - (lg_sl ([.int x0])).length) Slot.unset).toArray = ls at hl ⊢
  have hl : lv_has ls 1 [(0, .int x0)] := hl
  unfold fn_X0_namesShapeByA at hf
  refine lv_iload_n hx hb dX0_namesShapeByA_0 rfl (lv_at hl 0 rfl) ?_
  refine lv_bipush (v := 11) hx hb dX0_namesShapeByA_1 (by decide) ?_
  refine lv_bipush (v := 17) hx hb dX0_namesShapeByA_3 (by decide) ?_
  refine z_pcalli (z_runS (As := [.int x0, .int 11, .int 17]) (rest := []) ⟨hx, hb, hml, hown, htt⟩ gT (ct_X0_isBetween l x0 11 17 rfl) md_X0_isBetween lm_X0_76 rfl rfl ⟨Nat.le_of_ble_eq_true rfl, Nat.le_of_ble_eq_true rfl⟩ z_preP rfl rfl hl.1 rfl (lv_room (Nat.le_of_ble_eq_true rfl)) dX0_namesShapeByA_5 ⟨Nat.le_of_ble_eq_true rfl, Nat.le_of_ble_eq_true rfl⟩) ?_
  refine lv_topi (fun r1 e_r1 => ?_)
  have hf := lt_n e_r1 hf
  exact z_pzret hx hb hr hlocks (bo_X0_isBetween e_r1) hf dX0_namesShapeByA_8
abbrev rm_X0_namesShapeByB : Room := { frames := 1, cells := 0, slots := 0, locals := 22 }
def fn_X0_namesShapeByB (x0 : Int32) : Int32 := lt (fn_X0_isBetween x0 12 14) (fun r1 => r1)
set_option maxHeartbeats 4000000 in
set_option maxRecDepth 100000 in
theorem ct_X0_namesShapeByB (l : Launch) (x0 : Int32) {res : Int32} (hf : fn_X0_namesShapeByB x0 = res) : Met l yX0_namesShapeByB (.code yX0_namesShapeByB cX0_namesShapeByB 1 (some .boolean) :: tb) rm_X0_namesShapeByB (va_Pc [.int x0] (fun _ => True)) (vp_Si (fun r' => r' = res)) 0 0 (fun _ => False) := by
  refine Met.ofW (cc := cX0_namesShapeByB) (maxL := 1) (ret := (some .boolean)) (by decide) rfl ?_
  intro p e s m args below meth c s₁ B hml hv
  obtain ⟨rfl, hB⟩ := hv
  have htt : ∀ w ∈ tb, w.before (([.int x0] : List Value).toArray) s = true := fun w h => atoms_spec (ws := (.code yX0_namesShapeByB cX0_namesShapeByB 1 (some .boolean) :: tb)) B.pre w (List.mem_cons_of_mem _ h)
  have C0 : cx p m meth c cX0_namesShapeByB (some .boolean) 1 s (([.int x0] : List Value).toArray) tb [] RX0 := ⟨B.exec, B.bytes, B.returns, hml, findClass_of_methodNamed B.named, htt, B.notSynchronized, fun _ h => absurd h List.not_mem_nil⟩
  obtain ⟨hx, hb, hr, hml, hown, htt, hlocks, hnw⟩ := id C0
  have hl := lv_entry ([.int x0]) (n := 1) (Nat.le_of_ble_eq_true rfl)
  rw [lg_entry_eq]
  generalize (lg_sl ([.int x0]) ++ List.replicate (1 - (lg_sl ([.int x0])).length) Slot.unset).toArray = ls at hl ⊢
  have hl : lv_has ls 1 [(0, .int x0)] := hl
  unfold fn_X0_namesShapeByB at hf
  refine lv_iload_n hx hb dX0_namesShapeByB_0 rfl (lv_at hl 0 rfl) ?_
  refine lv_bipush (v := 12) hx hb dX0_namesShapeByB_1 (by decide) ?_
  refine lv_bipush (v := 14) hx hb dX0_namesShapeByB_3 (by decide) ?_
  refine z_pcalli (z_runS (As := [.int x0, .int 12, .int 14]) (rest := []) ⟨hx, hb, hml, hown, htt⟩ gT (ct_X0_isBetween l x0 12 14 rfl) md_X0_isBetween lm_X0_76 rfl rfl ⟨Nat.le_of_ble_eq_true rfl, Nat.le_of_ble_eq_true rfl⟩ z_preP rfl rfl hl.1 rfl (lv_room (Nat.le_of_ble_eq_true rfl)) dX0_namesShapeByB_5 ⟨Nat.le_of_ble_eq_true rfl, Nat.le_of_ble_eq_true rfl⟩) ?_
  refine lv_topi (fun r1 e_r1 => ?_)
  have hf := lt_n e_r1 hf
  exact z_pzret hx hb hr hlocks (bo_X0_isBetween e_r1) hf dX0_namesShapeByB_8
abbrev rm_X0_isConstraint : Room := { frames := 2, cells := 0, slots := 0, locals := 42 }
def fn_X0_isConstraint_40 (σ : S2) (x1 : Int32) (x2 : Int32) (x3 : Int32) : Int32 := if x1 = 0 then lt (fn_X0_isNode x2) (fun r2 => r2) else if x1 = 1 then lt (fn_X0_isBetween x2 0 3) (fun r4 => r4) else if x1 = 2 then if x2 < 0 then 0 else if x3 < 0 then 0 else 1 else if x1 = 5 then lt (fn_X0_isTerm x2) (fun r9 => r9) else if x1 = 6 then lt (fn_X0_isPredicate x2) (fun r11 => r11) else if x1 = 7 then lt (fn_X0_isPredicate x2) (fun r13 => r13) else if x1 = 8 then lt (fn_X0_isPredicate x2) (fun r15 => r15) else if x1 = 17 then lt (fn_X0_isBetween x3 0 255) (fun r17 => r17) else lt (fn_X0_isBetween x1 0 17) (fun r18 => r18)
def fn_X0_isConstraint_20 (σ : S2) (x1 : Int32) (x2 : Int32) (x3 : Int32) : Int32 := lt (fn_X0_namesShapeByB x1) (fun r1 => if r1 = 0 then fn_X0_isConstraint_40 σ x1 x2 x3 else lt (fn_X2_has σ x3) (fun r3 => if r3 = 0 then 0 else fn_X0_isConstraint_40 σ x1 x2 x3))
def fn_X0_isConstraint (σ : S2) (x1 : Int32) (x2 : Int32) (x3 : Int32) : Int32 := lt (fn_X0_namesShapeByA x1) (fun r1 => if r1 = 0 then fn_X0_isConstraint_20 σ x1 x2 x3 else lt (fn_X2_has σ x2) (fun r3 => if r3 = 0 then 0 else fn_X0_isConstraint_20 σ x1 x2 x3))
set_option maxHeartbeats 4000000 in
set_option maxRecDepth 100000 in
theorem wk_X0_isConstraint_40 {p : Program} {l : Launch} {e : Env} {s : State} {m : MethodId} {args : Array Value} {below : List Frame} {meth : Method} {c : Code} {D : va_G} {A : Nat → Prop} {ad : Nat → Nat} {cA : Nat → ClassId} {rs : va_W} {tr : List (ClassId × FieldType)} {σ : S2} {res : Int32} (C0 : cx p m meth c cX0_isConstraint (some .boolean) 4 s args tb nl RX0) : ∀ (x1 : Int32) (x2 : Int32) (x3 : Int32), ∀ (H : Heap) (locs : List Loc) (ls : Array Slot), zz D vwCl (tyC cA tr) A (wC ad cA rs) s s.heap H locs σ → lv_has ls 4 [(1, .int x1), (2, .int x2), (3, .int x3)] → fn_X0_isConstraint_40 σ x1 x2 x3 = res → W p l e rm_X0_isConstraint s m args below meth c H locs 0 0 (MQ below (va_Qi (fun r' u' => r' = res ∧ u' = σ) (zB D vwCl (tyC cA tr) A (wC ad cA rs)) A) args s 0 0 A) (F0 m 40 ls []) := by
  obtain ⟨hx, hb, hr, hml, hown, htt, hlocks, hnw⟩ := id C0
  intro x1 x2 x3 H locs ls hZ hl hf
  unfold fn_X0_isConstraint_40 at hf
  refine lv_iload_n hx hb dX0_isConstraint_40 rfl (lv_at hl 0 rfl) ?_
  by_cases c_1 : x1 = 0
  · have hf := ite_t c_1 hf
    refine lv_tableIn (tgt := 128) hx hb dX0_isConstraint_41 (by rw [c_1]; decide) (by rw [c_1]; decide) (by rw [c_1]; rfl) (by decide) ?_
    refine lv_iload_n hx hb dX0_isConstraint_128 rfl (lv_at hl 1 rfl) ?_
    refine z_pcalli (z_runS (As := [.int x2]) (rest := []) ⟨hx, hb, hml, hown, htt⟩ gT (ct_X0_isNode l x2 rfl) md_X0_isNode lm_X0_152 rfl rfl ⟨Nat.le_of_ble_eq_true rfl, Nat.le_of_ble_eq_true rfl⟩ z_preP rfl rfl hl.1 rfl (lv_room (Nat.le_of_ble_eq_true rfl)) dX0_isConstraint_129 ⟨Nat.le_of_ble_eq_true rfl, Nat.le_of_ble_eq_true rfl⟩) ?_
    refine lv_topi (fun r2 e_r2 => ?_)
    have hf := lt_n e_r2 hf
    exact z_zret hx hb hr hlocks hZ (bo_X0_isNode e_r2) hf rfl dX0_isConstraint_132
  have hf := ite_f c_1 hf
  by_cases c_3 : x1 = 1
  · have hf := ite_t c_3 hf
    refine lv_tableIn (tgt := 133) hx hb dX0_isConstraint_41 (by rw [c_3]; decide) (by rw [c_3]; decide) (by rw [c_3]; rfl) (by decide) ?_
    refine lv_iload_n hx hb dX0_isConstraint_133 rfl (lv_at hl 1 rfl) ?_
    refine lv_iconst (v := 0) hx hb dX0_isConstraint_134 (by decide) ?_
    refine lv_iconst (v := 3) hx hb dX0_isConstraint_135 (by decide) ?_
    refine z_pcalli (z_runS (As := [.int x2, .int 0, .int 3]) (rest := []) ⟨hx, hb, hml, hown, htt⟩ gT (ct_X0_isBetween l x2 0 3 rfl) md_X0_isBetween lm_X0_76 rfl rfl ⟨Nat.le_of_ble_eq_true rfl, Nat.le_of_ble_eq_true rfl⟩ z_preP rfl rfl hl.1 rfl (lv_room (Nat.le_of_ble_eq_true rfl)) dX0_isConstraint_136 ⟨Nat.le_of_ble_eq_true rfl, Nat.le_of_ble_eq_true rfl⟩) ?_
    refine lv_topi (fun r4 e_r4 => ?_)
    have hf := lt_n e_r4 hf
    exact z_zret hx hb hr hlocks hZ (bo_X0_isBetween e_r4) hf rfl dX0_isConstraint_139
  have hf := ite_f c_3 hf
  by_cases c_5 : x1 = 2
  · have hf := ite_t c_5 hf
    refine lv_tableIn (tgt := 140) hx hb dX0_isConstraint_41 (by rw [c_5]; decide) (by rw [c_5]; decide) (by rw [c_5]; rfl) (by decide) ?_
    refine lv_iload_n hx hb dX0_isConstraint_140 rfl (lv_at hl 1 rfl) ?_
    refine lv_if_lt (tgt := 152) hx hb dX0_isConstraint_141 (by decide) (fun c_6 => ?_) (fun c_6 => ?_)
    · have hf := ite_t c_6 hf
      refine lv_iconst (v := 0) hx hb dX0_isConstraint_152 (by decide) ?_
      exact z_zret hx hb hr hlocks hZ rfl hf rfl dX0_isConstraint_153
    · have hf := ite_f c_6 hf
      refine lv_iload_n hx hb dX0_isConstraint_144 rfl (lv_at hl 2 rfl) ?_
      refine lv_if_lt (tgt := 152) hx hb dX0_isConstraint_145 (by decide) (fun c_7 => ?_) (fun c_7 => ?_)
      · have hf := ite_t c_7 hf
        refine lv_iconst (v := 0) hx hb dX0_isConstraint_152 (by decide) ?_
        exact z_zret hx hb hr hlocks hZ rfl hf rfl dX0_isConstraint_153
      · have hf := ite_f c_7 hf
        refine lv_iconst (v := 1) hx hb dX0_isConstraint_148 (by decide) ?_
        refine lv_goto (tgt := 153) hx hb dX0_isConstraint_149 (by decide) ?_
        exact z_zret hx hb hr hlocks hZ rfl hf rfl dX0_isConstraint_153
  have hf := ite_f c_5 hf
  by_cases c_8 : x1 = 5
  · have hf := ite_t c_8 hf
    refine lv_tableIn (tgt := 154) hx hb dX0_isConstraint_41 (by rw [c_8]; decide) (by rw [c_8]; decide) (by rw [c_8]; rfl) (by decide) ?_
    refine lv_iload_n hx hb dX0_isConstraint_154 rfl (lv_at hl 1 rfl) ?_
    refine z_pcalli (z_runS (As := [.int x2]) (rest := []) ⟨hx, hb, hml, hown, htt⟩ gT (ct_X0_isTerm l x2 rfl) md_X0_isTerm lm_X0_129 rfl rfl ⟨Nat.le_of_ble_eq_true rfl, Nat.le_of_ble_eq_true rfl⟩ z_preP rfl rfl hl.1 rfl (lv_room (Nat.le_of_ble_eq_true rfl)) dX0_isConstraint_155 ⟨Nat.le_of_ble_eq_true rfl, Nat.le_of_ble_eq_true rfl⟩) ?_
    refine lv_topi (fun r9 e_r9 => ?_)
    have hf := lt_n e_r9 hf
    exact z_zret hx hb hr hlocks hZ (bo_X0_isTerm e_r9) hf rfl dX0_isConstraint_158
  have hf := ite_f c_8 hf
  by_cases c_10 : x1 = 6
  · have hf := ite_t c_10 hf
    refine lv_tableIn (tgt := 159) hx hb dX0_isConstraint_41 (by rw [c_10]; decide) (by rw [c_10]; decide) (by rw [c_10]; rfl) (by decide) ?_
    refine lv_iload_n hx hb dX0_isConstraint_159 rfl (lv_at hl 1 rfl) ?_
    refine z_pcalli (z_runS (As := [.int x2]) (rest := []) ⟨hx, hb, hml, hown, htt⟩ gT (ct_X0_isPredicate l x2 rfl) md_X0_isPredicate lm_X0_158 rfl rfl ⟨Nat.le_of_ble_eq_true rfl, Nat.le_of_ble_eq_true rfl⟩ z_preP rfl rfl hl.1 rfl (lv_room (Nat.le_of_ble_eq_true rfl)) dX0_isConstraint_160 ⟨Nat.le_of_ble_eq_true rfl, Nat.le_of_ble_eq_true rfl⟩) ?_
    refine lv_topi (fun r11 e_r11 => ?_)
    have hf := lt_n e_r11 hf
    exact z_zret hx hb hr hlocks hZ (bo_X0_isPredicate e_r11) hf rfl dX0_isConstraint_163
  have hf := ite_f c_10 hf
  by_cases c_12 : x1 = 7
  · have hf := ite_t c_12 hf
    refine lv_tableIn (tgt := 159) hx hb dX0_isConstraint_41 (by rw [c_12]; decide) (by rw [c_12]; decide) (by rw [c_12]; rfl) (by decide) ?_
    refine lv_iload_n hx hb dX0_isConstraint_159 rfl (lv_at hl 1 rfl) ?_
    refine z_pcalli (z_runS (As := [.int x2]) (rest := []) ⟨hx, hb, hml, hown, htt⟩ gT (ct_X0_isPredicate l x2 rfl) md_X0_isPredicate lm_X0_158 rfl rfl ⟨Nat.le_of_ble_eq_true rfl, Nat.le_of_ble_eq_true rfl⟩ z_preP rfl rfl hl.1 rfl (lv_room (Nat.le_of_ble_eq_true rfl)) dX0_isConstraint_160 ⟨Nat.le_of_ble_eq_true rfl, Nat.le_of_ble_eq_true rfl⟩) ?_
    refine lv_topi (fun r13 e_r13 => ?_)
    have hf := lt_n e_r13 hf
    exact z_zret hx hb hr hlocks hZ (bo_X0_isPredicate e_r13) hf rfl dX0_isConstraint_163
  have hf := ite_f c_12 hf
  by_cases c_14 : x1 = 8
  · have hf := ite_t c_14 hf
    refine lv_tableIn (tgt := 159) hx hb dX0_isConstraint_41 (by rw [c_14]; decide) (by rw [c_14]; decide) (by rw [c_14]; rfl) (by decide) ?_
    refine lv_iload_n hx hb dX0_isConstraint_159 rfl (lv_at hl 1 rfl) ?_
    refine z_pcalli (z_runS (As := [.int x2]) (rest := []) ⟨hx, hb, hml, hown, htt⟩ gT (ct_X0_isPredicate l x2 rfl) md_X0_isPredicate lm_X0_158 rfl rfl ⟨Nat.le_of_ble_eq_true rfl, Nat.le_of_ble_eq_true rfl⟩ z_preP rfl rfl hl.1 rfl (lv_room (Nat.le_of_ble_eq_true rfl)) dX0_isConstraint_160 ⟨Nat.le_of_ble_eq_true rfl, Nat.le_of_ble_eq_true rfl⟩) ?_
    refine lv_topi (fun r15 e_r15 => ?_)
    have hf := lt_n e_r15 hf
    exact z_zret hx hb hr hlocks hZ (bo_X0_isPredicate e_r15) hf rfl dX0_isConstraint_163
  have hf := ite_f c_14 hf
  by_cases c_16 : x1 = 17
  · have hf := ite_t c_16 hf
    refine lv_tableIn (tgt := 164) hx hb dX0_isConstraint_41 (by rw [c_16]; decide) (by rw [c_16]; decide) (by rw [c_16]; rfl) (by decide) ?_
    refine lv_iload_n hx hb dX0_isConstraint_164 rfl (lv_at hl 2 rfl) ?_
    refine lv_iconst (v := 0) hx hb dX0_isConstraint_165 (by decide) ?_
    refine lv_sipush (v := 255) hx hb dX0_isConstraint_166 (by decide) ?_
    refine z_pcalli (z_runS (As := [.int x3, .int 0, .int 255]) (rest := []) ⟨hx, hb, hml, hown, htt⟩ gT (ct_X0_isBetween l x3 0 255 rfl) md_X0_isBetween lm_X0_76 rfl rfl ⟨Nat.le_of_ble_eq_true rfl, Nat.le_of_ble_eq_true rfl⟩ z_preP rfl rfl hl.1 rfl (lv_room (Nat.le_of_ble_eq_true rfl)) dX0_isConstraint_169 ⟨Nat.le_of_ble_eq_true rfl, Nat.le_of_ble_eq_true rfl⟩) ?_
    refine lv_topi (fun r17 e_r17 => ?_)
    have hf := lt_n e_r17 hf
    exact z_zret hx hb hr hlocks hZ (bo_X0_isBetween e_r17) hf rfl dX0_isConstraint_172
  have hf := ite_f c_16 hf
  have nc_1 := lv_neT c_1 (show (0 : Int32).toInt = 0 from by decide)
  have nc_3 := lv_neT c_3 (show (1 : Int32).toInt = 1 from by decide)
  have nc_5 := lv_neT c_5 (show (2 : Int32).toInt = 2 from by decide)
  have nc_8 := lv_neT c_8 (show (5 : Int32).toInt = 5 from by decide)
  have nc_10 := lv_neT c_10 (show (6 : Int32).toInt = 6 from by decide)
  have nc_12 := lv_neT c_12 (show (7 : Int32).toInt = 7 from by decide)
  have nc_14 := lv_neT c_14 (show (8 : Int32).toInt = 8 from by decide)
  have nc_16 := lv_neT c_16 (show (17 : Int32).toInt = 17 from by decide)
  have h_19 : (x1).toInt < 0 ∨ 17 < (x1).toInt ∨ (x1).toInt = 3 ∨ (x1).toInt = 4 ∨ (x1).toInt = 9 ∨ (x1).toInt = 10 ∨ (x1).toInt = 11 ∨ (x1).toInt = 12 ∨ (x1).toInt = 13 ∨ (x1).toInt = 14 ∨ (x1).toInt = 15 ∨ (x1).toInt = 16 := by omega
  refine z_tdef (tgt := 173) hx hb dX0_isConstraint_41 (by
    rcases h_19 with h_19 | h_19 | h_19 | h_19 | h_19 | h_19 | h_19 | h_19 | h_19 | h_19 | h_19 | h_19
    · exact Or.inl h_19
    · exact Or.inr (Or.inl h_19)
    · exact Or.inr (Or.inr (by rw [h_19]; rfl))
    · exact Or.inr (Or.inr (by rw [h_19]; rfl))
    · exact Or.inr (Or.inr (by rw [h_19]; rfl))
    · exact Or.inr (Or.inr (by rw [h_19]; rfl))
    · exact Or.inr (Or.inr (by rw [h_19]; rfl))
    · exact Or.inr (Or.inr (by rw [h_19]; rfl))
    · exact Or.inr (Or.inr (by rw [h_19]; rfl))
    · exact Or.inr (Or.inr (by rw [h_19]; rfl))
    · exact Or.inr (Or.inr (by rw [h_19]; rfl))
    · exact Or.inr (Or.inr (by rw [h_19]; rfl))) (by decide) ?_
  refine lv_iload_n hx hb dX0_isConstraint_173 rfl (lv_at hl 0 rfl) ?_
  refine lv_iconst (v := 0) hx hb dX0_isConstraint_174 (by decide) ?_
  refine lv_bipush (v := 17) hx hb dX0_isConstraint_175 (by decide) ?_
  refine z_pcalli (z_runS (As := [.int x1, .int 0, .int 17]) (rest := []) ⟨hx, hb, hml, hown, htt⟩ gT (ct_X0_isBetween l x1 0 17 rfl) md_X0_isBetween lm_X0_76 rfl rfl ⟨Nat.le_of_ble_eq_true rfl, Nat.le_of_ble_eq_true rfl⟩ z_preP rfl rfl hl.1 rfl (lv_room (Nat.le_of_ble_eq_true rfl)) dX0_isConstraint_177 ⟨Nat.le_of_ble_eq_true rfl, Nat.le_of_ble_eq_true rfl⟩) ?_
  refine lv_topi (fun r18 e_r18 => ?_)
  have hf := lt_n e_r18 hf
  exact z_zret hx hb hr hlocks hZ (bo_X0_isBetween e_r18) hf rfl dX0_isConstraint_180
set_option maxHeartbeats 4000000 in
set_option maxRecDepth 100000 in
theorem wk_X0_isConstraint_20 {p : Program} {l : Launch} {e : Env} {s : State} {m : MethodId} {args : Array Value} {below : List Frame} {meth : Method} {c : Code} {D : va_G} {A : Nat → Prop} {ad : Nat → Nat} {cA : Nat → ClassId} {rs : va_W} {tr : List (ClassId × FieldType)} {σ : S2} {res : Int32} (C0 : cx p m meth c cX0_isConstraint (some .boolean) 4 s args tb nl RX0) : ∀ (x1 : Int32) (x2 : Int32) (x3 : Int32), ∀ (H : Heap) (locs : List Loc) (ls : Array Slot), zz D vwCl (tyC cA tr) A (wC ad cA rs) s s.heap H locs σ → lv_has ls 4 [(0, .ref (ad 0)), (1, .int x1), (2, .int x2), (3, .int x3)] → fn_X0_isConstraint_20 σ x1 x2 x3 = res → W p l e rm_X0_isConstraint s m args below meth c H locs 0 0 (MQ below (va_Qi (fun r' u' => r' = res ∧ u' = σ) (zB D vwCl (tyC cA tr) A (wC ad cA rs)) A) args s 0 0 A) (F0 m 20 ls []) := by
  obtain ⟨hx, hb, hr, hml, hown, htt, hlocks, hnw⟩ := id C0
  intro x1 x2 x3 H locs ls hZ hl hf
  unfold fn_X0_isConstraint_20 at hf
  refine lv_iload_n hx hb dX0_isConstraint_20 rfl (lv_at hl 1 rfl) ?_
  refine z_pcalli (z_runS (As := [.int x1]) (rest := []) ⟨hx, hb, hml, hown, htt⟩ gT (ct_X0_namesShapeByB l x1 rfl) md_X0_namesShapeByB lm_X0_99 rfl rfl ⟨Nat.le_of_ble_eq_true rfl, Nat.le_of_ble_eq_true rfl⟩ z_preP rfl rfl hl.1 rfl (lv_room (Nat.le_of_ble_eq_true rfl)) dX0_isConstraint_21 ⟨Nat.le_of_ble_eq_true rfl, Nat.le_of_ble_eq_true rfl⟩) ?_
  refine lv_topi (fun r1 e_r1 => ?_)
  have hf := lt_n e_r1 hf
  refine lv_if_eq (tgt := 40) hx hb dX0_isConstraint_24 (by decide) (fun c_2 => ?_) (fun c_2 => ?_)
  · have hf := ite_t c_2 hf
    exact wk_X0_isConstraint_40 C0  x1 x2 x3 _ _ _ hZ (lv_sub hl [1, 2, 3] rfl) hf
  · have hf := ite_f c_2 hf
    refine lv_aload_n hx hb dX0_isConstraint_27 rfl (lv_at hl 0 rfl) ?_
    refine z_get hx hb htt iw_X0 hown hZ 0 rfl rfl 1 (by decide) lf_X0_19 rfl dX0_isConstraint_28 ?_
    refine lv_iload_n hx hb dX0_isConstraint_31 rfl (lv_at hl 3 rfl) ?_
    refine z_calli (z_runVN (As := [.int x3]) (rest := []) ⟨hx, hb, hml, hown, htt⟩ gT (ct_X2_has l D A ad cA rs tr σ x3 rfl) md_X2_has hnw lm_X0_73 rfl rfl ⟨Nat.le_of_ble_eq_true rfl, Nat.le_of_ble_eq_true rfl⟩ (z_preV gN hnw hZ rfl (q0 := 2) (ci := 2) rfl) rfl rfl hl.1 rfl (lv_room (Nat.le_of_ble_eq_true rfl)) dX0_isConstraint_32 ⟨Nat.le_of_ble_eq_true rfl, Nat.le_of_ble_eq_true rfl⟩) hZ (fun H locs hZ => ?_)
    refine lv_topi (fun r3 e_r3 => ?_)
    have hf := lt_n e_r3 hf
    refine lv_if_ne (tgt := 40) hx hb dX0_isConstraint_35 (by decide) (fun c_4 => ?_) (fun c_4 => ?_)
    · have hf := ite_f c_4 hf
      exact wk_X0_isConstraint_40 C0  x1 x2 x3 _ _ _ hZ (lv_sub hl [1, 2, 3] rfl) hf
    · have hf := ite_t c_4 hf
      refine lv_iconst (v := 0) hx hb dX0_isConstraint_38 (by decide) ?_
      exact z_zret hx hb hr hlocks hZ rfl hf rfl dX0_isConstraint_39
set_option maxHeartbeats 4000000 in
set_option maxRecDepth 100000 in
theorem ct_X0_isConstraint (l : Launch) (D : va_G) (A : Nat → Prop) (ad : Nat → Nat) (cA : Nat → ClassId) (rs : va_W) (tr : List (ClassId × FieldType)) (σ : S2) (x1 : Int32) (x2 : Int32) (x3 : Int32) {res : Int32} (hf : fn_X0_isConstraint σ x1 x2 x3 = res) : Met l yX0_isConstraint (.code yX0_isConstraint cX0_isConstraint 4 (some .boolean) :: tb) rm_X0_isConstraint (va_Pc [.ref (ad 0), .int x1, .int x2, .int x3] (zN D vwCl (tyC cA tr) A (wC ad cA rs) nl σ)) (va_Qi (fun r' u' => r' = res ∧ u' = σ) (zB D vwCl (tyC cA tr) A (wC ad cA rs)) A) 0 0 A := by
  refine Met.ofW (cc := cX0_isConstraint) (maxL := 4) (ret := (some .boolean)) (by decide) rfl ?_
  intro p e s m args below meth c s₁ B hml hv
  obtain ⟨rfl, hB, hnw0⟩ := hv
  have htt : ∀ w ∈ tb, w.before (([.ref (ad 0), .int x1, .int x2, .int x3] : List Value).toArray) s = true := fun w h => atoms_spec (ws := (.code yX0_isConstraint cX0_isConstraint 4 (some .boolean) :: tb)) B.pre w (List.mem_cons_of_mem _ h)
  have C0 : cx p m meth c cX0_isConstraint (some .boolean) 4 s (([.ref (ad 0), .int x1, .int x2, .int x3] : List Value).toArray) tb nl RX0 := ⟨B.exec, B.bytes, B.returns, hml, findClass_of_methodNamed B.named, htt, B.notSynchronized, hnw0⟩
  obtain ⟨hx, hb, hr, hml, hown, htt, hlocks, hnw⟩ := id C0
  have hZ := z_start hB
  have hl := lv_entry ([.ref (ad 0), .int x1, .int x2, .int x3]) (n := 4) (Nat.le_of_ble_eq_true rfl)
  rw [lg_entry_eq]
  generalize (lg_sl ([.ref (ad 0), .int x1, .int x2, .int x3]) ++ List.replicate (4 - (lg_sl ([.ref (ad 0), .int x1, .int x2, .int x3])).length) Slot.unset).toArray = ls at hl ⊢
  have hl : lv_has ls 4 [(0, .ref (ad 0)), (1, .int x1), (2, .int x2), (3, .int x3)] := hl
  unfold fn_X0_isConstraint at hf
  refine lv_iload_n hx hb dX0_isConstraint_0 rfl (lv_at hl 1 rfl) ?_
  refine z_pcalli (z_runS (As := [.int x1]) (rest := []) ⟨hx, hb, hml, hown, htt⟩ gT (ct_X0_namesShapeByA l x1 rfl) md_X0_namesShapeByA lm_X0_96 rfl rfl ⟨Nat.le_of_ble_eq_true rfl, Nat.le_of_ble_eq_true rfl⟩ z_preP rfl rfl hl.1 rfl (lv_room (Nat.le_of_ble_eq_true rfl)) dX0_isConstraint_1 ⟨Nat.le_of_ble_eq_true rfl, Nat.le_of_ble_eq_true rfl⟩) ?_
  refine lv_topi (fun r1 e_r1 => ?_)
  have hf := lt_n e_r1 hf
  refine lv_if_eq (tgt := 20) hx hb dX0_isConstraint_4 (by decide) (fun c_2 => ?_) (fun c_2 => ?_)
  · have hf := ite_t c_2 hf
    exact wk_X0_isConstraint_20 C0  x1 x2 x3 _ _ _ hZ (lv_sub hl [0, 1, 2, 3] rfl) hf
  · have hf := ite_f c_2 hf
    refine lv_aload_n hx hb dX0_isConstraint_7 rfl (lv_at hl 0 rfl) ?_
    refine z_get hx hb htt iw_X0 hown hZ 0 rfl rfl 1 (by decide) lf_X0_19 rfl dX0_isConstraint_8 ?_
    refine lv_iload_n hx hb dX0_isConstraint_11 rfl (lv_at hl 2 rfl) ?_
    refine z_calli (z_runVN (As := [.int x2]) (rest := []) ⟨hx, hb, hml, hown, htt⟩ gT (ct_X2_has l D A ad cA rs tr σ x2 rfl) md_X2_has hnw lm_X0_73 rfl rfl ⟨Nat.le_of_ble_eq_true rfl, Nat.le_of_ble_eq_true rfl⟩ (z_preV gN hnw hZ rfl (q0 := 2) (ci := 2) rfl) rfl rfl hl.1 rfl (lv_room (Nat.le_of_ble_eq_true rfl)) dX0_isConstraint_12 ⟨Nat.le_of_ble_eq_true rfl, Nat.le_of_ble_eq_true rfl⟩) hZ (fun H locs hZ => ?_)
    refine lv_topi (fun r3 e_r3 => ?_)
    have hf := lt_n e_r3 hf
    refine lv_if_ne (tgt := 20) hx hb dX0_isConstraint_15 (by decide) (fun c_4 => ?_) (fun c_4 => ?_)
    · have hf := ite_f c_4 hf
      exact wk_X0_isConstraint_20 C0  x1 x2 x3 _ _ _ hZ (lv_sub hl [0, 1, 2, 3] rfl) hf
    · have hf := ite_t c_4 hf
      refine lv_iconst (v := 0) hx hb dX0_isConstraint_18 (by decide) ?_
      exact z_zret hx hb hr hlocks hZ rfl hf rfl dX0_isConstraint_19
abbrev rm_X2_leads : Room := { frames := 1, cells := 0, slots := 0, locals := 21 }
def fn_X2_leads (σ : S2) (x1 : Int32) (x2 : Int32) : Option (Int32) := if x1 = x2 then some 1 else lt (fn_X2_has σ x1) (fun r2 => if r2 = 0 then some 0 else ck x1 12 (lt (fn_X0_holdsBit (σ.1 10 (x1).toNatClampNeg) x2) (fun r5 => if r5 = 0 then some 0 else some 1)))
set_option maxHeartbeats 4000000 in
set_option maxRecDepth 100000 in
theorem ct_X2_leads (l : Launch) (D : va_G) (A : Nat → Prop) (ad : Nat → Nat) (cA : Nat → ClassId) (rs : va_W) (tr : List (ClassId × FieldType)) (σ : S2) (x1 : Int32) (x2 : Int32) {res : Int32} (hf : fn_X2_leads σ x1 x2 = some res) : Met l yX2_leads (.code yX2_leads cX2_leads 3 (some .boolean) :: tb) rm_X2_leads (va_Pc [.ref (ad 2), .int x1, .int x2] (zN D vwCl (tyC cA tr) A (wC ad cA rs) nl σ)) (va_Qi (fun r' u' => r' = res ∧ u' = σ) (zB D vwCl (tyC cA tr) A (wC ad cA rs)) A) 0 0 A := by
  refine Met.ofW (cc := cX2_leads) (maxL := 3) (ret := (some .boolean)) (by decide) rfl ?_
  intro p e s m args below meth c s₁ B hml hv
  obtain ⟨rfl, hB, hnw0⟩ := hv
  have htt : ∀ w ∈ tb, w.before (([.ref (ad 2), .int x1, .int x2] : List Value).toArray) s = true := fun w h => atoms_spec (ws := (.code yX2_leads cX2_leads 3 (some .boolean) :: tb)) B.pre w (List.mem_cons_of_mem _ h)
  have C0 : cx p m meth c cX2_leads (some .boolean) 3 s (([.ref (ad 2), .int x1, .int x2] : List Value).toArray) tb nl RX2 := ⟨B.exec, B.bytes, B.returns, hml, findClass_of_methodNamed B.named, htt, B.notSynchronized, hnw0⟩
  obtain ⟨hx, hb, hr, hml, hown, htt, hlocks, hnw⟩ := id C0
  have hZ := z_start hB
  have hl := lv_entry ([.ref (ad 2), .int x1, .int x2]) (n := 3) (Nat.le_of_ble_eq_true rfl)
  rw [lg_entry_eq]
  generalize (lg_sl ([.ref (ad 2), .int x1, .int x2]) ++ List.replicate (3 - (lg_sl ([.ref (ad 2), .int x1, .int x2])).length) Slot.unset).toArray = ls at hl ⊢
  have hl : lv_has ls 3 [(0, .ref (ad 2)), (1, .int x1), (2, .int x2)] := hl
  unfold fn_X2_leads at hf
  refine lv_iload_n hx hb dX2_leads_0 rfl (lv_at hl 1 rfl) ?_
  refine lv_iload_n hx hb dX2_leads_1 rfl (lv_at hl 2 rfl) ?_
  refine lv_icmp_eq (tgt := 26) hx hb dX2_leads_2 (by decide) (fun c_1 => ?_) (fun c_1 => ?_)
  · have hf := ite_t c_1 hf
    refine lv_iconst (v := 1) hx hb dX2_leads_26 (by decide) ?_
    refine lv_goto (tgt := 31) hx hb dX2_leads_27 (by decide) ?_
    exact z_zret hx hb hr hlocks hZ rfl (Option.some.inj hf) rfl dX2_leads_31
  · have hf := ite_f c_1 hf
    refine lv_aload_n hx hb dX2_leads_5 rfl (lv_at hl 0 rfl) ?_
    refine lv_iload_n hx hb dX2_leads_6 rfl (lv_at hl 1 rfl) ?_
    refine z_calli (z_runV (As := [.int x1]) (rest := []) ⟨hx, hb, hml, hown, htt⟩ gT (ct_X2_has l D A ad cA rs tr σ x1 rfl) md_X2_has lm_X2_25 rfl rfl ⟨Nat.le_of_ble_eq_true rfl, Nat.le_of_ble_eq_true rfl⟩ (z_preV gN hnw hZ rfl (q0 := 2) (ci := 2) rfl) rfl rfl hl.1 rfl (lv_room (Nat.le_of_ble_eq_true rfl)) dX2_leads_7 ⟨Nat.le_of_ble_eq_true rfl, Nat.le_of_ble_eq_true rfl⟩) hZ (fun H locs hZ => ?_)
    refine lv_topi (fun r2 e_r2 => ?_)
    have hf := lt_n e_r2 hf
    refine lv_if_eq (tgt := 30) hx hb dX2_leads_10 (by decide) (fun c_3 => ?_) (fun c_3 => ?_)
    · have hf := ite_t c_3 hf
      refine lv_iconst (v := 0) hx hb dX2_leads_30 (by decide) ?_
      exact z_zret hx hb hr hlocks hZ rfl (Option.some.inj hf) rfl dX2_leads_31
    · have hf := ite_f c_3 hf
      refine lv_aload_n hx hb dX2_leads_13 rfl (lv_at hl 0 rfl) ?_
      refine z_get hx hb htt iw_X2 hown hZ 2 rfl rfl 2 (by decide) lf_X2_18 rfl dX2_leads_14 ?_
      refine lv_iload_n hx hb dX2_leads_17 rfl (lv_at hl 1 rfl) ?_
      obtain ⟨h_4, hf⟩ := ck_s hf
      refine z_ild hx hb hZ 10 4 rfl rfl h_4 dX2_leads_18 ?_
      refine lv_iload_n hx hb dX2_leads_19 rfl (lv_at hl 2 rfl) ?_
      refine z_pcalli (z_runSN (As := [.int (σ.1 10 (x1).toNatClampNeg), .int x2]) (rest := []) ⟨hx, hb, hml, hown, htt⟩ gT (ct_X0_holdsBit l (σ.1 10 (x1).toNatClampNeg) x2 rfl) md_X0_holdsBit hnw lm_X2_29 rfl rfl ⟨Nat.le_of_ble_eq_true rfl, Nat.le_of_ble_eq_true rfl⟩ z_preP rfl rfl hl.1 rfl (lv_room (Nat.le_of_ble_eq_true rfl)) dX2_leads_20 ⟨Nat.le_of_ble_eq_true rfl, Nat.le_of_ble_eq_true rfl⟩) ?_
      refine lv_topi (fun r5 e_r5 => ?_)
      have hf := lt_n e_r5 hf
      refine lv_if_eq (tgt := 30) hx hb dX2_leads_23 (by decide) (fun c_6 => ?_) (fun c_6 => ?_)
      · have hf := ite_t c_6 hf
        refine lv_iconst (v := 0) hx hb dX2_leads_30 (by decide) ?_
        exact z_zret hx hb hr hlocks hZ rfl (Option.some.inj hf) rfl dX2_leads_31
      · have hf := ite_f c_6 hf
        refine lv_iconst (v := 1) hx hb dX2_leads_26 (by decide) ?_
        refine lv_goto (tgt := 31) hx hb dX2_leads_27 (by decide) ?_
        exact z_zret hx hb hr hlocks hZ rfl (Option.some.inj hf) rfl dX2_leads_31
abbrev rm_X2_join : Room := { frames := 2, cells := 0, slots := 0, locals := 43 }
def fn_X2_join_23 : Nat → S2 → Int32 → Int32 → Int32 → Option (S2)
  | 0, _, _, _, _ => none
  | n + 1, σ, x1, x3, x4 => if (σ.1 2 0) ≤ x4 then some σ else bn (fn_X2_leads σ x4 x1) (fun r3 => if r3 = 0 then lt (x4 + 1) (fun v5 => fn_X2_join_23 n σ x1 x3 v5) else ck x4 12 (ck x4 12 (lt (st σ 10 (x4).toNatClampNeg ((σ.1 10 (x4).toNatClampNeg) ||| x3)) (fun σ8 => lt (x4 + 1) (fun v9 => fn_X2_join_23 n σ8 x1 x3 v9)))))
def fn_X2_join (σ : S2) (x1 : Int32) (x2 : Int32) : Option (S2) := lt (fn_X2_has σ x2) (fun r1 => if r1 = 0 then some σ else ck x2 12 (lt (((σ.1 10 (x2).toNatClampNeg) ||| (1 <<< (x2 &&& 31)))) (fun v4 => fn_X2_join_23 fu σ x1 v4 0)))
set_option maxHeartbeats 4000000 in
set_option maxRecDepth 100000 in
theorem wk_X2_join_23 {p : Program} {l : Launch} {e : Env} {s : State} {m : MethodId} {args : Array Value} {below : List Frame} {meth : Method} {c : Code} {D : va_G} {A : Nat → Prop} {ad : Nat → Nat} {cA : Nat → ClassId} {rs : va_W} {tr : List (ClassId × FieldType)} {res : S2} (C0 : cx p m meth c cX2_join none 5 s args tb nl RX2) : ∀ (n : Nat) (σ : S2) (x1 : Int32) (x3 : Int32) (x4 : Int32), ∀ (H : Heap) (locs : List Loc) (ls : Array Slot), zz D vwCl (tyC cA tr) A (wC ad cA rs) s s.heap H locs σ → lv_has ls 5 [(0, .ref (ad 2)), (1, .int x1), (3, .int x3), (4, .int x4)] → fn_X2_join_23 n σ x1 x3 x4 = some res → W p l e rm_X2_join s m args below meth c H locs 0 0 (MQ below (va_Qv (fun u' => u' = res) (zB D vwCl (tyC cA tr) A (wC ad cA rs)) A) args s 0 0 A) (F0 m 23 ls []) := by
  obtain ⟨hx, hb, hr, hml, hown, htt, hlocks, hnw⟩ := id C0
  intro n
  induction n with
  | zero => intro σ x1 x3 x4 H locs ls hZ hl hf; exact no_some hf
  | succ n ih =>
    intro σ x1 x3 x4 H locs ls hZ hl hf
    rw [fn_X2_join_23] at hf
    refine lv_iload hx hb dX2_join_23 (lv_at hl 3 rfl) ?_
    refine lv_aload_n hx hb dX2_join_25 rfl (lv_at hl 0 rfl) ?_
    refine z_get hx hb htt iw_X2 hown hZ 2 rfl rfl 3 (by decide) lf_X2_21 rfl dX2_join_26 ?_
    refine lv_icmp_ge (tgt := 59) hx hb dX2_join_29 (by decide) (fun c_1 => ?_) (fun c_1 => ?_)
    · have hf := ite_t c_1 hf
      exact z_vret hx hb hr hlocks hZ (Option.some.inj hf) dX2_join_59
    · have hf := ite_f c_1 hf
      refine lv_aload_n hx hb dX2_join_32 rfl (lv_at hl 0 rfl) ?_
      refine lv_iload hx hb dX2_join_33 (lv_at hl 3 rfl) ?_
      refine lv_iload_n hx hb dX2_join_35 rfl (lv_at hl 1 rfl) ?_
      obtain ⟨r3, k_2, hf⟩ := bn_s hf
      refine z_calli (z_runV (As := [.int x4, .int x1]) (rest := []) ⟨hx, hb, hml, hown, htt⟩ gT (ct_X2_leads l D A ad cA rs tr σ x4 x1 k_2) md_X2_leads lm_X2_33 rfl rfl ⟨Nat.le_of_ble_eq_true rfl, Nat.le_of_ble_eq_true rfl⟩ (z_preV gN hnw hZ rfl (q0 := 2) (ci := 2) rfl) rfl rfl hl.1 rfl (lv_room (Nat.le_of_ble_eq_true rfl)) dX2_join_36 ⟨Nat.le_of_ble_eq_true rfl, Nat.le_of_ble_eq_true rfl⟩) hZ (fun H locs hZ => ?_)
      refine lv_if_eq (tgt := 53) hx hb dX2_join_39 (by decide) (fun c_4 => ?_) (fun c_4 => ?_)
      · have hf := ite_t c_4 hf
        obtain ⟨v5, e_v5⟩ : ∃ y : Int32, y = x4 + 1 := ⟨_, rfl⟩
        have hf := lt_n e_v5 hf
        refine lv_iinc (v := v5) (lv' := [(4, .int v5), (0, .ref (ad 2)), (1, .int x1), (3, .int x3)]) hx hb dX2_join_53 hl (k := 3) rfl (by rw [e_v5]; rfl) (by decide) rfl (fun ls hl => ?_)
        refine lv_goto (tgt := 23) hx hb dX2_join_56 (by decide) ?_
        exact ih σ x1 x3 v5 _ _ _ hZ (lv_sub hl [1, 2, 3, 0] rfl) hf
      · have hf := ite_f c_4 hf
        refine lv_aload_n hx hb dX2_join_42 rfl (lv_at hl 0 rfl) ?_
        refine z_get hx hb htt iw_X2 hown hZ 2 rfl rfl 2 (by decide) lf_X2_18 rfl dX2_join_43 ?_
        refine lv_iload hx hb dX2_join_46 (lv_at hl 3 rfl) ?_
        refine lv_dup2_11 hx hb dX2_join_48 rfl rfl ?_
        obtain ⟨h_6, hf⟩ := ck_s hf
        refine z_ild hx hb hZ 10 4 rfl rfl h_6 dX2_join_49 ?_
        refine lv_iload_n hx hb dX2_join_50 rfl (lv_at hl 2 rfl) ?_
        refine lv_ior hx hb dX2_join_51 ?_
        obtain ⟨h_7, hf⟩ := ck_s hf
        refine z_ist (σ' := st σ 10 (x4).toNatClampNeg ((σ.1 10 (x4).toNatClampNeg) ||| x3)) hx hb hZ 10 4 rfl rfl h_7 dX2_join_52 rfl (fun σ8 H locs e_σ8 hZ => ?_)
        have hf := lt_n e_σ8 hf
        obtain ⟨v9, e_v9⟩ : ∃ y : Int32, y = x4 + 1 := ⟨_, rfl⟩
        have hf := lt_n e_v9 hf
        refine lv_iinc (v := v9) (lv' := [(4, .int v9), (0, .ref (ad 2)), (1, .int x1), (3, .int x3)]) hx hb dX2_join_53 hl (k := 3) rfl (by rw [e_v9]; rfl) (by decide) rfl (fun ls hl => ?_)
        refine lv_goto (tgt := 23) hx hb dX2_join_56 (by decide) ?_
        exact ih σ8 x1 x3 v9 _ _ _ hZ (lv_sub hl [1, 2, 3, 0] rfl) hf
set_option maxHeartbeats 4000000 in
set_option maxRecDepth 100000 in
theorem ct_X2_join (l : Launch) (D : va_G) (A : Nat → Prop) (ad : Nat → Nat) (cA : Nat → ClassId) (rs : va_W) (tr : List (ClassId × FieldType)) (σ : S2) (x1 : Int32) (x2 : Int32) {res : S2} (hf : fn_X2_join σ x1 x2 = some res) : Met l yX2_join (.code yX2_join cX2_join 5 none :: tb) rm_X2_join (va_Pc [.ref (ad 2), .int x1, .int x2] (zN D vwCl (tyC cA tr) A (wC ad cA rs) nl σ)) (va_Qv (fun u' => u' = res) (zB D vwCl (tyC cA tr) A (wC ad cA rs)) A) 0 0 A := by
  refine Met.ofW (cc := cX2_join) (maxL := 5) (ret := none) (by decide) rfl ?_
  intro p e s m args below meth c s₁ B hml hv
  obtain ⟨rfl, hB, hnw0⟩ := hv
  have htt : ∀ w ∈ tb, w.before (([.ref (ad 2), .int x1, .int x2] : List Value).toArray) s = true := fun w h => atoms_spec (ws := (.code yX2_join cX2_join 5 none :: tb)) B.pre w (List.mem_cons_of_mem _ h)
  have C0 : cx p m meth c cX2_join none 5 s (([.ref (ad 2), .int x1, .int x2] : List Value).toArray) tb nl RX2 := ⟨B.exec, B.bytes, B.returns, hml, findClass_of_methodNamed B.named, htt, B.notSynchronized, hnw0⟩
  obtain ⟨hx, hb, hr, hml, hown, htt, hlocks, hnw⟩ := id C0
  have hZ := z_start hB
  have hl := lv_entry ([.ref (ad 2), .int x1, .int x2]) (n := 5) (Nat.le_of_ble_eq_true rfl)
  rw [lg_entry_eq]
  generalize (lg_sl ([.ref (ad 2), .int x1, .int x2]) ++ List.replicate (5 - (lg_sl ([.ref (ad 2), .int x1, .int x2])).length) Slot.unset).toArray = ls at hl ⊢
  have hl : lv_has ls 5 [(0, .ref (ad 2)), (1, .int x1), (2, .int x2)] := hl
  unfold fn_X2_join at hf
  refine lv_aload_n hx hb dX2_join_0 rfl (lv_at hl 0 rfl) ?_
  refine lv_iload_n hx hb dX2_join_1 rfl (lv_at hl 2 rfl) ?_
  refine z_calli (z_runV (As := [.int x2]) (rest := []) ⟨hx, hb, hml, hown, htt⟩ gT (ct_X2_has l D A ad cA rs tr σ x2 rfl) md_X2_has lm_X2_25 rfl rfl ⟨Nat.le_of_ble_eq_true rfl, Nat.le_of_ble_eq_true rfl⟩ (z_preV gN hnw hZ rfl (q0 := 2) (ci := 2) rfl) rfl rfl hl.1 rfl (lv_room (Nat.le_of_ble_eq_true rfl)) dX2_join_2 ⟨Nat.le_of_ble_eq_true rfl, Nat.le_of_ble_eq_true rfl⟩) hZ (fun H locs hZ => ?_)
  refine lv_topi (fun r1 e_r1 => ?_)
  have hf := lt_n e_r1 hf
  refine lv_if_ne (tgt := 9) hx hb dX2_join_5 (by decide) (fun c_2 => ?_) (fun c_2 => ?_)
  · have hf := ite_f c_2 hf
    refine lv_aload_n hx hb dX2_join_9 rfl (lv_at hl 0 rfl) ?_
    refine z_get hx hb htt iw_X2 hown hZ 2 rfl rfl 2 (by decide) lf_X2_18 rfl dX2_join_10 ?_
    refine lv_iload_n hx hb dX2_join_13 rfl (lv_at hl 2 rfl) ?_
    obtain ⟨h_3, hf⟩ := ck_s hf
    refine z_ild hx hb hZ 10 4 rfl rfl h_3 dX2_join_14 ?_
    refine lv_iconst (v := 1) hx hb dX2_join_15 (by decide) ?_
    refine lv_iload_n hx hb dX2_join_16 rfl (lv_at hl 2 rfl) ?_
    refine lv_ishl hx hb dX2_join_17 ?_
    refine lv_ior hx hb dX2_join_18 ?_
    refine lv_topi (fun v4 e_v4 => ?_)
    have hf := lt_n e_v4 hf
    refine lv_istore_n (lv' := [(3, .int v4), (0, .ref (ad 2)), (1, .int x1), (2, .int x2)]) hx hb dX2_join_19 rfl hl (by decide) rfl (fun ls hl => ?_)
    refine lv_iconst (v := 0) hx hb dX2_join_20 (by decide) ?_
    refine lv_istore (lv' := [(4, .int 0), (3, .int v4), (0, .ref (ad 2)), (1, .int x1), (2, .int x2)]) hx hb dX2_join_21 hl (by decide) rfl (fun ls hl => ?_)
    exact wk_X2_join_23 C0  fu σ x1 v4 0 _ _ _ hZ (lv_sub hl [2, 3, 1, 0] rfl) hf
  · have hf := ite_t c_2 hf
    exact z_vret hx hb hr hlocks hZ (Option.some.inj hf) dX2_join_8
