abbrev rm_X6_namesTwo : Room := { frames := 0, cells := 0, slots := 0, locals := 0 }
def fn_X6_namesTwo (x0 : Int32) : Int32 := if x0 ≤ 11 then 0 else if 15 ≤ x0 then 0 else 1
set_option maxHeartbeats 4000000 in
set_option maxRecDepth 100000 in
theorem ct_X6_namesTwo (l : Launch) (x0 : Int32) {res : Int32} (hf : fn_X6_namesTwo x0 = res) : Met l yX6_namesTwo (.code yX6_namesTwo cX6_namesTwo 1 (some .boolean) :: tb) rm_X6_namesTwo (va_Pc [.int x0] (fun _ => True)) (vp_Si (fun r' => r' = res)) 0 0 (fun _ => False) := by
  refine Met.ofW (cc := cX6_namesTwo) (maxL := 1) (ret := (some .boolean)) (by decide) rfl ?_
  intro p e s m args below meth c s₁ B hml hv
  obtain ⟨rfl, hB⟩ := hv
  have htt : ∀ w ∈ tb, w.before (([.int x0] : List Value).toArray) s = true := fun w h => atoms_spec (ws := (.code yX6_namesTwo cX6_namesTwo 1 (some .boolean) :: tb)) B.pre w (List.mem_cons_of_mem _ h)
  have C0 : cx p m meth c cX6_namesTwo (some .boolean) 1 s (([.int x0] : List Value).toArray) tb [] RX6 := ⟨B.exec, B.bytes, B.returns, hml, findClass_of_methodNamed B.named, htt, B.notSynchronized, fun _ h => absurd h List.not_mem_nil⟩
  obtain ⟨hx, hb, hr, hml, hown, htt, hlocks, hnw⟩ := id C0
  have hl := lv_entry ([.int x0]) (n := 1) (Nat.le_of_ble_eq_true rfl)
  rw [lg_entry_eq]
  generalize (lg_sl ([.int x0]) ++ List.replicate (1 - (lg_sl ([.int x0])).length) Slot.unset).toArray = ls at hl ⊢
  have hl : lv_has ls 1 [(0, .int x0)] := hl
  unfold fn_X6_namesTwo at hf
  refine lv_iload_n hx hb dX6_namesTwo_0 rfl (lv_at hl 0 rfl) ?_
  refine lv_bipush (v := 11) hx hb dX6_namesTwo_1 (by decide) ?_
  refine lv_icmp_le (tgt := 16) hx hb dX6_namesTwo_3 (by decide) (fun c_1 => ?_) (fun c_1 => ?_)
  · have hf := ite_t c_1 hf
    refine lv_iconst (v := 0) hx hb dX6_namesTwo_16 (by decide) ?_
    exact z_pzret hx hb hr hlocks rfl hf dX6_namesTwo_17
  · have hf := ite_f c_1 hf
    refine lv_iload_n hx hb dX6_namesTwo_6 rfl (lv_at hl 0 rfl) ?_
    refine lv_bipush (v := 15) hx hb dX6_namesTwo_7 (by decide) ?_
    refine lv_icmp_ge (tgt := 16) hx hb dX6_namesTwo_9 (by decide) (fun c_2 => ?_) (fun c_2 => ?_)
    · have hf := ite_t c_2 hf
      refine lv_iconst (v := 0) hx hb dX6_namesTwo_16 (by decide) ?_
      exact z_pzret hx hb hr hlocks rfl hf dX6_namesTwo_17
    · have hf := ite_f c_2 hf
      refine lv_iconst (v := 1) hx hb dX6_namesTwo_12 (by decide) ?_
      refine lv_goto (tgt := 17) hx hb dX6_namesTwo_13 (by decide) ?_
      exact z_pzret hx hb hr hlocks rfl hf dX6_namesTwo_17
abbrev rm_X6_isConstraint : Room := { frames := 2, cells := 0, slots := 0, locals := 43 }
def fn_X6_isConstraint (σ : S2) (x1 : Int32) (x2 : Int32) (x3 : Int32) : Int32 := if x1 = 0 then lt (fn_X6_in x2 0 19) (fun r2 => r2) else if x1 = 1 then lt (fn_X6_in x2 0 3) (fun r4 => r4) else if x1 = 2 then if x2 < 0 then 0 else if x3 < 0 then 0 else 1 else if x1 = 5 then lt (fn_X6_in x2 0 31) (fun r9 => r9) else if x1 = 6 then lt (fn_X6_in x2 0 7) (fun r11 => r11) else if x1 = 7 then lt (fn_X6_in x2 0 7) (fun r13 => r13) else if x1 = 8 then lt (fn_X6_in x2 0 7) (fun r15 => r15) else if x1 = 12 then lt (fn_X6_isShape σ x2) (fun r17 => if r17 = 0 then 0 else lt (fn_X6_isShape σ x3) (fun r19 => if r19 = 0 then 0 else 1)) else if x1 = 13 then lt (fn_X6_isShape σ x2) (fun r22 => if r22 = 0 then 0 else lt (fn_X6_isShape σ x3) (fun r24 => if r24 = 0 then 0 else 1)) else if x1 = 14 then lt (fn_X6_isShape σ x2) (fun r27 => if r27 = 0 then 0 else lt (fn_X6_isShape σ x3) (fun r29 => if r29 = 0 then 0 else 1)) else if x1 = 17 then lt (fn_X6_isShape σ x2) (fun r32 => if r32 = 0 then 0 else lt (fn_X6_in x3 0 255) (fun r34 => if r34 = 0 then 0 else 1)) else if x1 < 11 then 1 else lt (fn_X6_isShape σ x2) (fun r37 => if r37 = 0 then 0 else 1)
set_option maxHeartbeats 4000000 in
set_option maxRecDepth 100000 in
theorem ct_X6_isConstraint (l : Launch) (D : va_G) (A : Nat → Prop) (ad : Nat → Nat) (cA : Nat → ClassId) (rs : va_W) (tr : List (ClassId × FieldType)) (σ : S2) (x1 : Int32) (x2 : Int32) (x3 : Int32) {res : Int32} (hf : fn_X6_isConstraint σ x1 x2 x3 = res) : Met l yX6_isConstraint (.code yX6_isConstraint cX6_isConstraint 4 (some .boolean) :: tb) rm_X6_isConstraint (va_Pc [.ref (ad 0), .int x1, .int x2, .int x3] (zN D vwCl (tyM cA tr) A (wM ad cA rs) nl σ)) (va_Qi (fun r' u' => r' = res ∧ u' = σ) (zB D vwCl (tyM cA tr) A (wM ad cA rs)) A) 0 0 A := by
  refine Met.ofW (cc := cX6_isConstraint) (maxL := 4) (ret := (some .boolean)) (by decide) rfl ?_
  intro p e s m args below meth c s₁ B hml hv
  obtain ⟨rfl, hB, hnw0⟩ := hv
  have htt : ∀ w ∈ tb, w.before (([.ref (ad 0), .int x1, .int x2, .int x3] : List Value).toArray) s = true := fun w h => atoms_spec (ws := (.code yX6_isConstraint cX6_isConstraint 4 (some .boolean) :: tb)) B.pre w (List.mem_cons_of_mem _ h)
  have C0 : cx p m meth c cX6_isConstraint (some .boolean) 4 s (([.ref (ad 0), .int x1, .int x2, .int x3] : List Value).toArray) tb nl RX6 := ⟨B.exec, B.bytes, B.returns, hml, findClass_of_methodNamed B.named, htt, B.notSynchronized, hnw0⟩
  obtain ⟨hx, hb, hr, hml, hown, htt, hlocks, hnw⟩ := id C0
  have hZ := z_start hB
  have hl := lv_entry ([.ref (ad 0), .int x1, .int x2, .int x3]) (n := 4) (Nat.le_of_ble_eq_true rfl)
  rw [lg_entry_eq]
  generalize (lg_sl ([.ref (ad 0), .int x1, .int x2, .int x3]) ++ List.replicate (4 - (lg_sl ([.ref (ad 0), .int x1, .int x2, .int x3])).length) Slot.unset).toArray = ls at hl ⊢
  have hl : lv_has ls 4 [(0, .ref (ad 0)), (1, .int x1), (2, .int x2), (3, .int x3)] := hl
  unfold fn_X6_isConstraint at hf
  refine lv_iload_n hx hb dX6_isConstraint_0 rfl (lv_at hl 1 rfl) ?_
  by_cases c_1 : x1 = 0
  · have hf := ite_t c_1 hf
    refine lv_tableIn (tgt := 88) hx hb dX6_isConstraint_1 (by rw [c_1]; decide) (by rw [c_1]; decide) (by rw [c_1]; rfl) (by decide) ?_
    refine lv_iload_n hx hb dX6_isConstraint_88 rfl (lv_at hl 2 rfl) ?_
    refine lv_iconst (v := 0) hx hb dX6_isConstraint_89 (by decide) ?_
    refine lv_bipush (v := 19) hx hb dX6_isConstraint_90 (by decide) ?_
    refine z_pcalli (z_runS (As := [.int x2, .int 0, .int 19]) (rest := []) ⟨hx, hb, hml, hown, htt⟩ gT (ct_X6_in l x2 0 19 rfl) md_X6_in lm_X6_66 rfl rfl ⟨Nat.le_of_ble_eq_true rfl, Nat.le_of_ble_eq_true rfl⟩ z_preP rfl rfl hl.1 rfl (lv_room (Nat.le_of_ble_eq_true rfl)) dX6_isConstraint_92 ⟨Nat.le_of_ble_eq_true rfl, Nat.le_of_ble_eq_true rfl⟩) ?_
    refine lv_topi (fun r2 e_r2 => ?_)
    have hf := lt_n e_r2 hf
    exact z_zret hx hb hr hlocks hZ (bo_X6_in e_r2) hf rfl dX6_isConstraint_95
  have hf := ite_f c_1 hf
  by_cases c_3 : x1 = 1
  · have hf := ite_t c_3 hf
    refine lv_tableIn (tgt := 96) hx hb dX6_isConstraint_1 (by rw [c_3]; decide) (by rw [c_3]; decide) (by rw [c_3]; rfl) (by decide) ?_
    refine lv_iload_n hx hb dX6_isConstraint_96 rfl (lv_at hl 2 rfl) ?_
    refine lv_iconst (v := 0) hx hb dX6_isConstraint_97 (by decide) ?_
    refine lv_iconst (v := 3) hx hb dX6_isConstraint_98 (by decide) ?_
    refine z_pcalli (z_runS (As := [.int x2, .int 0, .int 3]) (rest := []) ⟨hx, hb, hml, hown, htt⟩ gT (ct_X6_in l x2 0 3 rfl) md_X6_in lm_X6_66 rfl rfl ⟨Nat.le_of_ble_eq_true rfl, Nat.le_of_ble_eq_true rfl⟩ z_preP rfl rfl hl.1 rfl (lv_room (Nat.le_of_ble_eq_true rfl)) dX6_isConstraint_99 ⟨Nat.le_of_ble_eq_true rfl, Nat.le_of_ble_eq_true rfl⟩) ?_
    refine lv_topi (fun r4 e_r4 => ?_)
    have hf := lt_n e_r4 hf
    exact z_zret hx hb hr hlocks hZ (bo_X6_in e_r4) hf rfl dX6_isConstraint_102
  have hf := ite_f c_3 hf
  by_cases c_5 : x1 = 2
  · have hf := ite_t c_5 hf
    refine lv_tableIn (tgt := 103) hx hb dX6_isConstraint_1 (by rw [c_5]; decide) (by rw [c_5]; decide) (by rw [c_5]; rfl) (by decide) ?_
    refine lv_iload_n hx hb dX6_isConstraint_103 rfl (lv_at hl 2 rfl) ?_
    refine lv_if_lt (tgt := 115) hx hb dX6_isConstraint_104 (by decide) (fun c_6 => ?_) (fun c_6 => ?_)
    · have hf := ite_t c_6 hf
      refine lv_iconst (v := 0) hx hb dX6_isConstraint_115 (by decide) ?_
      exact z_zret hx hb hr hlocks hZ rfl hf rfl dX6_isConstraint_116
    · have hf := ite_f c_6 hf
      refine lv_iload_n hx hb dX6_isConstraint_107 rfl (lv_at hl 3 rfl) ?_
      refine lv_if_lt (tgt := 115) hx hb dX6_isConstraint_108 (by decide) (fun c_7 => ?_) (fun c_7 => ?_)
      · have hf := ite_t c_7 hf
        refine lv_iconst (v := 0) hx hb dX6_isConstraint_115 (by decide) ?_
        exact z_zret hx hb hr hlocks hZ rfl hf rfl dX6_isConstraint_116
      · have hf := ite_f c_7 hf
        refine lv_iconst (v := 1) hx hb dX6_isConstraint_111 (by decide) ?_
        refine lv_goto (tgt := 116) hx hb dX6_isConstraint_112 (by decide) ?_
        exact z_zret hx hb hr hlocks hZ rfl hf rfl dX6_isConstraint_116
  have hf := ite_f c_5 hf
  by_cases c_8 : x1 = 5
  · have hf := ite_t c_8 hf
    refine lv_tableIn (tgt := 117) hx hb dX6_isConstraint_1 (by rw [c_8]; decide) (by rw [c_8]; decide) (by rw [c_8]; rfl) (by decide) ?_
    refine lv_iload_n hx hb dX6_isConstraint_117 rfl (lv_at hl 2 rfl) ?_
    refine lv_iconst (v := 0) hx hb dX6_isConstraint_118 (by decide) ?_
    refine lv_bipush (v := 31) hx hb dX6_isConstraint_119 (by decide) ?_
    refine z_pcalli (z_runS (As := [.int x2, .int 0, .int 31]) (rest := []) ⟨hx, hb, hml, hown, htt⟩ gT (ct_X6_in l x2 0 31 rfl) md_X6_in lm_X6_66 rfl rfl ⟨Nat.le_of_ble_eq_true rfl, Nat.le_of_ble_eq_true rfl⟩ z_preP rfl rfl hl.1 rfl (lv_room (Nat.le_of_ble_eq_true rfl)) dX6_isConstraint_121 ⟨Nat.le_of_ble_eq_true rfl, Nat.le_of_ble_eq_true rfl⟩) ?_
    refine lv_topi (fun r9 e_r9 => ?_)
    have hf := lt_n e_r9 hf
    exact z_zret hx hb hr hlocks hZ (bo_X6_in e_r9) hf rfl dX6_isConstraint_124
  have hf := ite_f c_8 hf
  by_cases c_10 : x1 = 6
  · have hf := ite_t c_10 hf
    refine lv_tableIn (tgt := 125) hx hb dX6_isConstraint_1 (by rw [c_10]; decide) (by rw [c_10]; decide) (by rw [c_10]; rfl) (by decide) ?_
    refine lv_iload_n hx hb dX6_isConstraint_125 rfl (lv_at hl 2 rfl) ?_
    refine lv_iconst (v := 0) hx hb dX6_isConstraint_126 (by decide) ?_
    refine lv_bipush (v := 7) hx hb dX6_isConstraint_127 (by decide) ?_
    refine z_pcalli (z_runS (As := [.int x2, .int 0, .int 7]) (rest := []) ⟨hx, hb, hml, hown, htt⟩ gT (ct_X6_in l x2 0 7 rfl) md_X6_in lm_X6_66 rfl rfl ⟨Nat.le_of_ble_eq_true rfl, Nat.le_of_ble_eq_true rfl⟩ z_preP rfl rfl hl.1 rfl (lv_room (Nat.le_of_ble_eq_true rfl)) dX6_isConstraint_129 ⟨Nat.le_of_ble_eq_true rfl, Nat.le_of_ble_eq_true rfl⟩) ?_
    refine lv_topi (fun r11 e_r11 => ?_)
    have hf := lt_n e_r11 hf
    exact z_zret hx hb hr hlocks hZ (bo_X6_in e_r11) hf rfl dX6_isConstraint_132
  have hf := ite_f c_10 hf
  by_cases c_12 : x1 = 7
  · have hf := ite_t c_12 hf
    refine lv_tableIn (tgt := 125) hx hb dX6_isConstraint_1 (by rw [c_12]; decide) (by rw [c_12]; decide) (by rw [c_12]; rfl) (by decide) ?_
    refine lv_iload_n hx hb dX6_isConstraint_125 rfl (lv_at hl 2 rfl) ?_
    refine lv_iconst (v := 0) hx hb dX6_isConstraint_126 (by decide) ?_
    refine lv_bipush (v := 7) hx hb dX6_isConstraint_127 (by decide) ?_
    refine z_pcalli (z_runS (As := [.int x2, .int 0, .int 7]) (rest := []) ⟨hx, hb, hml, hown, htt⟩ gT (ct_X6_in l x2 0 7 rfl) md_X6_in lm_X6_66 rfl rfl ⟨Nat.le_of_ble_eq_true rfl, Nat.le_of_ble_eq_true rfl⟩ z_preP rfl rfl hl.1 rfl (lv_room (Nat.le_of_ble_eq_true rfl)) dX6_isConstraint_129 ⟨Nat.le_of_ble_eq_true rfl, Nat.le_of_ble_eq_true rfl⟩) ?_
    refine lv_topi (fun r13 e_r13 => ?_)
    have hf := lt_n e_r13 hf
    exact z_zret hx hb hr hlocks hZ (bo_X6_in e_r13) hf rfl dX6_isConstraint_132
  have hf := ite_f c_12 hf
  by_cases c_14 : x1 = 8
  · have hf := ite_t c_14 hf
    refine lv_tableIn (tgt := 125) hx hb dX6_isConstraint_1 (by rw [c_14]; decide) (by rw [c_14]; decide) (by rw [c_14]; rfl) (by decide) ?_
    refine lv_iload_n hx hb dX6_isConstraint_125 rfl (lv_at hl 2 rfl) ?_
    refine lv_iconst (v := 0) hx hb dX6_isConstraint_126 (by decide) ?_
    refine lv_bipush (v := 7) hx hb dX6_isConstraint_127 (by decide) ?_
    refine z_pcalli (z_runS (As := [.int x2, .int 0, .int 7]) (rest := []) ⟨hx, hb, hml, hown, htt⟩ gT (ct_X6_in l x2 0 7 rfl) md_X6_in lm_X6_66 rfl rfl ⟨Nat.le_of_ble_eq_true rfl, Nat.le_of_ble_eq_true rfl⟩ z_preP rfl rfl hl.1 rfl (lv_room (Nat.le_of_ble_eq_true rfl)) dX6_isConstraint_129 ⟨Nat.le_of_ble_eq_true rfl, Nat.le_of_ble_eq_true rfl⟩) ?_
    refine lv_topi (fun r15 e_r15 => ?_)
    have hf := lt_n e_r15 hf
    exact z_zret hx hb hr hlocks hZ (bo_X6_in e_r15) hf rfl dX6_isConstraint_132
  have hf := ite_f c_14 hf
  by_cases c_16 : x1 = 12
  · have hf := ite_t c_16 hf
    refine lv_tableIn (tgt := 133) hx hb dX6_isConstraint_1 (by rw [c_16]; decide) (by rw [c_16]; decide) (by rw [c_16]; rfl) (by decide) ?_
    refine lv_aload_n hx hb dX6_isConstraint_133 rfl (lv_at hl 0 rfl) ?_
    refine lv_iload_n hx hb dX6_isConstraint_134 rfl (lv_at hl 2 rfl) ?_
    refine z_calli (z_runV (As := [.int x2]) (rest := []) ⟨hx, hb, hml, hown, htt⟩ gT (ct_X6_isShape l D A ad cA rs tr σ x2 rfl) md_X6_isShape lm_X6_83 rfl rfl ⟨Nat.le_of_ble_eq_true rfl, Nat.le_of_ble_eq_true rfl⟩ (z_preV gN hnw hZ rfl (q0 := 0) (ci := 6) rfl) rfl rfl hl.1 rfl (lv_room (Nat.le_of_ble_eq_true rfl)) dX6_isConstraint_135 ⟨Nat.le_of_ble_eq_true rfl, Nat.le_of_ble_eq_true rfl⟩) hZ (fun H locs hZ => ?_)
    refine lv_topi (fun r17 e_r17 => ?_)
    have hf := lt_n e_r17 hf
    refine lv_if_eq (tgt := 153) hx hb dX6_isConstraint_138 (by decide) (fun c_18 => ?_) (fun c_18 => ?_)
    · have hf := ite_t c_18 hf
      refine lv_iconst (v := 0) hx hb dX6_isConstraint_153 (by decide) ?_
      exact z_zret hx hb hr hlocks hZ rfl hf rfl dX6_isConstraint_154
    · have hf := ite_f c_18 hf
      refine lv_aload_n hx hb dX6_isConstraint_141 rfl (lv_at hl 0 rfl) ?_
      refine lv_iload_n hx hb dX6_isConstraint_142 rfl (lv_at hl 3 rfl) ?_
      refine z_calli (z_runV (As := [.int x3]) (rest := []) ⟨hx, hb, hml, hown, htt⟩ gT (ct_X6_isShape l D A ad cA rs tr σ x3 rfl) md_X6_isShape lm_X6_83 rfl rfl ⟨Nat.le_of_ble_eq_true rfl, Nat.le_of_ble_eq_true rfl⟩ (z_preV gN hnw hZ rfl (q0 := 0) (ci := 6) rfl) rfl rfl hl.1 rfl (lv_room (Nat.le_of_ble_eq_true rfl)) dX6_isConstraint_143 ⟨Nat.le_of_ble_eq_true rfl, Nat.le_of_ble_eq_true rfl⟩) hZ (fun H locs hZ => ?_)
      refine lv_topi (fun r19 e_r19 => ?_)
      have hf := lt_n e_r19 hf
      refine lv_if_eq (tgt := 153) hx hb dX6_isConstraint_146 (by decide) (fun c_20 => ?_) (fun c_20 => ?_)
      · have hf := ite_t c_20 hf
        refine lv_iconst (v := 0) hx hb dX6_isConstraint_153 (by decide) ?_
        exact z_zret hx hb hr hlocks hZ rfl hf rfl dX6_isConstraint_154
      · have hf := ite_f c_20 hf
        refine lv_iconst (v := 1) hx hb dX6_isConstraint_149 (by decide) ?_
        refine lv_goto (tgt := 154) hx hb dX6_isConstraint_150 (by decide) ?_
        exact z_zret hx hb hr hlocks hZ rfl hf rfl dX6_isConstraint_154
  have hf := ite_f c_16 hf
  by_cases c_21 : x1 = 13
  · have hf := ite_t c_21 hf
    refine lv_tableIn (tgt := 133) hx hb dX6_isConstraint_1 (by rw [c_21]; decide) (by rw [c_21]; decide) (by rw [c_21]; rfl) (by decide) ?_
    refine lv_aload_n hx hb dX6_isConstraint_133 rfl (lv_at hl 0 rfl) ?_
    refine lv_iload_n hx hb dX6_isConstraint_134 rfl (lv_at hl 2 rfl) ?_
    refine z_calli (z_runV (As := [.int x2]) (rest := []) ⟨hx, hb, hml, hown, htt⟩ gT (ct_X6_isShape l D A ad cA rs tr σ x2 rfl) md_X6_isShape lm_X6_83 rfl rfl ⟨Nat.le_of_ble_eq_true rfl, Nat.le_of_ble_eq_true rfl⟩ (z_preV gN hnw hZ rfl (q0 := 0) (ci := 6) rfl) rfl rfl hl.1 rfl (lv_room (Nat.le_of_ble_eq_true rfl)) dX6_isConstraint_135 ⟨Nat.le_of_ble_eq_true rfl, Nat.le_of_ble_eq_true rfl⟩) hZ (fun H locs hZ => ?_)
    refine lv_topi (fun r22 e_r22 => ?_)
    have hf := lt_n e_r22 hf
    refine lv_if_eq (tgt := 153) hx hb dX6_isConstraint_138 (by decide) (fun c_23 => ?_) (fun c_23 => ?_)
    · have hf := ite_t c_23 hf
      refine lv_iconst (v := 0) hx hb dX6_isConstraint_153 (by decide) ?_
      exact z_zret hx hb hr hlocks hZ rfl hf rfl dX6_isConstraint_154
    · have hf := ite_f c_23 hf
      refine lv_aload_n hx hb dX6_isConstraint_141 rfl (lv_at hl 0 rfl) ?_
      refine lv_iload_n hx hb dX6_isConstraint_142 rfl (lv_at hl 3 rfl) ?_
      refine z_calli (z_runV (As := [.int x3]) (rest := []) ⟨hx, hb, hml, hown, htt⟩ gT (ct_X6_isShape l D A ad cA rs tr σ x3 rfl) md_X6_isShape lm_X6_83 rfl rfl ⟨Nat.le_of_ble_eq_true rfl, Nat.le_of_ble_eq_true rfl⟩ (z_preV gN hnw hZ rfl (q0 := 0) (ci := 6) rfl) rfl rfl hl.1 rfl (lv_room (Nat.le_of_ble_eq_true rfl)) dX6_isConstraint_143 ⟨Nat.le_of_ble_eq_true rfl, Nat.le_of_ble_eq_true rfl⟩) hZ (fun H locs hZ => ?_)
      refine lv_topi (fun r24 e_r24 => ?_)
      have hf := lt_n e_r24 hf
      refine lv_if_eq (tgt := 153) hx hb dX6_isConstraint_146 (by decide) (fun c_25 => ?_) (fun c_25 => ?_)
      · have hf := ite_t c_25 hf
        refine lv_iconst (v := 0) hx hb dX6_isConstraint_153 (by decide) ?_
        exact z_zret hx hb hr hlocks hZ rfl hf rfl dX6_isConstraint_154
      · have hf := ite_f c_25 hf
        refine lv_iconst (v := 1) hx hb dX6_isConstraint_149 (by decide) ?_
        refine lv_goto (tgt := 154) hx hb dX6_isConstraint_150 (by decide) ?_
        exact z_zret hx hb hr hlocks hZ rfl hf rfl dX6_isConstraint_154
  have hf := ite_f c_21 hf
  by_cases c_26 : x1 = 14
  · have hf := ite_t c_26 hf
    refine lv_tableIn (tgt := 133) hx hb dX6_isConstraint_1 (by rw [c_26]; decide) (by rw [c_26]; decide) (by rw [c_26]; rfl) (by decide) ?_
    refine lv_aload_n hx hb dX6_isConstraint_133 rfl (lv_at hl 0 rfl) ?_
    refine lv_iload_n hx hb dX6_isConstraint_134 rfl (lv_at hl 2 rfl) ?_
    refine z_calli (z_runV (As := [.int x2]) (rest := []) ⟨hx, hb, hml, hown, htt⟩ gT (ct_X6_isShape l D A ad cA rs tr σ x2 rfl) md_X6_isShape lm_X6_83 rfl rfl ⟨Nat.le_of_ble_eq_true rfl, Nat.le_of_ble_eq_true rfl⟩ (z_preV gN hnw hZ rfl (q0 := 0) (ci := 6) rfl) rfl rfl hl.1 rfl (lv_room (Nat.le_of_ble_eq_true rfl)) dX6_isConstraint_135 ⟨Nat.le_of_ble_eq_true rfl, Nat.le_of_ble_eq_true rfl⟩) hZ (fun H locs hZ => ?_)
    refine lv_topi (fun r27 e_r27 => ?_)
    have hf := lt_n e_r27 hf
    refine lv_if_eq (tgt := 153) hx hb dX6_isConstraint_138 (by decide) (fun c_28 => ?_) (fun c_28 => ?_)
    · have hf := ite_t c_28 hf
      refine lv_iconst (v := 0) hx hb dX6_isConstraint_153 (by decide) ?_
      exact z_zret hx hb hr hlocks hZ rfl hf rfl dX6_isConstraint_154
    · have hf := ite_f c_28 hf
      refine lv_aload_n hx hb dX6_isConstraint_141 rfl (lv_at hl 0 rfl) ?_
      refine lv_iload_n hx hb dX6_isConstraint_142 rfl (lv_at hl 3 rfl) ?_
      refine z_calli (z_runV (As := [.int x3]) (rest := []) ⟨hx, hb, hml, hown, htt⟩ gT (ct_X6_isShape l D A ad cA rs tr σ x3 rfl) md_X6_isShape lm_X6_83 rfl rfl ⟨Nat.le_of_ble_eq_true rfl, Nat.le_of_ble_eq_true rfl⟩ (z_preV gN hnw hZ rfl (q0 := 0) (ci := 6) rfl) rfl rfl hl.1 rfl (lv_room (Nat.le_of_ble_eq_true rfl)) dX6_isConstraint_143 ⟨Nat.le_of_ble_eq_true rfl, Nat.le_of_ble_eq_true rfl⟩) hZ (fun H locs hZ => ?_)
      refine lv_topi (fun r29 e_r29 => ?_)
      have hf := lt_n e_r29 hf
      refine lv_if_eq (tgt := 153) hx hb dX6_isConstraint_146 (by decide) (fun c_30 => ?_) (fun c_30 => ?_)
      · have hf := ite_t c_30 hf
        refine lv_iconst (v := 0) hx hb dX6_isConstraint_153 (by decide) ?_
        exact z_zret hx hb hr hlocks hZ rfl hf rfl dX6_isConstraint_154
      · have hf := ite_f c_30 hf
        refine lv_iconst (v := 1) hx hb dX6_isConstraint_149 (by decide) ?_
        refine lv_goto (tgt := 154) hx hb dX6_isConstraint_150 (by decide) ?_
        exact z_zret hx hb hr hlocks hZ rfl hf rfl dX6_isConstraint_154
  have hf := ite_f c_26 hf
  by_cases c_31 : x1 = 17
  · have hf := ite_t c_31 hf
    refine lv_tableIn (tgt := 155) hx hb dX6_isConstraint_1 (by rw [c_31]; decide) (by rw [c_31]; decide) (by rw [c_31]; rfl) (by decide) ?_
    refine lv_aload_n hx hb dX6_isConstraint_155 rfl (lv_at hl 0 rfl) ?_
    refine lv_iload_n hx hb dX6_isConstraint_156 rfl (lv_at hl 2 rfl) ?_
    refine z_calli (z_runV (As := [.int x2]) (rest := []) ⟨hx, hb, hml, hown, htt⟩ gT (ct_X6_isShape l D A ad cA rs tr σ x2 rfl) md_X6_isShape lm_X6_83 rfl rfl ⟨Nat.le_of_ble_eq_true rfl, Nat.le_of_ble_eq_true rfl⟩ (z_preV gN hnw hZ rfl (q0 := 0) (ci := 6) rfl) rfl rfl hl.1 rfl (lv_room (Nat.le_of_ble_eq_true rfl)) dX6_isConstraint_157 ⟨Nat.le_of_ble_eq_true rfl, Nat.le_of_ble_eq_true rfl⟩) hZ (fun H locs hZ => ?_)
    refine lv_topi (fun r32 e_r32 => ?_)
    have hf := lt_n e_r32 hf
    refine lv_if_eq (tgt := 178) hx hb dX6_isConstraint_160 (by decide) (fun c_33 => ?_) (fun c_33 => ?_)
    · have hf := ite_t c_33 hf
      refine lv_iconst (v := 0) hx hb dX6_isConstraint_178 (by decide) ?_
      exact z_zret hx hb hr hlocks hZ rfl hf rfl dX6_isConstraint_179
    · have hf := ite_f c_33 hf
      refine lv_iload_n hx hb dX6_isConstraint_163 rfl (lv_at hl 3 rfl) ?_
      refine lv_iconst (v := 0) hx hb dX6_isConstraint_164 (by decide) ?_
      refine lv_sipush (v := 255) hx hb dX6_isConstraint_165 (by decide) ?_
      refine z_pcalli (z_runS (As := [.int x3, .int 0, .int 255]) (rest := []) ⟨hx, hb, hml, hown, htt⟩ gT (ct_X6_in l x3 0 255 rfl) md_X6_in lm_X6_66 rfl rfl ⟨Nat.le_of_ble_eq_true rfl, Nat.le_of_ble_eq_true rfl⟩ z_preP rfl rfl hl.1 rfl (lv_room (Nat.le_of_ble_eq_true rfl)) dX6_isConstraint_168 ⟨Nat.le_of_ble_eq_true rfl, Nat.le_of_ble_eq_true rfl⟩) ?_
      refine lv_topi (fun r34 e_r34 => ?_)
      have hf := lt_n e_r34 hf
      refine lv_if_eq (tgt := 178) hx hb dX6_isConstraint_171 (by decide) (fun c_35 => ?_) (fun c_35 => ?_)
      · have hf := ite_t c_35 hf
        refine lv_iconst (v := 0) hx hb dX6_isConstraint_178 (by decide) ?_
        exact z_zret hx hb hr hlocks hZ rfl hf rfl dX6_isConstraint_179
      · have hf := ite_f c_35 hf
        refine lv_iconst (v := 1) hx hb dX6_isConstraint_174 (by decide) ?_
        refine lv_goto (tgt := 179) hx hb dX6_isConstraint_175 (by decide) ?_
        exact z_zret hx hb hr hlocks hZ rfl hf rfl dX6_isConstraint_179
  have hf := ite_f c_31 hf
  have nc_1 := lv_neT c_1 (show (0 : Int32).toInt = 0 from by decide)
  have nc_3 := lv_neT c_3 (show (1 : Int32).toInt = 1 from by decide)
  have nc_5 := lv_neT c_5 (show (2 : Int32).toInt = 2 from by decide)
  have nc_8 := lv_neT c_8 (show (5 : Int32).toInt = 5 from by decide)
  have nc_10 := lv_neT c_10 (show (6 : Int32).toInt = 6 from by decide)
  have nc_12 := lv_neT c_12 (show (7 : Int32).toInt = 7 from by decide)
  have nc_14 := lv_neT c_14 (show (8 : Int32).toInt = 8 from by decide)
  have nc_16 := lv_neT c_16 (show (12 : Int32).toInt = 12 from by decide)
  have nc_21 := lv_neT c_21 (show (13 : Int32).toInt = 13 from by decide)
  have nc_26 := lv_neT c_26 (show (14 : Int32).toInt = 14 from by decide)
  have nc_31 := lv_neT c_31 (show (17 : Int32).toInt = 17 from by decide)
  have h_39 : (x1).toInt < 0 ∨ 17 < (x1).toInt ∨ (x1).toInt = 3 ∨ (x1).toInt = 4 ∨ (x1).toInt = 9 ∨ (x1).toInt = 10 ∨ (x1).toInt = 11 ∨ (x1).toInt = 15 ∨ (x1).toInt = 16 := by omega
  refine z_tdef (tgt := 180) hx hb dX6_isConstraint_1 (by
    rcases h_39 with h_39 | h_39 | h_39 | h_39 | h_39 | h_39 | h_39 | h_39 | h_39
    · exact Or.inl h_39
    · exact Or.inr (Or.inl h_39)
    · exact Or.inr (Or.inr (by rw [h_39]; rfl))
    · exact Or.inr (Or.inr (by rw [h_39]; rfl))
    · exact Or.inr (Or.inr (by rw [h_39]; rfl))
    · exact Or.inr (Or.inr (by rw [h_39]; rfl))
    · exact Or.inr (Or.inr (by rw [h_39]; rfl))
    · exact Or.inr (Or.inr (by rw [h_39]; rfl))
    · exact Or.inr (Or.inr (by rw [h_39]; rfl))) (by decide) ?_
  refine lv_iload_n hx hb dX6_isConstraint_180 rfl (lv_at hl 1 rfl) ?_
  refine lv_bipush (v := 11) hx hb dX6_isConstraint_181 (by decide) ?_
  refine lv_icmp_lt (tgt := 194) hx hb dX6_isConstraint_183 (by decide) (fun c_36 => ?_) (fun c_36 => ?_)
  · have hf := ite_t c_36 hf
    refine lv_iconst (v := 1) hx hb dX6_isConstraint_194 (by decide) ?_
    refine lv_goto (tgt := 199) hx hb dX6_isConstraint_195 (by decide) ?_
    exact z_zret hx hb hr hlocks hZ rfl hf rfl dX6_isConstraint_199
  · have hf := ite_f c_36 hf
    refine lv_aload_n hx hb dX6_isConstraint_186 rfl (lv_at hl 0 rfl) ?_
    refine lv_iload_n hx hb dX6_isConstraint_187 rfl (lv_at hl 2 rfl) ?_
    refine z_calli (z_runV (As := [.int x2]) (rest := []) ⟨hx, hb, hml, hown, htt⟩ gT (ct_X6_isShape l D A ad cA rs tr σ x2 rfl) md_X6_isShape lm_X6_83 rfl rfl ⟨Nat.le_of_ble_eq_true rfl, Nat.le_of_ble_eq_true rfl⟩ (z_preV gN hnw hZ rfl (q0 := 0) (ci := 6) rfl) rfl rfl hl.1 rfl (lv_room (Nat.le_of_ble_eq_true rfl)) dX6_isConstraint_188 ⟨Nat.le_of_ble_eq_true rfl, Nat.le_of_ble_eq_true rfl⟩) hZ (fun H locs hZ => ?_)
    refine lv_topi (fun r37 e_r37 => ?_)
    have hf := lt_n e_r37 hf
    refine lv_if_eq (tgt := 198) hx hb dX6_isConstraint_191 (by decide) (fun c_38 => ?_) (fun c_38 => ?_)
    · have hf := ite_t c_38 hf
      refine lv_iconst (v := 0) hx hb dX6_isConstraint_198 (by decide) ?_
      exact z_zret hx hb hr hlocks hZ rfl hf rfl dX6_isConstraint_199
    · have hf := ite_f c_38 hf
      refine lv_iconst (v := 1) hx hb dX6_isConstraint_194 (by decide) ?_
      refine lv_goto (tgt := 199) hx hb dX6_isConstraint_195 (by decide) ?_
      exact z_zret hx hb hr hlocks hZ rfl hf rfl dX6_isConstraint_199
abbrev rm_X6_leadsTo : Room := { frames := 1, cells := 0, slots := 0, locals := 20 }
def fn_X6_leadsTo_41 (K32 : S2 → Int32 → Int32 → Option (Int32 × S2)) : Nat → S2 → Int32 → Int32 → Int32 → Option (Int32 × S2)
  | 0, _, _, _, _ => none
  | n + 1, σ, x2, x3, x4 => if (σ.1 23 0) ≤ x4 then lt (x3 + 1) (fun v2 => K32 σ x2 v2) else ck x4 40 (lt (fn_X6_namesOne (σ.1 8 (x4).toNatClampNeg)) (fun r4 => if r4 = 0 then lt (x4 + 1) (fun v6 => fn_X6_leadsTo_41 K32 n σ x2 x3 v6) else ck x4 40 (ck (σ.1 7 (x4).toNatClampNeg) 12 (if (σ.1 13 ((σ.1 7 (x4).toNatClampNeg)).toNatClampNeg) = 0 then lt (x4 + 1) (fun v10 => fn_X6_leadsTo_41 K32 n σ x2 x3 v10) else ck x4 40 (ck (σ.1 9 (x4).toNatClampNeg) 12 (lt (st σ 13 ((σ.1 9 (x4).toNatClampNeg)).toNatClampNeg 1) (fun σ13 => ck x4 40 (lt (fn_X6_namesTwo (σ13.1 8 (x4).toNatClampNeg)) (fun r15 => if r15 = 0 then lt (x4 + 1) (fun v17 => fn_X6_leadsTo_41 K32 n σ13 x2 x3 v17) else ck x4 40 (ck (σ13.1 10 (x4).toNatClampNeg) 12 (lt (st σ13 13 ((σ13.1 10 (x4).toNatClampNeg)).toNatClampNeg 1) (fun σ20 => lt (x4 + 1) (fun v21 => fn_X6_leadsTo_41 K32 n σ20 x2 x3 v21)))))))))))))
def fn_X6_leadsTo_32 : Nat → S2 → Int32 → Int32 → Option (Int32 × S2)
  | 0, _, _, _ => none
  | n + 1, σ, x2, x3 => if 12 ≤ x3 then ck x2 12 (cb (σ.1 13 (x2).toNatClampNeg) (some ((σ.1 13 (x2).toNatClampNeg), σ))) else fn_X6_leadsTo_41 (fn_X6_leadsTo_32 n) fu σ x2 x3 0
def fn_X6_leadsTo_2 : Nat → S2 → Int32 → Int32 → Int32 → Option (Int32 × S2)
  | 0, _, _, _, _ => none
  | n + 1, σ, x1, x2, x3 => if 12 ≤ x3 then fn_X6_leadsTo_32 fu σ x2 0 else if x3 = x1 then ck x3 12 (lt (st σ 13 (x3).toNatClampNeg 1) (fun σ7 => lt (x3 + 1) (fun v8 => fn_X6_leadsTo_2 n σ7 x1 x2 v8))) else ck x3 12 (lt (st σ 13 (x3).toNatClampNeg 0) (fun σ4 => lt (x3 + 1) (fun v5 => fn_X6_leadsTo_2 n σ4 x1 x2 v5)))
def fn_X6_leadsTo (σ : S2) (x1 : Int32) (x2 : Int32) : Option (Int32 × S2) := fn_X6_leadsTo_2 fu σ x1 x2 0
set_option maxHeartbeats 4000000 in
set_option maxRecDepth 100000 in
theorem wk_X6_leadsTo_41 {p : Program} {l : Launch} {e : Env} {s : State} {m : MethodId} {args : Array Value} {below : List Frame} {meth : Method} {c : Code} {D : va_G} {A : Nat → Prop} {ad : Nat → Nat} {cA : Nat → ClassId} {rs : va_W} {tr : List (ClassId × FieldType)} {res : Int32 × S2} (C0 : cx p m meth c cX6_leadsTo (some .boolean) 5 s args tb nl RX6) (K32 : S2 → Int32 → Int32 → Option (Int32 × S2)) (hK32 : ∀ (σ : S2) (x2 : Int32) (x3 : Int32), ∀ (H : Heap) (locs : List Loc) (ls : Array Slot), zz D vwCl (tyM cA tr) A (wM ad cA rs) s s.heap H locs σ → lv_has ls 5 [(0, .ref (ad 0)), (2, .int x2), (3, .int x3)] → K32 σ x2 x3 = some res → W p l e rm_X6_leadsTo s m args below meth c H locs 0 0 (MQ below (va_Qi (fun r' u' => r' = res.1 ∧ u' = res.2) (zB D vwCl (tyM cA tr) A (wM ad cA rs)) A) args s 0 0 A) (F0 m 32 ls [])) : ∀ (n : Nat) (σ : S2) (x2 : Int32) (x3 : Int32) (x4 : Int32), ∀ (H : Heap) (locs : List Loc) (ls : Array Slot), zz D vwCl (tyM cA tr) A (wM ad cA rs) s s.heap H locs σ → lv_has ls 5 [(0, .ref (ad 0)), (2, .int x2), (3, .int x3), (4, .int x4)] → fn_X6_leadsTo_41 K32 n σ x2 x3 x4 = some res → W p l e rm_X6_leadsTo s m args below meth c H locs 0 0 (MQ below (va_Qi (fun r' u' => r' = res.1 ∧ u' = res.2) (zB D vwCl (tyM cA tr) A (wM ad cA rs)) A) args s 0 0 A) (F0 m 41 ls []) := by
  obtain ⟨hx, hb, hr, hml, hown, htt, hlocks, hnw⟩ := id C0
  intro n
  induction n with
  | zero => intro σ x2 x3 x4 H locs ls hZ hl hf; exact no_some hf
  | succ n ih =>
    intro σ x2 x3 x4 H locs ls hZ hl hf
    rw [fn_X6_leadsTo_41] at hf
    refine lv_iload hx hb dX6_leadsTo_41 (lv_at hl 3 rfl) ?_
    refine lv_aload_n hx hb dX6_leadsTo_43 rfl (lv_at hl 0 rfl) ?_
    refine z_get hx hb htt iw_X6 hown hZ 0 rfl rfl 9 (by decide) lf_X6_90 rfl dX6_leadsTo_44 ?_
    refine lv_icmp_ge (tgt := 123) hx hb dX6_leadsTo_47 (by decide) (fun c_1 => ?_) (fun c_1 => ?_)
    · have hf := ite_t c_1 hf
      obtain ⟨v2, e_v2⟩ : ∃ y : Int32, y = x3 + 1 := ⟨_, rfl⟩
      have hf := lt_n e_v2 hf
      refine lv_iinc (v := v2) (lv' := [(3, .int v2), (0, .ref (ad 0)), (2, .int x2), (4, .int x4)]) hx hb dX6_leadsTo_123 hl (k := 2) rfl (by rw [e_v2]; rfl) (by decide) rfl (fun ls hl => ?_)
      refine lv_goto (tgt := 32) hx hb dX6_leadsTo_126 (by decide) ?_
      exact hK32 σ x2 v2 _ _ _ hZ (lv_sub hl [1, 2, 0] rfl) hf
    · have hf := ite_f c_1 hf
      refine lv_aload_n hx hb dX6_leadsTo_50 rfl (lv_at hl 0 rfl) ?_
      refine z_get hx hb htt iw_X6 hown hZ 0 rfl rfl 11 (by decide) lf_X6_32 rfl dX6_leadsTo_51 ?_
      refine lv_iload hx hb dX6_leadsTo_54 (lv_at hl 3 rfl) ?_
      obtain ⟨h_3, hf⟩ := ck_s hf
      refine z_ild hx hb hZ 8 7 rfl rfl h_3 dX6_leadsTo_56 ?_
      refine z_pcalli (z_runS (As := [.int (σ.1 8 (x4).toNatClampNeg)]) (rest := []) ⟨hx, hb, hml, hown, htt⟩ gT (ct_X6_namesOne l (σ.1 8 (x4).toNatClampNeg) rfl) md_X6_namesOne lm_X6_93 rfl rfl ⟨Nat.le_of_ble_eq_true rfl, Nat.le_of_ble_eq_true rfl⟩ z_preP rfl rfl hl.1 rfl (lv_room (Nat.le_of_ble_eq_true rfl)) dX6_leadsTo_57 ⟨Nat.le_of_ble_eq_true rfl, Nat.le_of_ble_eq_true rfl⟩) ?_
      refine lv_topi (fun r4 e_r4 => ?_)
      have hf := lt_n e_r4 hf
      refine lv_if_eq (tgt := 117) hx hb dX6_leadsTo_60 (by decide) (fun c_5 => ?_) (fun c_5 => ?_)
      · have hf := ite_t c_5 hf
        obtain ⟨v6, e_v6⟩ : ∃ y : Int32, y = x4 + 1 := ⟨_, rfl⟩
        have hf := lt_n e_v6 hf
        refine lv_iinc (v := v6) (lv' := [(4, .int v6), (0, .ref (ad 0)), (2, .int x2), (3, .int x3)]) hx hb dX6_leadsTo_117 hl (k := 3) rfl (by rw [e_v6]; rfl) (by decide) rfl (fun ls hl => ?_)
        refine lv_goto (tgt := 41) hx hb dX6_leadsTo_120 (by decide) ?_
        exact ih σ x2 x3 v6 _ _ _ hZ (lv_sub hl [1, 2, 3, 0] rfl) hf
      · have hf := ite_f c_5 hf
        refine lv_aload_n hx hb dX6_leadsTo_63 rfl (lv_at hl 0 rfl) ?_
        refine z_get hx hb htt iw_X6 hown hZ 0 rfl rfl 16 (by decide) lf_X6_47 rfl dX6_leadsTo_64 ?_
        refine lv_aload_n hx hb dX6_leadsTo_67 rfl (lv_at hl 0 rfl) ?_
        refine z_get hx hb htt iw_X6 hown hZ 0 rfl rfl 10 (by decide) lf_X6_29 rfl dX6_leadsTo_68 ?_
        refine lv_iload hx hb dX6_leadsTo_71 (lv_at hl 3 rfl) ?_
        obtain ⟨h_7, hf⟩ := ck_s hf
        refine z_ild hx hb hZ 7 6 rfl rfl h_7 dX6_leadsTo_73 ?_
        obtain ⟨h_8, hf⟩ := ck_s hf
        refine z_zld hx hb hZ 13 12 rfl rfl h_8 dX6_leadsTo_74 ?_
        refine lv_if_eq (tgt := 117) hx hb dX6_leadsTo_75 (by decide) (fun c_9 => ?_) (fun c_9 => ?_)
        · have hf := ite_t c_9 hf
          obtain ⟨v10, e_v10⟩ : ∃ y : Int32, y = x4 + 1 := ⟨_, rfl⟩
          have hf := lt_n e_v10 hf
          refine lv_iinc (v := v10) (lv' := [(4, .int v10), (0, .ref (ad 0)), (2, .int x2), (3, .int x3)]) hx hb dX6_leadsTo_117 hl (k := 3) rfl (by rw [e_v10]; rfl) (by decide) rfl (fun ls hl => ?_)
          refine lv_goto (tgt := 41) hx hb dX6_leadsTo_120 (by decide) ?_
          exact ih σ x2 x3 v10 _ _ _ hZ (lv_sub hl [1, 2, 3, 0] rfl) hf
        · have hf := ite_f c_9 hf
          refine lv_aload_n hx hb dX6_leadsTo_78 rfl (lv_at hl 0 rfl) ?_
          refine z_get hx hb htt iw_X6 hown hZ 0 rfl rfl 16 (by decide) lf_X6_47 rfl dX6_leadsTo_79 ?_
          refine lv_aload_n hx hb dX6_leadsTo_82 rfl (lv_at hl 0 rfl) ?_
          refine z_get hx hb htt iw_X6 hown hZ 0 rfl rfl 12 (by decide) lf_X6_35 rfl dX6_leadsTo_83 ?_
          refine lv_iload hx hb dX6_leadsTo_86 (lv_at hl 3 rfl) ?_
          obtain ⟨h_11, hf⟩ := ck_s hf
          refine z_ild hx hb hZ 9 8 rfl rfl h_11 dX6_leadsTo_88 ?_
          refine lv_iconst (v := 1) hx hb dX6_leadsTo_89 (by decide) ?_
          obtain ⟨h_12, hf⟩ := ck_s hf
          refine z_zst (σ' := st σ 13 ((σ.1 9 (x4).toNatClampNeg)).toNatClampNeg 1) hx hb hZ 13 12 rfl rfl h_12 dX6_leadsTo_90 rfl (fun σ13 H locs e_σ13 hZ => ?_)
          have hf := lt_n e_σ13 hf
          refine lv_aload_n hx hb dX6_leadsTo_91 rfl (lv_at hl 0 rfl) ?_
          refine z_get hx hb htt iw_X6 hown hZ 0 rfl rfl 11 (by decide) lf_X6_32 rfl dX6_leadsTo_92 ?_
          refine lv_iload hx hb dX6_leadsTo_95 (lv_at hl 3 rfl) ?_
          obtain ⟨h_14, hf⟩ := ck_s hf
          refine z_ild hx hb hZ 8 7 rfl rfl h_14 dX6_leadsTo_97 ?_
          refine z_pcalli (z_runS (As := [.int (σ13.1 8 (x4).toNatClampNeg)]) (rest := []) ⟨hx, hb, hml, hown, htt⟩ gT (ct_X6_namesTwo l (σ13.1 8 (x4).toNatClampNeg) rfl) md_X6_namesTwo lm_X6_96 rfl rfl ⟨Nat.le_of_ble_eq_true rfl, Nat.le_of_ble_eq_true rfl⟩ z_preP rfl rfl hl.1 rfl (lv_room (Nat.le_of_ble_eq_true rfl)) dX6_leadsTo_98 ⟨Nat.le_of_ble_eq_true rfl, Nat.le_of_ble_eq_true rfl⟩) ?_
          refine lv_topi (fun r15 e_r15 => ?_)
          have hf := lt_n e_r15 hf
          refine lv_if_eq (tgt := 117) hx hb dX6_leadsTo_101 (by decide) (fun c_16 => ?_) (fun c_16 => ?_)
          · have hf := ite_t c_16 hf
            obtain ⟨v17, e_v17⟩ : ∃ y : Int32, y = x4 + 1 := ⟨_, rfl⟩
            have hf := lt_n e_v17 hf
            refine lv_iinc (v := v17) (lv' := [(4, .int v17), (0, .ref (ad 0)), (2, .int x2), (3, .int x3)]) hx hb dX6_leadsTo_117 hl (k := 3) rfl (by rw [e_v17]; rfl) (by decide) rfl (fun ls hl => ?_)
            refine lv_goto (tgt := 41) hx hb dX6_leadsTo_120 (by decide) ?_
            exact ih σ13 x2 x3 v17 _ _ _ hZ (lv_sub hl [1, 2, 3, 0] rfl) hf
          · have hf := ite_f c_16 hf
            refine lv_aload_n hx hb dX6_leadsTo_104 rfl (lv_at hl 0 rfl) ?_
            refine z_get hx hb htt iw_X6 hown hZ 0 rfl rfl 16 (by decide) lf_X6_47 rfl dX6_leadsTo_105 ?_
            refine lv_aload_n hx hb dX6_leadsTo_108 rfl (lv_at hl 0 rfl) ?_
            refine z_get hx hb htt iw_X6 hown hZ 0 rfl rfl 13 (by decide) lf_X6_38 rfl dX6_leadsTo_109 ?_
            refine lv_iload hx hb dX6_leadsTo_112 (lv_at hl 3 rfl) ?_
            obtain ⟨h_18, hf⟩ := ck_s hf
            refine z_ild hx hb hZ 10 9 rfl rfl h_18 dX6_leadsTo_114 ?_
            refine lv_iconst (v := 1) hx hb dX6_leadsTo_115 (by decide) ?_
            obtain ⟨h_19, hf⟩ := ck_s hf
            refine z_zst (σ' := st σ13 13 ((σ13.1 10 (x4).toNatClampNeg)).toNatClampNeg 1) hx hb hZ 13 12 rfl rfl h_19 dX6_leadsTo_116 rfl (fun σ20 H locs e_σ20 hZ => ?_)
            have hf := lt_n e_σ20 hf
            obtain ⟨v21, e_v21⟩ : ∃ y : Int32, y = x4 + 1 := ⟨_, rfl⟩
            have hf := lt_n e_v21 hf
            refine lv_iinc (v := v21) (lv' := [(4, .int v21), (0, .ref (ad 0)), (2, .int x2), (3, .int x3)]) hx hb dX6_leadsTo_117 hl (k := 3) rfl (by rw [e_v21]; rfl) (by decide) rfl (fun ls hl => ?_)
            refine lv_goto (tgt := 41) hx hb dX6_leadsTo_120 (by decide) ?_
            exact ih σ20 x2 x3 v21 _ _ _ hZ (lv_sub hl [1, 2, 3, 0] rfl) hf
set_option maxHeartbeats 4000000 in
set_option maxRecDepth 100000 in
theorem wk_X6_leadsTo_32 {p : Program} {l : Launch} {e : Env} {s : State} {m : MethodId} {args : Array Value} {below : List Frame} {meth : Method} {c : Code} {D : va_G} {A : Nat → Prop} {ad : Nat → Nat} {cA : Nat → ClassId} {rs : va_W} {tr : List (ClassId × FieldType)} {res : Int32 × S2} (C0 : cx p m meth c cX6_leadsTo (some .boolean) 5 s args tb nl RX6) : ∀ (n : Nat) (σ : S2) (x2 : Int32) (x3 : Int32), ∀ (H : Heap) (locs : List Loc) (ls : Array Slot), zz D vwCl (tyM cA tr) A (wM ad cA rs) s s.heap H locs σ → lv_has ls 5 [(0, .ref (ad 0)), (2, .int x2), (3, .int x3)] → fn_X6_leadsTo_32 n σ x2 x3 = some res → W p l e rm_X6_leadsTo s m args below meth c H locs 0 0 (MQ below (va_Qi (fun r' u' => r' = res.1 ∧ u' = res.2) (zB D vwCl (tyM cA tr) A (wM ad cA rs)) A) args s 0 0 A) (F0 m 32 ls []) := by
  obtain ⟨hx, hb, hr, hml, hown, htt, hlocks, hnw⟩ := id C0
  intro n
  induction n with
  | zero => intro σ x2 x3 H locs ls hZ hl hf; exact no_some hf
  | succ n ih =>
    intro σ x2 x3 H locs ls hZ hl hf
    rw [fn_X6_leadsTo_32] at hf
    refine lv_iload_n hx hb dX6_leadsTo_32 rfl (lv_at hl 2 rfl) ?_
    refine lv_bipush (v := 12) hx hb dX6_leadsTo_33 (by decide) ?_
    refine lv_icmp_ge (tgt := 129) hx hb dX6_leadsTo_35 (by decide) (fun c_1 => ?_) (fun c_1 => ?_)
    · have hf := ite_t c_1 hf
      refine lv_aload_n hx hb dX6_leadsTo_129 rfl (lv_at hl 0 rfl) ?_
      refine z_get hx hb htt iw_X6 hown hZ 0 rfl rfl 16 (by decide) lf_X6_47 rfl dX6_leadsTo_130 ?_
      refine lv_iload_n hx hb dX6_leadsTo_133 rfl (lv_at hl 1 rfl) ?_
      obtain ⟨h_2, hf⟩ := ck_s hf
      refine z_zld hx hb hZ 13 12 rfl rfl h_2 dX6_leadsTo_134 ?_
      obtain ⟨h_3, hf⟩ := cb_s hf
      exact z_zret hx hb hr hlocks hZ h_3 (sp_1 hf) (sp_2 hf) dX6_leadsTo_135
    · have hf := ite_f c_1 hf
      refine lv_iconst (v := 0) hx hb dX6_leadsTo_38 (by decide) ?_
      refine lv_istore (lv' := [(4, .int 0), (0, .ref (ad 0)), (2, .int x2), (3, .int x3)]) hx hb dX6_leadsTo_39 hl (by decide) rfl (fun ls hl => ?_)
      exact wk_X6_leadsTo_41 C0 (fn_X6_leadsTo_32 n) ih fu σ x2 x3 0 _ _ _ hZ (lv_sub hl [1, 2, 3, 0] rfl) hf
set_option maxHeartbeats 4000000 in
set_option maxRecDepth 100000 in
theorem wk_X6_leadsTo_2 {p : Program} {l : Launch} {e : Env} {s : State} {m : MethodId} {args : Array Value} {below : List Frame} {meth : Method} {c : Code} {D : va_G} {A : Nat → Prop} {ad : Nat → Nat} {cA : Nat → ClassId} {rs : va_W} {tr : List (ClassId × FieldType)} {res : Int32 × S2} (C0 : cx p m meth c cX6_leadsTo (some .boolean) 5 s args tb nl RX6) : ∀ (n : Nat) (σ : S2) (x1 : Int32) (x2 : Int32) (x3 : Int32), ∀ (H : Heap) (locs : List Loc) (ls : Array Slot), zz D vwCl (tyM cA tr) A (wM ad cA rs) s s.heap H locs σ → lv_has ls 5 [(0, .ref (ad 0)), (1, .int x1), (2, .int x2), (3, .int x3)] → fn_X6_leadsTo_2 n σ x1 x2 x3 = some res → W p l e rm_X6_leadsTo s m args below meth c H locs 0 0 (MQ below (va_Qi (fun r' u' => r' = res.1 ∧ u' = res.2) (zB D vwCl (tyM cA tr) A (wM ad cA rs)) A) args s 0 0 A) (F0 m 2 ls []) := by
  obtain ⟨hx, hb, hr, hml, hown, htt, hlocks, hnw⟩ := id C0
  intro n
  induction n with
  | zero => intro σ x1 x2 x3 H locs ls hZ hl hf; exact no_some hf
  | succ n ih =>
    intro σ x1 x2 x3 H locs ls hZ hl hf
    rw [fn_X6_leadsTo_2] at hf
    refine lv_iload_n hx hb dX6_leadsTo_2 rfl (lv_at hl 3 rfl) ?_
    refine lv_bipush (v := 12) hx hb dX6_leadsTo_3 (by decide) ?_
    refine lv_icmp_ge (tgt := 30) hx hb dX6_leadsTo_5 (by decide) (fun c_1 => ?_) (fun c_1 => ?_)
    · have hf := ite_t c_1 hf
      refine lv_iconst (v := 0) hx hb dX6_leadsTo_30 (by decide) ?_
      refine lv_istore_n (lv' := [(3, .int 0), (0, .ref (ad 0)), (1, .int x1), (2, .int x2)]) hx hb dX6_leadsTo_31 rfl hl (by decide) rfl (fun ls hl => ?_)
      exact wk_X6_leadsTo_32 C0  fu σ x2 0 _ _ _ hZ (lv_sub hl [1, 3, 0] rfl) hf
    · have hf := ite_f c_1 hf
      refine lv_aload_n hx hb dX6_leadsTo_8 rfl (lv_at hl 0 rfl) ?_
      refine z_get hx hb htt iw_X6 hown hZ 0 rfl rfl 16 (by decide) lf_X6_47 rfl dX6_leadsTo_9 ?_
      refine lv_iload_n hx hb dX6_leadsTo_12 rfl (lv_at hl 3 rfl) ?_
      refine lv_iload_n hx hb dX6_leadsTo_13 rfl (lv_at hl 3 rfl) ?_
      refine lv_iload_n hx hb dX6_leadsTo_14 rfl (lv_at hl 1 rfl) ?_
      refine lv_icmp_ne (tgt := 22) hx hb dX6_leadsTo_15 (by decide) (fun c_2 => ?_) (fun c_2 => ?_)
      · have hf := ite_f c_2 hf
        refine lv_iconst (v := 0) hx hb dX6_leadsTo_22 (by decide) ?_
        obtain ⟨h_3, hf⟩ := ck_s hf
        refine z_zst (σ' := st σ 13 (x3).toNatClampNeg 0) hx hb hZ 13 12 rfl rfl h_3 dX6_leadsTo_23 rfl (fun σ4 H locs e_σ4 hZ => ?_)
        have hf := lt_n e_σ4 hf
        obtain ⟨v5, e_v5⟩ : ∃ y : Int32, y = x3 + 1 := ⟨_, rfl⟩
        have hf := lt_n e_v5 hf
        refine lv_iinc (v := v5) (lv' := [(3, .int v5), (0, .ref (ad 0)), (1, .int x1), (2, .int x2)]) hx hb dX6_leadsTo_24 hl (k := 3) rfl (by rw [e_v5]; rfl) (by decide) rfl (fun ls hl => ?_)
        refine lv_goto (tgt := 2) hx hb dX6_leadsTo_27 (by decide) ?_
        exact ih σ4 x1 x2 v5 _ _ _ hZ (lv_sub hl [1, 2, 3, 0] rfl) hf
      · have hf := ite_t c_2 hf
        refine lv_iconst (v := 1) hx hb dX6_leadsTo_18 (by decide) ?_
        refine lv_goto (tgt := 23) hx hb dX6_leadsTo_19 (by decide) ?_
        obtain ⟨h_6, hf⟩ := ck_s hf
        refine z_zst (σ' := st σ 13 (x3).toNatClampNeg 1) hx hb hZ 13 12 rfl rfl h_6 dX6_leadsTo_23 rfl (fun σ7 H locs e_σ7 hZ => ?_)
        have hf := lt_n e_σ7 hf
        obtain ⟨v8, e_v8⟩ : ∃ y : Int32, y = x3 + 1 := ⟨_, rfl⟩
        have hf := lt_n e_v8 hf
        refine lv_iinc (v := v8) (lv' := [(3, .int v8), (0, .ref (ad 0)), (1, .int x1), (2, .int x2)]) hx hb dX6_leadsTo_24 hl (k := 3) rfl (by rw [e_v8]; rfl) (by decide) rfl (fun ls hl => ?_)
        refine lv_goto (tgt := 2) hx hb dX6_leadsTo_27 (by decide) ?_
        exact ih σ7 x1 x2 v8 _ _ _ hZ (lv_sub hl [1, 2, 3, 0] rfl) hf
set_option maxHeartbeats 4000000 in
set_option maxRecDepth 100000 in
theorem ct_X6_leadsTo (l : Launch) (D : va_G) (A : Nat → Prop) (ad : Nat → Nat) (cA : Nat → ClassId) (rs : va_W) (tr : List (ClassId × FieldType)) (σ : S2) (x1 : Int32) (x2 : Int32) {res : Int32 × S2} (hf : fn_X6_leadsTo σ x1 x2 = some res) : Met l yX6_leadsTo (.code yX6_leadsTo cX6_leadsTo 5 (some .boolean) :: tb) rm_X6_leadsTo (va_Pc [.ref (ad 0), .int x1, .int x2] (zN D vwCl (tyM cA tr) A (wM ad cA rs) nl σ)) (va_Qi (fun r' u' => r' = res.1 ∧ u' = res.2) (zB D vwCl (tyM cA tr) A (wM ad cA rs)) A) 0 0 A := by
  refine Met.ofW (cc := cX6_leadsTo) (maxL := 5) (ret := (some .boolean)) (by decide) rfl ?_
  intro p e s m args below meth c s₁ B hml hv
  obtain ⟨rfl, hB, hnw0⟩ := hv
  have htt : ∀ w ∈ tb, w.before (([.ref (ad 0), .int x1, .int x2] : List Value).toArray) s = true := fun w h => atoms_spec (ws := (.code yX6_leadsTo cX6_leadsTo 5 (some .boolean) :: tb)) B.pre w (List.mem_cons_of_mem _ h)
  have C0 : cx p m meth c cX6_leadsTo (some .boolean) 5 s (([.ref (ad 0), .int x1, .int x2] : List Value).toArray) tb nl RX6 := ⟨B.exec, B.bytes, B.returns, hml, findClass_of_methodNamed B.named, htt, B.notSynchronized, hnw0⟩
  obtain ⟨hx, hb, hr, hml, hown, htt, hlocks, hnw⟩ := id C0
  have hZ := z_start hB
  have hl := lv_entry ([.ref (ad 0), .int x1, .int x2]) (n := 5) (Nat.le_of_ble_eq_true rfl)
  rw [lg_entry_eq]
  generalize (lg_sl ([.ref (ad 0), .int x1, .int x2]) ++ List.replicate (5 - (lg_sl ([.ref (ad 0), .int x1, .int x2])).length) Slot.unset).toArray = ls at hl ⊢
  have hl : lv_has ls 5 [(0, .ref (ad 0)), (1, .int x1), (2, .int x2)] := hl
  unfold fn_X6_leadsTo at hf
  refine lv_iconst (v := 0) hx hb dX6_leadsTo_0 (by decide) ?_
  refine lv_istore_n (lv' := [(3, .int 0), (0, .ref (ad 0)), (1, .int x1), (2, .int x2)]) hx hb dX6_leadsTo_1 rfl hl (by decide) rfl (fun ls hl => ?_)
  exact wk_X6_leadsTo_2 C0  fu σ x1 x2 0 _ _ _ hZ (lv_sub hl [1, 2, 3, 0] rfl) hf
abbrev rm_X6_constraint : Room := { frames := 3, cells := 0, slots := 0, locals := 66 }
def fn_X6_constraint_67 (σ : S2) (x1 : Int32) (x2 : Int32) (x3 : Int32) (x4 : Int32) : Option (Int32 × S2) := if (σ.1 23 0) = 40 then some ((-3), σ) else ck (σ.1 23 0) 40 (lt (st σ 7 ((σ.1 23 0)).toNatClampNeg x1) (fun σ3 => ck (σ3.1 23 0) 40 (lt (st σ3 8 ((σ3.1 23 0)).toNatClampNeg x2) (fun σ5 => ck (σ5.1 23 0) 40 (lt (st σ5 9 ((σ5.1 23 0)).toNatClampNeg x3) (fun σ7 => ck (σ7.1 23 0) 40 (lt (st σ7 10 ((σ7.1 23 0)).toNatClampNeg x4) (fun σ9 => lt (st σ9 23 0 ((σ9.1 23 0) + 1)) (fun σ10 => lt (st σ10 24 0 0) (fun σ11 => some (((σ11.1 23 0) - 1), σ11)))))))))))
def fn_X6_constraint_47 (σ : S2) (x1 : Int32) (x2 : Int32) (x3 : Int32) (x4 : Int32) : Option (Int32 × S2) := lt (fn_X6_namesTwo x2) (fun r1 => if r1 = 0 then fn_X6_constraint_67 σ x1 x2 x3 x4 else bn2 (fn_X6_leadsTo σ x4 x1) (fun r5 σ4 => if r5 = 0 then fn_X6_constraint_67 σ4 x1 x2 x3 x4 else some ((-2), σ4)))
def fn_X6_constraint (σ : S2) (x1 : Int32) (x2 : Int32) (x3 : Int32) (x4 : Int32) : Option (Int32 × S2) := lt (fn_X6_isShape σ x1) (fun r1 => if r1 = 0 then some ((-1), σ) else lt (fn_X6_in x2 0 17) (fun r3 => if r3 = 0 then some ((-1), σ) else lt (fn_X6_isConstraint σ x2 x3 x4) (fun r5 => if r5 = 0 then some ((-1), σ) else lt (fn_X6_namesOne x2) (fun r7 => if r7 = 0 then fn_X6_constraint_47 σ x1 x2 x3 x4 else bn2 (fn_X6_leadsTo σ x3 x1) (fun r11 σ10 => if r11 = 0 then fn_X6_constraint_47 σ10 x1 x2 x3 x4 else some ((-2), σ10))))))
set_option maxHeartbeats 4000000 in
set_option maxRecDepth 100000 in
theorem wk_X6_constraint_67 {p : Program} {l : Launch} {e : Env} {s : State} {m : MethodId} {args : Array Value} {below : List Frame} {meth : Method} {c : Code} {D : va_G} {A : Nat → Prop} {ad : Nat → Nat} {cA : Nat → ClassId} {rs : va_W} {tr : List (ClassId × FieldType)} {res : Int32 × S2} (C0 : cx p m meth c cX6_constraint (some .int) 5 s args tb nl RX6) : ∀ (σ : S2) (x1 : Int32) (x2 : Int32) (x3 : Int32) (x4 : Int32), ∀ (H : Heap) (locs : List Loc) (ls : Array Slot), zz D vwCl (tyM cA tr) A (wM ad cA rs) s s.heap H locs σ → lv_has ls 5 [(0, .ref (ad 0)), (1, .int x1), (2, .int x2), (3, .int x3), (4, .int x4)] → fn_X6_constraint_67 σ x1 x2 x3 x4 = some res → W p l e rm_X6_constraint s m args below meth c H locs 0 0 (MQ below (va_Qi (fun r' u' => r' = res.1 ∧ u' = res.2) (zB D vwCl (tyM cA tr) A (wM ad cA rs)) A) args s 0 0 A) (F0 m 67 ls []) := by
  obtain ⟨hx, hb, hr, hml, hown, htt, hlocks, hnw⟩ := id C0
  intro σ x1 x2 x3 x4 H locs ls hZ hl hf
  unfold fn_X6_constraint_67 at hf
  refine lv_aload_n hx hb dX6_constraint_67 rfl (lv_at hl 0 rfl) ?_
  refine z_get hx hb htt iw_X6 hown hZ 0 rfl rfl 9 (by decide) lf_X6_90 rfl dX6_constraint_68 ?_
  refine lv_bipush (v := 40) hx hb dX6_constraint_71 (by decide) ?_
  refine lv_icmp_ne (tgt := 79) hx hb dX6_constraint_73 (by decide) (fun c_1 => ?_) (fun c_1 => ?_)
  · have hf := ite_f c_1 hf
    refine lv_aload_n hx hb dX6_constraint_79 rfl (lv_at hl 0 rfl) ?_
    refine z_get hx hb htt iw_X6 hown hZ 0 rfl rfl 10 (by decide) lf_X6_29 rfl dX6_constraint_80 ?_
    refine lv_aload_n hx hb dX6_constraint_83 rfl (lv_at hl 0 rfl) ?_
    refine z_get hx hb htt iw_X6 hown hZ 0 rfl rfl 9 (by decide) lf_X6_90 rfl dX6_constraint_84 ?_
    refine lv_iload_n hx hb dX6_constraint_87 rfl (lv_at hl 1 rfl) ?_
    obtain ⟨h_2, hf⟩ := ck_s hf
    refine z_ist (σ' := st σ 7 ((σ.1 23 0)).toNatClampNeg x1) hx hb hZ 7 6 rfl rfl h_2 dX6_constraint_88 rfl (fun σ3 H locs e_σ3 hZ => ?_)
    have hf := lt_n e_σ3 hf
    refine lv_aload_n hx hb dX6_constraint_89 rfl (lv_at hl 0 rfl) ?_
    refine z_get hx hb htt iw_X6 hown hZ 0 rfl rfl 11 (by decide) lf_X6_32 rfl dX6_constraint_90 ?_
    refine lv_aload_n hx hb dX6_constraint_93 rfl (lv_at hl 0 rfl) ?_
    refine z_get hx hb htt iw_X6 hown hZ 0 rfl rfl 9 (by decide) lf_X6_90 rfl dX6_constraint_94 ?_
    refine lv_iload_n hx hb dX6_constraint_97 rfl (lv_at hl 2 rfl) ?_
    obtain ⟨h_4, hf⟩ := ck_s hf
    refine z_ist (σ' := st σ3 8 ((σ3.1 23 0)).toNatClampNeg x2) hx hb hZ 8 7 rfl rfl h_4 dX6_constraint_98 rfl (fun σ5 H locs e_σ5 hZ => ?_)
    have hf := lt_n e_σ5 hf
    refine lv_aload_n hx hb dX6_constraint_99 rfl (lv_at hl 0 rfl) ?_
    refine z_get hx hb htt iw_X6 hown hZ 0 rfl rfl 12 (by decide) lf_X6_35 rfl dX6_constraint_100 ?_
    refine lv_aload_n hx hb dX6_constraint_103 rfl (lv_at hl 0 rfl) ?_
    refine z_get hx hb htt iw_X6 hown hZ 0 rfl rfl 9 (by decide) lf_X6_90 rfl dX6_constraint_104 ?_
    refine lv_iload_n hx hb dX6_constraint_107 rfl (lv_at hl 3 rfl) ?_
    obtain ⟨h_6, hf⟩ := ck_s hf
    refine z_ist (σ' := st σ5 9 ((σ5.1 23 0)).toNatClampNeg x3) hx hb hZ 9 8 rfl rfl h_6 dX6_constraint_108 rfl (fun σ7 H locs e_σ7 hZ => ?_)
    have hf := lt_n e_σ7 hf
    refine lv_aload_n hx hb dX6_constraint_109 rfl (lv_at hl 0 rfl) ?_
    refine z_get hx hb htt iw_X6 hown hZ 0 rfl rfl 13 (by decide) lf_X6_38 rfl dX6_constraint_110 ?_
    refine lv_aload_n hx hb dX6_constraint_113 rfl (lv_at hl 0 rfl) ?_
    refine z_get hx hb htt iw_X6 hown hZ 0 rfl rfl 9 (by decide) lf_X6_90 rfl dX6_constraint_114 ?_
    refine lv_iload hx hb dX6_constraint_117 (lv_at hl 4 rfl) ?_
    obtain ⟨h_8, hf⟩ := ck_s hf
    refine z_ist (σ' := st σ7 10 ((σ7.1 23 0)).toNatClampNeg x4) hx hb hZ 10 9 rfl rfl h_8 dX6_constraint_119 rfl (fun σ9 H locs e_σ9 hZ => ?_)
    have hf := lt_n e_σ9 hf
    refine lv_aload_n hx hb dX6_constraint_120 rfl (lv_at hl 0 rfl) ?_
    refine lv_dup hx hb dX6_constraint_121 rfl ?_
    refine z_get hx hb htt iw_X6 hown hZ 0 rfl rfl 9 (by decide) lf_X6_90 rfl dX6_constraint_122 ?_
    refine lv_iconst (v := 1) hx hb dX6_constraint_125 (by decide) ?_
    refine lv_iadd hx hb dX6_constraint_126 ?_
    refine z_put (σ' := st σ9 23 0 ((σ9.1 23 0) + 1)) hx hb htt iw_X6 tyX6 to_X6 nm_X6 hown hZ 0 rfl rfl 9 (by decide) lf_X6_90 rfl rfl rfl (Nat.le_of_ble_eq_true rfl) dX6_constraint_127 rfl (fun σ10 H locs e_σ10 hZ => ?_)
    have hf := lt_n e_σ10 hf
    refine lv_aload_n hx hb dX6_constraint_130 rfl (lv_at hl 0 rfl) ?_
    refine lv_iconst (v := 0) hx hb dX6_constraint_131 (by decide) ?_
    refine z_put (σ' := st σ10 24 0 0) hx hb htt iw_X6 tyX6 to_X6 nm_X6 hown hZ 0 rfl rfl 20 (by decide) lf_X6_62 rfl rfl rfl (Nat.le_of_ble_eq_true rfl) dX6_constraint_132 rfl (fun σ11 H locs e_σ11 hZ => ?_)
    have hf := lt_n e_σ11 hf
    refine lv_aload_n hx hb dX6_constraint_135 rfl (lv_at hl 0 rfl) ?_
    refine z_get hx hb htt iw_X6 hown hZ 0 rfl rfl 9 (by decide) lf_X6_90 rfl dX6_constraint_136 ?_
    refine lv_iconst (v := 1) hx hb dX6_constraint_139 (by decide) ?_
    refine lv_isub hx hb dX6_constraint_140 ?_
    exact z_iret hx hb hr hlocks hZ (sp_1 hf) (sp_2 hf) dX6_constraint_141
  · have hf := ite_t c_1 hf
    refine lv_bipush (v := (-3)) hx hb dX6_constraint_76 (by decide) ?_
    exact z_iret hx hb hr hlocks hZ (sp_1 hf) (sp_2 hf) dX6_constraint_78
set_option maxHeartbeats 4000000 in
set_option maxRecDepth 100000 in
theorem wk_X6_constraint_47 {p : Program} {l : Launch} {e : Env} {s : State} {m : MethodId} {args : Array Value} {below : List Frame} {meth : Method} {c : Code} {D : va_G} {A : Nat → Prop} {ad : Nat → Nat} {cA : Nat → ClassId} {rs : va_W} {tr : List (ClassId × FieldType)} {res : Int32 × S2} (C0 : cx p m meth c cX6_constraint (some .int) 5 s args tb nl RX6) : ∀ (σ : S2) (x1 : Int32) (x2 : Int32) (x3 : Int32) (x4 : Int32), ∀ (H : Heap) (locs : List Loc) (ls : Array Slot), zz D vwCl (tyM cA tr) A (wM ad cA rs) s s.heap H locs σ → lv_has ls 5 [(0, .ref (ad 0)), (1, .int x1), (2, .int x2), (3, .int x3), (4, .int x4)] → fn_X6_constraint_47 σ x1 x2 x3 x4 = some res → W p l e rm_X6_constraint s m args below meth c H locs 0 0 (MQ below (va_Qi (fun r' u' => r' = res.1 ∧ u' = res.2) (zB D vwCl (tyM cA tr) A (wM ad cA rs)) A) args s 0 0 A) (F0 m 47 ls []) := by
  obtain ⟨hx, hb, hr, hml, hown, htt, hlocks, hnw⟩ := id C0
  intro σ x1 x2 x3 x4 H locs ls hZ hl hf
  unfold fn_X6_constraint_47 at hf
  refine lv_iload_n hx hb dX6_constraint_47 rfl (lv_at hl 2 rfl) ?_
  refine z_pcalli (z_runS (As := [.int x2]) (rest := []) ⟨hx, hb, hml, hown, htt⟩ gT (ct_X6_namesTwo l x2 rfl) md_X6_namesTwo lm_X6_96 rfl rfl ⟨Nat.le_of_ble_eq_true rfl, Nat.le_of_ble_eq_true rfl⟩ z_preP rfl rfl hl.1 rfl (lv_room (Nat.le_of_ble_eq_true rfl)) dX6_constraint_48 ⟨Nat.le_of_ble_eq_true rfl, Nat.le_of_ble_eq_true rfl⟩) ?_
  refine lv_topi (fun r1 e_r1 => ?_)
  have hf := lt_n e_r1 hf
  refine lv_if_eq (tgt := 67) hx hb dX6_constraint_51 (by decide) (fun c_2 => ?_) (fun c_2 => ?_)
  · have hf := ite_t c_2 hf
    exact wk_X6_constraint_67 C0  σ x1 x2 x3 x4 _ _ _ hZ (lv_sub hl [0, 1, 2, 3, 4] rfl) hf
  · have hf := ite_f c_2 hf
    refine lv_aload_n hx hb dX6_constraint_54 rfl (lv_at hl 0 rfl) ?_
    refine lv_iload hx hb dX6_constraint_55 (lv_at hl 4 rfl) ?_
    refine lv_iload_n hx hb dX6_constraint_57 rfl (lv_at hl 1 rfl) ?_
    obtain ⟨r5, σ4, k_3, hf⟩ := bn2_s hf
    refine z_calli (r := r5) (u := σ4) (z_runV (As := [.int x4, .int x1]) (rest := []) ⟨hx, hb, hml, hown, htt⟩ gT (ct_X6_leadsTo l D A ad cA rs tr σ x4 x1 k_3) md_X6_leadsTo lm_X6_102 rfl rfl ⟨Nat.le_of_ble_eq_true rfl, Nat.le_of_ble_eq_true rfl⟩ (z_preV gN hnw hZ rfl (q0 := 0) (ci := 6) rfl) rfl rfl hl.1 rfl (lv_room (Nat.le_of_ble_eq_true rfl)) dX6_constraint_58 ⟨Nat.le_of_ble_eq_true rfl, Nat.le_of_ble_eq_true rfl⟩) hZ (fun H locs hZ => ?_)
    refine lv_if_eq (tgt := 67) hx hb dX6_constraint_61 (by decide) (fun c_6 => ?_) (fun c_6 => ?_)
    · have hf := ite_t c_6 hf
      exact wk_X6_constraint_67 C0  σ4 x1 x2 x3 x4 _ _ _ hZ (lv_sub hl [0, 1, 2, 3, 4] rfl) hf
    · have hf := ite_f c_6 hf
      refine lv_bipush (v := (-2)) hx hb dX6_constraint_64 (by decide) ?_
      exact z_iret hx hb hr hlocks hZ (sp_1 hf) (sp_2 hf) dX6_constraint_66
set_option maxHeartbeats 4000000 in
set_option maxRecDepth 100000 in
theorem ct_X6_constraint (l : Launch) (D : va_G) (A : Nat → Prop) (ad : Nat → Nat) (cA : Nat → ClassId) (rs : va_W) (tr : List (ClassId × FieldType)) (σ : S2) (x1 : Int32) (x2 : Int32) (x3 : Int32) (x4 : Int32) {res : Int32 × S2} (hf : fn_X6_constraint σ x1 x2 x3 x4 = some res) : Met l yX6_constraint (.code yX6_constraint cX6_constraint 5 (some .int) :: tb) rm_X6_constraint (va_Pc [.ref (ad 0), .int x1, .int x2, .int x3, .int x4] (zN D vwCl (tyM cA tr) A (wM ad cA rs) nl σ)) (va_Qi (fun r' u' => r' = res.1 ∧ u' = res.2) (zB D vwCl (tyM cA tr) A (wM ad cA rs)) A) 0 0 A := by
  refine Met.ofW (cc := cX6_constraint) (maxL := 5) (ret := (some .int)) (by decide) rfl ?_
  intro p e s m args below meth c s₁ B hml hv
  obtain ⟨rfl, hB, hnw0⟩ := hv
  have htt : ∀ w ∈ tb, w.before (([.ref (ad 0), .int x1, .int x2, .int x3, .int x4] : List Value).toArray) s = true := fun w h => atoms_spec (ws := (.code yX6_constraint cX6_constraint 5 (some .int) :: tb)) B.pre w (List.mem_cons_of_mem _ h)
  have C0 : cx p m meth c cX6_constraint (some .int) 5 s (([.ref (ad 0), .int x1, .int x2, .int x3, .int x4] : List Value).toArray) tb nl RX6 := ⟨B.exec, B.bytes, B.returns, hml, findClass_of_methodNamed B.named, htt, B.notSynchronized, hnw0⟩
  obtain ⟨hx, hb, hr, hml, hown, htt, hlocks, hnw⟩ := id C0
  have hZ := z_start hB
  have hl := lv_entry ([.ref (ad 0), .int x1, .int x2, .int x3, .int x4]) (n := 5) (Nat.le_of_ble_eq_true rfl)
  rw [lg_entry_eq]
  generalize (lg_sl ([.ref (ad 0), .int x1, .int x2, .int x3, .int x4]) ++ List.replicate (5 - (lg_sl ([.ref (ad 0), .int x1, .int x2, .int x3, .int x4])).length) Slot.unset).toArray = ls at hl ⊢
  have hl : lv_has ls 5 [(0, .ref (ad 0)), (1, .int x1), (2, .int x2), (3, .int x3), (4, .int x4)] := hl
  unfold fn_X6_constraint at hf
  refine lv_aload_n hx hb dX6_constraint_0 rfl (lv_at hl 0 rfl) ?_
  refine lv_iload_n hx hb dX6_constraint_1 rfl (lv_at hl 1 rfl) ?_
  refine z_calli (z_runV (As := [.int x1]) (rest := []) ⟨hx, hb, hml, hown, htt⟩ gT (ct_X6_isShape l D A ad cA rs tr σ x1 rfl) md_X6_isShape lm_X6_83 rfl rfl ⟨Nat.le_of_ble_eq_true rfl, Nat.le_of_ble_eq_true rfl⟩ (z_preV gN hnw hZ rfl (q0 := 0) (ci := 6) rfl) rfl rfl hl.1 rfl (lv_room (Nat.le_of_ble_eq_true rfl)) dX6_constraint_2 ⟨Nat.le_of_ble_eq_true rfl, Nat.le_of_ble_eq_true rfl⟩) hZ (fun H locs hZ => ?_)
  refine lv_topi (fun r1 e_r1 => ?_)
  have hf := lt_n e_r1 hf
  refine lv_if_eq (tgt := 29) hx hb dX6_constraint_5 (by decide) (fun c_2 => ?_) (fun c_2 => ?_)
  · have hf := ite_t c_2 hf
    refine lv_iconst (v := (-1)) hx hb dX6_constraint_29 (by decide) ?_
    exact z_iret hx hb hr hlocks hZ (sp_1 hf) (sp_2 hf) dX6_constraint_30
  · have hf := ite_f c_2 hf
    refine lv_iload_n hx hb dX6_constraint_8 rfl (lv_at hl 2 rfl) ?_
    refine lv_iconst (v := 0) hx hb dX6_constraint_9 (by decide) ?_
    refine lv_bipush (v := 17) hx hb dX6_constraint_10 (by decide) ?_
    refine z_pcalli (z_runS (As := [.int x2, .int 0, .int 17]) (rest := []) ⟨hx, hb, hml, hown, htt⟩ gT (ct_X6_in l x2 0 17 rfl) md_X6_in lm_X6_66 rfl rfl ⟨Nat.le_of_ble_eq_true rfl, Nat.le_of_ble_eq_true rfl⟩ z_preP rfl rfl hl.1 rfl (lv_room (Nat.le_of_ble_eq_true rfl)) dX6_constraint_12 ⟨Nat.le_of_ble_eq_true rfl, Nat.le_of_ble_eq_true rfl⟩) ?_
    refine lv_topi (fun r3 e_r3 => ?_)
    have hf := lt_n e_r3 hf
    refine lv_if_eq (tgt := 29) hx hb dX6_constraint_15 (by decide) (fun c_4 => ?_) (fun c_4 => ?_)
    · have hf := ite_t c_4 hf
      refine lv_iconst (v := (-1)) hx hb dX6_constraint_29 (by decide) ?_
      exact z_iret hx hb hr hlocks hZ (sp_1 hf) (sp_2 hf) dX6_constraint_30
    · have hf := ite_f c_4 hf
      refine lv_aload_n hx hb dX6_constraint_18 rfl (lv_at hl 0 rfl) ?_
      refine lv_iload_n hx hb dX6_constraint_19 rfl (lv_at hl 2 rfl) ?_
      refine lv_iload_n hx hb dX6_constraint_20 rfl (lv_at hl 3 rfl) ?_
      refine lv_iload hx hb dX6_constraint_21 (lv_at hl 4 rfl) ?_
      refine z_calli (z_runV (As := [.int x2, .int x3, .int x4]) (rest := []) ⟨hx, hb, hml, hown, htt⟩ gT (ct_X6_isConstraint l D A ad cA rs tr σ x2 x3 x4 rfl) md_X6_isConstraint lm_X6_99 rfl rfl ⟨Nat.le_of_ble_eq_true rfl, Nat.le_of_ble_eq_true rfl⟩ (z_preV gN hnw hZ rfl (q0 := 0) (ci := 6) rfl) rfl rfl hl.1 rfl (lv_room (Nat.le_of_ble_eq_true rfl)) dX6_constraint_23 ⟨Nat.le_of_ble_eq_true rfl, Nat.le_of_ble_eq_true rfl⟩) hZ (fun H locs hZ => ?_)
      refine lv_topi (fun r5 e_r5 => ?_)
      have hf := lt_n e_r5 hf
      refine lv_if_ne (tgt := 31) hx hb dX6_constraint_26 (by decide) (fun c_6 => ?_) (fun c_6 => ?_)
      · have hf := ite_f c_6 hf
        refine lv_iload_n hx hb dX6_constraint_31 rfl (lv_at hl 2 rfl) ?_
        refine z_pcalli (z_runS (As := [.int x2]) (rest := []) ⟨hx, hb, hml, hown, htt⟩ gT (ct_X6_namesOne l x2 rfl) md_X6_namesOne lm_X6_93 rfl rfl ⟨Nat.le_of_ble_eq_true rfl, Nat.le_of_ble_eq_true rfl⟩ z_preP rfl rfl hl.1 rfl (lv_room (Nat.le_of_ble_eq_true rfl)) dX6_constraint_32 ⟨Nat.le_of_ble_eq_true rfl, Nat.le_of_ble_eq_true rfl⟩) ?_
        refine lv_topi (fun r7 e_r7 => ?_)
        have hf := lt_n e_r7 hf
        refine lv_if_eq (tgt := 47) hx hb dX6_constraint_35 (by decide) (fun c_8 => ?_) (fun c_8 => ?_)
        · have hf := ite_t c_8 hf
          exact wk_X6_constraint_47 C0  σ x1 x2 x3 x4 _ _ _ hZ (lv_sub hl [0, 1, 2, 3, 4] rfl) hf
        · have hf := ite_f c_8 hf
          refine lv_aload_n hx hb dX6_constraint_38 rfl (lv_at hl 0 rfl) ?_
          refine lv_iload_n hx hb dX6_constraint_39 rfl (lv_at hl 3 rfl) ?_
          refine lv_iload_n hx hb dX6_constraint_40 rfl (lv_at hl 1 rfl) ?_
          obtain ⟨r11, σ10, k_9, hf⟩ := bn2_s hf
          refine z_calli (r := r11) (u := σ10) (z_runV (As := [.int x3, .int x1]) (rest := []) ⟨hx, hb, hml, hown, htt⟩ gT (ct_X6_leadsTo l D A ad cA rs tr σ x3 x1 k_9) md_X6_leadsTo lm_X6_102 rfl rfl ⟨Nat.le_of_ble_eq_true rfl, Nat.le_of_ble_eq_true rfl⟩ (z_preV gN hnw hZ rfl (q0 := 0) (ci := 6) rfl) rfl rfl hl.1 rfl (lv_room (Nat.le_of_ble_eq_true rfl)) dX6_constraint_41 ⟨Nat.le_of_ble_eq_true rfl, Nat.le_of_ble_eq_true rfl⟩) hZ (fun H locs hZ => ?_)
          refine lv_if_ne (tgt := 64) hx hb dX6_constraint_44 (by decide) (fun c_12 => ?_) (fun c_12 => ?_)
          · have hf := ite_f c_12 hf
            refine lv_bipush (v := (-2)) hx hb dX6_constraint_64 (by decide) ?_
            exact z_iret hx hb hr hlocks hZ (sp_1 hf) (sp_2 hf) dX6_constraint_66
          · have hf := ite_t c_12 hf
            exact wk_X6_constraint_47 C0  σ10 x1 x2 x3 x4 _ _ _ hZ (lv_sub hl [0, 1, 2, 3, 4] rfl) hf
      · have hf := ite_t c_6 hf
        refine lv_iconst (v := (-1)) hx hb dX6_constraint_29 (by decide) ?_
        exact z_iret hx hb hr hlocks hZ (sp_1 hf) (sp_2 hf) dX6_constraint_30
