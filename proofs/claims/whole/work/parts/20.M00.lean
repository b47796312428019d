abbrev rm_X6_in : Room := { frames := 0, cells := 0, slots := 0, locals := 0 }
def fn_X6_in (x0 : Int32) (x1 : Int32) (x2 : Int32) : Int32 := if x0 < x1 then 0 else if x2 < x0 then 0 else 1
set_option maxHeartbeats 4000000 in
set_option maxRecDepth 100000 in
theorem ct_X6_in (l : Launch) (x0 : Int32) (x1 : Int32) (x2 : Int32) {res : Int32} (hf : fn_X6_in x0 x1 x2 = res) : Met l yX6_in (.code yX6_in cX6_in 3 (some .boolean) :: tb) rm_X6_in (va_Pc [.int x0, .int x1, .int x2] (fun _ => True)) (vp_Si (fun r' => r' = res)) 0 0 (fun _ => False) := by
  refine Met.ofW (cc := cX6_in) (maxL := 3) (ret := (some .boolean)) (by decide) rfl ?_
  intro p e s m args below meth c s₁ B hml hv
  obtain ⟨rfl, hB⟩ := hv
  have htt : ∀ w ∈ tb, w.before (([.int x0, .int x1, .int x2] : List Value).toArray) s = true := fun w h => atoms_spec (ws := (.code yX6_in cX6_in 3 (some .boolean) :: tb)) B.pre w (List.mem_cons_of_mem _ h)
  have C0 : cx p m meth c cX6_in (some .boolean) 3 s (([.int x0, .int x1, .int x2] : List Value).toArray) tb [] RX6 := ⟨B.exec, B.bytes, B.returns, hml, findClass_of_methodNamed B.named, htt, B.notSynchronized, fun _ h => absurd h List.not_mem_nil⟩
  obtain ⟨hx, hb, hr, hml, hown, htt, hlocks, hnw⟩ := id C0
  have hl := lv_entry ([.int x0, .int x1, .int x2]) (n := 3) (Nat.le_of_ble_eq_true rfl)
  rw [lg_entry_eq]
  generalize (lg_sl ([.int x0, .int x1, .int x2]) ++ List.replicate (3 - (lg_sl ([.int x0, .int x1, .int x2])).length) Slot.unset).toArray = ls at hl ⊢
  have hl : lv_has ls 3 [(0, .int x0), (1, .int x1), (2, .int x2)] := hl
  unfold fn_X6_in at hf
  refine lv_iload_n hx hb dX6_in_0 rfl (lv_at hl 0 rfl) ?_
  refine lv_iload_n hx hb dX6_in_1 rfl (lv_at hl 1 rfl) ?_
  refine lv_icmp_lt (tgt := 14) hx hb dX6_in_2 (by decide) (fun c_1 => ?_) (fun c_1 => ?_)
  · have hf := ite_t c_1 hf
    refine lv_iconst (v := 0) hx hb dX6_in_14 (by decide) ?_
    exact z_pzret hx hb hr hlocks rfl hf dX6_in_15
  · have hf := ite_f c_1 hf
    refine lv_iload_n hx hb dX6_in_5 rfl (lv_at hl 0 rfl) ?_
    refine lv_iload_n hx hb dX6_in_6 rfl (lv_at hl 2 rfl) ?_
    refine lv_icmp_gt (tgt := 14) hx hb dX6_in_7 (by decide) (fun c_2 => ?_) (fun c_2 => ?_)
    · have hf := ite_t c_2 hf
      refine lv_iconst (v := 0) hx hb dX6_in_14 (by decide) ?_
      exact z_pzret hx hb hr hlocks rfl hf dX6_in_15
    · have hf := ite_f c_2 hf
      refine lv_iconst (v := 1) hx hb dX6_in_10 (by decide) ?_
      refine lv_goto (tgt := 15) hx hb dX6_in_11 (by decide) ?_
      exact z_pzret hx hb hr hlocks rfl hf dX6_in_15
theorem bo_X6_in {x0 x1 x2 : Int32} {r : Int32} (h : r = fn_X6_in x0 x1 x2) : narrow .boolean (.int r) = .int r := by
  subst h; unfold fn_X6_in; (try simp only [lt]); repeat' split
  all_goals rfl
abbrev rm_X6_isTriple : Room := { frames := 1, cells := 0, slots := 0, locals := 22 }
def fn_X6_isTriple (x0 : Int32) (x1 : Int32) (x2 : Int32) : Int32 := lt (fn_X6_in x0 0 19) (fun r1 => if r1 = 0 then 0 else lt (fn_X6_in x1 0 7) (fun r3 => if r3 = 0 then 0 else lt (fn_X6_in x2 0 31) (fun r5 => if r5 = 0 then 0 else 1)))
set_option maxHeartbeats 4000000 in
set_option maxRecDepth 100000 in
theorem ct_X6_isTriple (l : Launch) (x0 : Int32) (x1 : Int32) (x2 : Int32) {res : Int32} (hf : fn_X6_isTriple x0 x1 x2 = res) : Met l yX6_isTriple (.code yX6_isTriple cX6_isTriple 3 (some .boolean) :: tb) rm_X6_isTriple (va_Pc [.int x0, .int x1, .int x2] (fun _ => True)) (vp_Si (fun r' => r' = res)) 0 0 (fun _ => False) := by
  refine Met.ofW (cc := cX6_isTriple) (maxL := 3) (ret := (some .boolean)) (by decide) rfl ?_
  intro p e s m args below meth c s₁ B hml hv
  obtain ⟨rfl, hB⟩ := hv
  have htt : ∀ w ∈ tb, w.before (([.int x0, .int x1, .int x2] : List Value).toArray) s = true := fun w h => atoms_spec (ws := (.code yX6_isTriple cX6_isTriple 3 (some .boolean) :: tb)) B.pre w (List.mem_cons_of_mem _ h)
  have C0 : cx p m meth c cX6_isTriple (some .boolean) 3 s (([.int x0, .int x1, .int x2] : List Value).toArray) tb [] RX6 := ⟨B.exec, B.bytes, B.returns, hml, findClass_of_methodNamed B.named, htt, B.notSynchronized, fun _ h => absurd h List.not_mem_nil⟩
  obtain ⟨hx, hb, hr, hml, hown, htt, hlocks, hnw⟩ := id C0
  have hl := lv_entry ([.int x0, .int x1, .int x2]) (n := 3) (Nat.le_of_ble_eq_true rfl)
  rw [lg_entry_eq]
  generalize (lg_sl ([.int x0, .int x1, .int x2]) ++ List.replicate (3 - (lg_sl ([.int x0, .int x1, .int x2])).length) Slot.unset).toArray = ls at hl ⊢
  have hl : lv_has ls 3 [(0, .int x0), (1, .int x1), (2, .int x2)] := hl
  unfold fn_X6_isTriple at hf
  refine lv_iload_n hx hb dX6_isTriple_0 rfl (lv_at hl 0 rfl) ?_
  refine lv_iconst (v := 0) hx hb dX6_isTriple_1 (by decide) ?_
  refine lv_bipush (v := 19) hx hb dX6_isTriple_2 (by decide) ?_
  refine z_pcalli (z_runS (As := [.int x0, .int 0, .int 19]) (rest := []) ⟨hx, hb, hml, hown, htt⟩ gT (ct_X6_in l x0 0 19 rfl) md_X6_in lm_X6_66 rfl rfl ⟨Nat.le_of_ble_eq_true rfl, Nat.le_of_ble_eq_true rfl⟩ z_preP rfl rfl hl.1 rfl (lv_room (Nat.le_of_ble_eq_true rfl)) dX6_isTriple_4 ⟨Nat.le_of_ble_eq_true rfl, Nat.le_of_ble_eq_true rfl⟩) ?_
  refine lv_topi (fun r1 e_r1 => ?_)
  have hf := lt_n e_r1 hf
  refine lv_if_eq (tgt := 34) hx hb dX6_isTriple_7 (by decide) (fun c_2 => ?_) (fun c_2 => ?_)
  · have hf := ite_t c_2 hf
    refine lv_iconst (v := 0) hx hb dX6_isTriple_34 (by decide) ?_
    exact z_pzret hx hb hr hlocks rfl hf dX6_isTriple_35
  · have hf := ite_f c_2 hf
    refine lv_iload_n hx hb dX6_isTriple_10 rfl (lv_at hl 1 rfl) ?_
    refine lv_iconst (v := 0) hx hb dX6_isTriple_11 (by decide) ?_
    refine lv_bipush (v := 7) hx hb dX6_isTriple_12 (by decide) ?_
    refine z_pcalli (z_runS (As := [.int x1, .int 0, .int 7]) (rest := []) ⟨hx, hb, hml, hown, htt⟩ gT (ct_X6_in l x1 0 7 rfl) md_X6_in lm_X6_66 rfl rfl ⟨Nat.le_of_ble_eq_true rfl, Nat.le_of_ble_eq_true rfl⟩ z_preP rfl rfl hl.1 rfl (lv_room (Nat.le_of_ble_eq_true rfl)) dX6_isTriple_14 ⟨Nat.le_of_ble_eq_true rfl, Nat.le_of_ble_eq_true rfl⟩) ?_
    refine lv_topi (fun r3 e_r3 => ?_)
    have hf := lt_n e_r3 hf
    refine lv_if_eq (tgt := 34) hx hb dX6_isTriple_17 (by decide) (fun c_4 => ?_) (fun c_4 => ?_)
    · have hf := ite_t c_4 hf
      refine lv_iconst (v := 0) hx hb dX6_isTriple_34 (by decide) ?_
      exact z_pzret hx hb hr hlocks rfl hf dX6_isTriple_35
    · have hf := ite_f c_4 hf
      refine lv_iload_n hx hb dX6_isTriple_20 rfl (lv_at hl 2 rfl) ?_
      refine lv_iconst (v := 0) hx hb dX6_isTriple_21 (by decide) ?_
      refine lv_bipush (v := 31) hx hb dX6_isTriple_22 (by decide) ?_
      refine z_pcalli (z_runS (As := [.int x2, .int 0, .int 31]) (rest := []) ⟨hx, hb, hml, hown, htt⟩ gT (ct_X6_in l x2 0 31 rfl) md_X6_in lm_X6_66 rfl rfl ⟨Nat.le_of_ble_eq_true rfl, Nat.le_of_ble_eq_true rfl⟩ z_preP rfl rfl hl.1 rfl (lv_room (Nat.le_of_ble_eq_true rfl)) dX6_isTriple_24 ⟨Nat.le_of_ble_eq_true rfl, Nat.le_of_ble_eq_true rfl⟩) ?_
      refine lv_topi (fun r5 e_r5 => ?_)
      have hf := lt_n e_r5 hf
      refine lv_if_eq (tgt := 34) hx hb dX6_isTriple_27 (by decide) (fun c_6 => ?_) (fun c_6 => ?_)
      · have hf := ite_t c_6 hf
        refine lv_iconst (v := 0) hx hb dX6_isTriple_34 (by decide) ?_
        exact z_pzret hx hb hr hlocks rfl hf dX6_isTriple_35
      · have hf := ite_f c_6 hf
        refine lv_iconst (v := 1) hx hb dX6_isTriple_30 (by decide) ?_
        refine lv_goto (tgt := 35) hx hb dX6_isTriple_31 (by decide) ?_
        exact z_pzret hx hb hr hlocks rfl hf dX6_isTriple_35
abbrev rm_X6_leads : Room := { frames := 0, cells := 0, slots := 0, locals := 0 }
def fn_X6_leads (σ : S2) (x1 : Int32) (x2 : Int32) (x3 : Int32) : Option (Int32) := if 20 ≤ x1 then some 0 else ck (((256 * x1) + (32 * x2)) + x3) 5120 (if (σ.1 1 ((((256 * x1) + (32 * x2)) + x3)).toNatClampNeg) = 0 then some 0 else some 1)
set_option maxHeartbeats 4000000 in
set_option maxRecDepth 100000 in
theorem ct_X6_leads (l : Launch) (D : va_G) (A : Nat → Prop) (ad : Nat → Nat) (cA : Nat → ClassId) (rs : va_W) (tr : List (ClassId × FieldType)) (σ : S2) (x1 : Int32) (x2 : Int32) (x3 : Int32) {res : Int32} (hf : fn_X6_leads σ x1 x2 x3 = some res) : Met l yX6_leads (.code yX6_leads cX6_leads 4 (some .boolean) :: tb) rm_X6_leads (va_Pc [.ref (ad 0), .int x1, .int x2, .int x3] (zN D vwCl (tyM cA tr) A (wM ad cA rs) nl σ)) (va_Qi (fun r' u' => r' = res ∧ u' = σ) (zB D vwCl (tyM cA tr) A (wM ad cA rs)) A) 0 0 A := by
  refine Met.ofW (cc := cX6_leads) (maxL := 4) (ret := (some .boolean)) (by decide) rfl ?_
  intro p e s m args below meth c s₁ B hml hv
  obtain ⟨rfl, hB, hnw0⟩ := hv
  have htt : ∀ w ∈ tb, w.before (([.ref (ad 0), .int x1, .int x2, .int x3] : List Value).toArray) s = true := fun w h => atoms_spec (ws := (.code yX6_leads cX6_leads 4 (some .boolean) :: tb)) B.pre w (List.mem_cons_of_mem _ h)
  have C0 : cx p m meth c cX6_leads (some .boolean) 4 s (([.ref (ad 0), .int x1, .int x2, .int x3] : List Value).toArray) tb nl RX6 := ⟨B.exec, B.bytes, B.returns, hml, findClass_of_methodNamed B.named, htt, B.notSynchronized, hnw0⟩
  obtain ⟨hx, hb, hr, hml, hown, htt, hlocks, hnw⟩ := id C0
  have hZ := z_start hB
  have hl := lv_entry ([.ref (ad 0), .int x1, .int x2, .int x3]) (n := 4) (Nat.le_of_ble_eq_true rfl)
  rw [lg_entry_eq]
  generalize (lg_sl ([.ref (ad 0), .int x1, .int x2, .int x3]) ++ List.replicate (4 - (lg_sl ([.ref (ad 0), .int x1, .int x2, .int x3])).length) Slot.unset).toArray = ls at hl ⊢
  have hl : lv_has ls 4 [(0, .ref (ad 0)), (1, .int x1), (2, .int x2), (3, .int x3)] := hl
  unfold fn_X6_leads at hf
  refine lv_iload_n hx hb dX6_leads_0 rfl (lv_at hl 1 rfl) ?_
  refine lv_bipush (v := 20) hx hb dX6_leads_1 (by decide) ?_
  refine lv_icmp_ge (tgt := 30) hx hb dX6_leads_3 (by decide) (fun c_1 => ?_) (fun c_1 => ?_)
  · have hf := ite_t c_1 hf
    refine lv_iconst (v := 0) hx hb dX6_leads_30 (by decide) ?_
    exact z_zret hx hb hr hlocks hZ rfl (Option.some.inj hf) rfl dX6_leads_31
  · have hf := ite_f c_1 hf
    refine lv_aload_n hx hb dX6_leads_6 rfl (lv_at hl 0 rfl) ?_
    refine z_get hx hb htt iw_X6 hown hZ 0 rfl rfl 0 (by decide) lf_X6_7 rfl dX6_leads_7 ?_
    refine lv_sipush (v := 256) hx hb dX6_leads_10 (by decide) ?_
    refine lv_iload_n hx hb dX6_leads_13 rfl (lv_at hl 1 rfl) ?_
    refine lv_imul hx hb dX6_leads_14 ?_
    refine lv_bipush (v := 32) hx hb dX6_leads_15 (by decide) ?_
    refine lv_iload_n hx hb dX6_leads_17 rfl (lv_at hl 2 rfl) ?_
    refine lv_imul hx hb dX6_leads_18 ?_
    refine lv_iadd hx hb dX6_leads_19 ?_
    refine lv_iload_n hx hb dX6_leads_20 rfl (lv_at hl 3 rfl) ?_
    refine lv_iadd hx hb dX6_leads_21 ?_
    obtain ⟨h_2, hf⟩ := ck_s hf
    refine z_zld hx hb hZ 1 0 rfl rfl h_2 dX6_leads_22 ?_
    refine lv_if_eq (tgt := 30) hx hb dX6_leads_23 (by decide) (fun c_3 => ?_) (fun c_3 => ?_)
    · have hf := ite_t c_3 hf
      refine lv_iconst (v := 0) hx hb dX6_leads_30 (by decide) ?_
      exact z_zret hx hb hr hlocks hZ rfl (Option.some.inj hf) rfl dX6_leads_31
    · have hf := ite_f c_3 hf
      refine lv_iconst (v := 1) hx hb dX6_leads_26 (by decide) ?_
      refine lv_goto (tgt := 31) hx hb dX6_leads_27 (by decide) ?_
      exact z_zret hx hb hr hlocks hZ rfl (Option.some.inj hf) rfl dX6_leads_31
abbrev rm_X6_isShape : Room := { frames := 1, cells := 0, slots := 0, locals := 22 }
def fn_X6_isShape (σ : S2) (x1 : Int32) : Int32 := lt (fn_X6_in x1 0 ((σ.1 21 0) - 1)) (fun r1 => r1)
set_option maxHeartbeats 4000000 in
set_option maxRecDepth 100000 in
theorem ct_X6_isShape (l : Launch) (D : va_G) (A : Nat → Prop) (ad : Nat → Nat) (cA : Nat → ClassId) (rs : va_W) (tr : List (ClassId × FieldType)) (σ : S2) (x1 : Int32) {res : Int32} (hf : fn_X6_isShape σ x1 = res) : Met l yX6_isShape (.code yX6_isShape cX6_isShape 2 (some .boolean) :: tb) rm_X6_isShape (va_Pc [.ref (ad 0), .int x1] (zN D vwCl (tyM cA tr) A (wM ad cA rs) nl σ)) (va_Qi (fun r' u' => r' = res ∧ u' = σ) (zB D vwCl (tyM cA tr) A (wM ad cA rs)) A) 0 0 A := by
  refine Met.ofW (cc := cX6_isShape) (maxL := 2) (ret := (some .boolean)) (by decide) rfl ?_
  intro p e s m args below meth c s₁ B hml hv
  obtain ⟨rfl, hB, hnw0⟩ := hv
  have htt : ∀ w ∈ tb, w.before (([.ref (ad 0), .int x1] : List Value).toArray) s = true := fun w h => atoms_spec (ws := (.code yX6_isShape cX6_isShape 2 (some .boolean) :: tb)) B.pre w (List.mem_cons_of_mem _ h)
  have C0 : cx p m meth c cX6_isShape (some .boolean) 2 s (([.ref (ad 0), .int x1] : List Value).toArray) tb nl RX6 := ⟨B.exec, B.bytes, B.returns, hml, findClass_of_methodNamed B.named, htt, B.notSynchronized, hnw0⟩
  obtain ⟨hx, hb, hr, hml, hown, htt, hlocks, hnw⟩ := id C0
  have hZ := z_start hB
  have hl := lv_entry ([.ref (ad 0), .int x1]) (n := 2) (Nat.le_of_ble_eq_true rfl)
  rw [lg_entry_eq]
  generalize (lg_sl ([.ref (ad 0), .int x1]) ++ List.replicate (2 - (lg_sl ([.ref (ad 0), .int x1])).length) Slot.unset).toArray = ls at hl ⊢
  have hl : lv_has ls 2 [(0, .ref (ad 0)), (1, .int x1)] := hl
  unfold fn_X6_isShape at hf
  refine lv_iload_n hx hb dX6_isShape_0 rfl (lv_at hl 1 rfl) ?_
  refine lv_iconst (v := 0) hx hb dX6_isShape_1 (by decide) ?_
  refine lv_aload_n hx hb dX6_isShape_2 rfl (lv_at hl 0 rfl) ?_
  refine z_get hx hb htt iw_X6 hown hZ 0 rfl rfl 2 (by decide) lf_X6_70 rfl dX6_isShape_3 ?_
  refine lv_iconst (v := 1) hx hb dX6_isShape_6 (by decide) ?_
  refine lv_isub hx hb dX6_isShape_7 ?_
  refine z_pcalli (z_runS (As := [.int x1, .int 0, .int ((σ.1 21 0) - 1)]) (rest := []) ⟨hx, hb, hml, hown, htt⟩ gT (ct_X6_in l x1 0 ((σ.1 21 0) - 1) rfl) md_X6_in lm_X6_66 rfl rfl ⟨Nat.le_of_ble_eq_true rfl, Nat.le_of_ble_eq_true rfl⟩ z_preP rfl rfl hl.1 rfl (lv_room (Nat.le_of_ble_eq_true rfl)) dX6_isShape_8 ⟨Nat.le_of_ble_eq_true rfl, Nat.le_of_ble_eq_true rfl⟩) ?_
  refine lv_topi (fun r1 e_r1 => ?_)
  have hf := lt_n e_r1 hf
  exact z_zret hx hb hr hlocks hZ (bo_X6_in e_r1) hf rfl dX6_isShape_11
abbrev rm_X6_isLiteral : Room := { frames := 0, cells := 0, slots := 0, locals := 0 }
def fn_X6_isLiteral (x0 : Int32) : Int32 := if x0 < 20 then 0 else 1
set_option maxHeartbeats 4000000 in
set_option maxRecDepth 100000 in
theorem ct_X6_isLiteral (l : Launch) (x0 : Int32) {res : Int32} (hf : fn_X6_isLiteral x0 = res) : Met l yX6_isLiteral (.code yX6_isLiteral cX6_isLiteral 1 (some .boolean) :: tb) rm_X6_isLiteral (va_Pc [.int x0] (fun _ => True)) (vp_Si (fun r' => r' = res)) 0 0 (fun _ => False) := by
  refine Met.ofW (cc := cX6_isLiteral) (maxL := 1) (ret := (some .boolean)) (by decide) rfl ?_
  intro p e s m args below meth c s₁ B hml hv
  obtain ⟨rfl, hB⟩ := hv
  have htt : ∀ w ∈ tb, w.before (([.int x0] : List Value).toArray) s = true := fun w h => atoms_spec (ws := (.code yX6_isLiteral cX6_isLiteral 1 (some .boolean) :: tb)) B.pre w (List.mem_cons_of_mem _ h)
  have C0 : cx p m meth c cX6_isLiteral (some .boolean) 1 s (([.int x0] : List Value).toArray) tb [] RX6 := ⟨B.exec, B.bytes, B.returns, hml, findClass_of_methodNamed B.named, htt, B.notSynchronized, fun _ h => absurd h List.not_mem_nil⟩
  obtain ⟨hx, hb, hr, hml, hown, htt, hlocks, hnw⟩ := id C0
  have hl := lv_entry ([.int x0]) (n := 1) (Nat.le_of_ble_eq_true rfl)
  rw [lg_entry_eq]
  generalize (lg_sl ([.int x0]) ++ List.replicate (1 - (lg_sl ([.int x0])).length) Slot.unset).toArray = ls at hl ⊢
  have hl : lv_has ls 1 [(0, .int x0)] := hl
  unfold fn_X6_isLiteral at hf
  refine lv_iload_n hx hb dX6_isLiteral_0 rfl (lv_at hl 0 rfl) ?_
  refine lv_bipush (v := 20) hx hb dX6_isLiteral_1 (by decide) ?_
  refine lv_icmp_lt (tgt := 10) hx hb dX6_isLiteral_3 (by decide) (fun c_1 => ?_) (fun c_1 => ?_)
  · have hf := ite_t c_1 hf
    refine lv_iconst (v := 0) hx hb dX6_isLiteral_10 (by decide) ?_
    exact z_pzret hx hb hr hlocks rfl hf dX6_isLiteral_11
  · have hf := ite_f c_1 hf
    refine lv_iconst (v := 1) hx hb dX6_isLiteral_6 (by decide) ?_
    refine lv_goto (tgt := 11) hx hb dX6_isLiteral_7 (by decide) ?_
    exact z_pzret hx hb hr hlocks rfl hf dX6_isLiteral_11
theorem bo_X6_isLiteral {x0 : Int32} {r : Int32} (h : r = fn_X6_isLiteral x0) : narrow .boolean (.int r) = .int r := by
  subst h; unfold fn_X6_isLiteral; (try simp only [lt]); repeat' split
  all_goals rfl
abbrev rm_X6_numberOf : Room := { frames := 0, cells := 0, slots := 0, locals := 0 }
def fn_X6_numberOf (x0 : Int32) : Int32 := ((x0 - 20) / 2)
set_option maxHeartbeats 4000000 in
set_option maxRecDepth 100000 in
theorem ct_X6_numberOf (l : Launch) (x0 : Int32) {res : Int32} (hf : fn_X6_numberOf x0 = res) : Met l yX6_numberOf (.code yX6_numberOf cX6_numberOf 1 (some .int) :: tb) rm_X6_numberOf (va_Pc [.int x0] (fun _ => True)) (vp_Si (fun r' => r' = res)) 0 0 (fun _ => False) := by
  refine Met.ofW (cc := cX6_numberOf) (maxL := 1) (ret := (some .int)) (by decide) rfl ?_
  intro p e s m args below meth c s₁ B hml hv
  obtain ⟨rfl, hB⟩ := hv
  have htt : ∀ w ∈ tb, w.before (([.int x0] : List Value).toArray) s = true := fun w h => atoms_spec (ws := (.code yX6_numberOf cX6_numberOf 1 (some .int) :: tb)) B.pre w (List.mem_cons_of_mem _ h)
  have C0 : cx p m meth c cX6_numberOf (some .int) 1 s (([.int x0] : List Value).toArray) tb [] RX6 := ⟨B.exec, B.bytes, B.returns, hml, findClass_of_methodNamed B.named, htt, B.notSynchronized, fun _ h => absurd h List.not_mem_nil⟩
  obtain ⟨hx, hb, hr, hml, hown, htt, hlocks, hnw⟩ := id C0
  have hl := lv_entry ([.int x0]) (n := 1) (Nat.le_of_ble_eq_true rfl)
  rw [lg_entry_eq]
  generalize (lg_sl ([.int x0]) ++ List.replicate (1 - (lg_sl ([.int x0])).length) Slot.unset).toArray = ls at hl ⊢
  have hl : lv_has ls 1 [(0, .int x0)] := hl
  unfold fn_X6_numberOf at hf
  refine lv_iload_n hx hb dX6_numberOf_0 rfl (lv_at hl 0 rfl) ?_
  refine lv_bipush (v := 20) hx hb dX6_numberOf_1 (by decide) ?_
  refine lv_isub hx hb dX6_numberOf_3 ?_
  refine lv_iconst (v := 2) hx hb dX6_numberOf_4 (by decide) ?_
  refine lv_idiv hx hb dX6_numberOf_5 (by decide) ?_
  exact z_piret hx hb hr hlocks hf dX6_numberOf_6
abbrev rm_X6_tagOf : Room := { frames := 0, cells := 0, slots := 0, locals := 0 }
def fn_X6_tagOf (x0 : Int32) : Int32 := (x0 - x0 / 2 * 2)
set_option maxHeartbeats 4000000 in
set_option maxRecDepth 100000 in
theorem ct_X6_tagOf (l : Launch) (x0 : Int32) {res : Int32} (hf : fn_X6_tagOf x0 = res) : Met l yX6_tagOf (.code yX6_tagOf cX6_tagOf 1 (some .int) :: tb) rm_X6_tagOf (va_Pc [.int x0] (fun _ => True)) (vp_Si (fun r' => r' = res)) 0 0 (fun _ => False) := by
  refine Met.ofW (cc := cX6_tagOf) (maxL := 1) (ret := (some .int)) (by decide) rfl ?_
  intro p e s m args below meth c s₁ B hml hv
  obtain ⟨rfl, hB⟩ := hv
  have htt : ∀ w ∈ tb, w.before (([.int x0] : List Value).toArray) s = true := fun w h => atoms_spec (ws := (.code yX6_tagOf cX6_tagOf 1 (some .int) :: tb)) B.pre w (List.mem_cons_of_mem _ h)
  have C0 : cx p m meth c cX6_tagOf (some .int) 1 s (([.int x0] : List Value).toArray) tb [] RX6 := ⟨B.exec, B.bytes, B.returns, hml, findClass_of_methodNamed B.named, htt, B.notSynchronized, fun _ h => absurd h List.not_mem_nil⟩
  obtain ⟨hx, hb, hr, hml, hown, htt, hlocks, hnw⟩ := id C0
  have hl := lv_entry ([.int x0]) (n := 1) (Nat.le_of_ble_eq_true rfl)
  rw [lg_entry_eq]
  generalize (lg_sl ([.int x0]) ++ List.replicate (1 - (lg_sl ([.int x0])).length) Slot.unset).toArray = ls at hl ⊢
  have hl : lv_has ls 1 [(0, .int x0)] := hl
  unfold fn_X6_tagOf at hf
  refine lv_iload_n hx hb dX6_tagOf_0 rfl (lv_at hl 0 rfl) ?_
  refine lv_iconst (v := 2) hx hb dX6_tagOf_1 (by decide) ?_
  refine lv_irem hx hb dX6_tagOf_2 (by decide) ?_
  exact z_piret hx hb hr hlocks hf dX6_tagOf_3
abbrev rm_X6_triple : Room := { frames := 2, cells := 0, slots := 0, locals := 44 }
def fn_X6_triple (σ : S2) (x1 : Int32) (x2 : Int32) (x3 : Int32) : Option (Int32 × S2) := lt (fn_X6_isTriple x1 x2 x3) (fun r1 => if r1 = 0 then some ((-1), σ) else bn (fn_X6_leads σ x1 x2 x3) (fun r4 => if r4 = 0 then if (σ.1 20 0) = 100 then some ((-3), σ) else ck (((256 * x1) + (32 * x2)) + x3) 5120 (lt (st σ 1 ((((256 * x1) + (32 * x2)) + x3)).toNatClampNeg 1) (fun σ8 => lt (st σ8 20 0 ((σ8.1 20 0) + 1)) (fun σ9 => lt (st σ9 24 0 0) (fun σ10 => some (1, σ10))))) else some (0, σ)))
set_option maxHeartbeats 4000000 in
set_option maxRecDepth 100000 in
theorem ct_X6_triple (l : Launch) (D : va_G) (A : Nat → Prop) (ad : Nat → Nat) (cA : Nat → ClassId) (rs : va_W) (tr : List (ClassId × FieldType)) (σ : S2) (x1 : Int32) (x2 : Int32) (x3 : Int32) {res : Int32 × S2} (hf : fn_X6_triple σ x1 x2 x3 = some res) : Met l yX6_triple (.code yX6_triple cX6_triple 4 (some .int) :: tb) rm_X6_triple (va_Pc [.ref (ad 0), .int x1, .int x2, .int x3] (zN D vwCl (tyM cA tr) A (wM ad cA rs) nl σ)) (va_Qi (fun r' u' => r' = res.1 ∧ u' = res.2) (zB D vwCl (tyM cA tr) A (wM ad cA rs)) A) 0 0 A := by
  refine Met.ofW (cc := cX6_triple) (maxL := 4) (ret := (some .int)) (by decide) rfl ?_
  intro p e s m args below meth c s₁ B hml hv
  obtain ⟨rfl, hB, hnw0⟩ := hv
  have htt : ∀ w ∈ tb, w.before (([.ref (ad 0), .int x1, .int x2, .int x3] : List Value).toArray) s = true := fun w h => atoms_spec (ws := (.code yX6_triple cX6_triple 4 (some .int) :: tb)) B.pre w (List.mem_cons_of_mem _ h)
  have C0 : cx p m meth c cX6_triple (some .int) 4 s (([.ref (ad 0), .int x1, .int x2, .int x3] : List Value).toArray) tb nl RX6 := ⟨B.exec, B.bytes, B.returns, hml, findClass_of_methodNamed B.named, htt, B.notSynchronized, hnw0⟩
  obtain ⟨hx, hb, hr, hml, hown, htt, hlocks, hnw⟩ := id C0
  have hZ := z_start hB
  have hl := lv_entry ([.ref (ad 0), .int x1, .int x2, .int x3]) (n := 4) (Nat.le_of_ble_eq_true rfl)
  rw [lg_entry_eq]
  generalize (lg_sl ([.ref (ad 0), .int x1, .int x2, .int x3]) ++ List.replicate (4 - (lg_sl ([.ref (ad 0), .int x1, .int x2, .int x3])).length) Slot.unset).toArray = ls at hl ⊢
  have hl : lv_has ls 4 [(0, .ref (ad 0)), (1, .int x1), (2, .int x2), (3, .int x3)] := hl
  unfold fn_X6_triple at hf
  refine lv_iload_n hx hb dX6_triple_0 rfl (lv_at hl 1 rfl) ?_
  refine lv_iload_n hx hb dX6_triple_1 rfl (lv_at hl 2 rfl) ?_
  refine lv_iload_n hx hb dX6_triple_2 rfl (lv_at hl 3 rfl) ?_
  refine z_pcalli (z_runS (As := [.int x1, .int x2, .int x3]) (rest := []) ⟨hx, hb, hml, hown, htt⟩ gT (ct_X6_isTriple l x1 x2 x3 rfl) md_X6_isTriple lm_X6_74 rfl rfl ⟨Nat.le_of_ble_eq_true rfl, Nat.le_of_ble_eq_true rfl⟩ z_preP rfl rfl hl.1 rfl (lv_room (Nat.le_of_ble_eq_true rfl)) dX6_triple_3 ⟨Nat.le_of_ble_eq_true rfl, Nat.le_of_ble_eq_true rfl⟩) ?_
  refine lv_topi (fun r1 e_r1 => ?_)
  have hf := lt_n e_r1 hf
  refine lv_if_ne (tgt := 11) hx hb dX6_triple_6 (by decide) (fun c_2 => ?_) (fun c_2 => ?_)
  · have hf := ite_f c_2 hf
    refine lv_aload_n hx hb dX6_triple_11 rfl (lv_at hl 0 rfl) ?_
    refine lv_iload_n hx hb dX6_triple_12 rfl (lv_at hl 1 rfl) ?_
    refine lv_iload_n hx hb dX6_triple_13 rfl (lv_at hl 2 rfl) ?_
    refine lv_iload_n hx hb dX6_triple_14 rfl (lv_at hl 3 rfl) ?_
    obtain ⟨r4, k_3, hf⟩ := bn_s hf
    refine z_calli (z_runV (As := [.int x1, .int x2, .int x3]) (rest := []) ⟨hx, hb, hml, hown, htt⟩ gT (ct_X6_leads l D A ad cA rs tr σ x1 x2 x3 k_3) md_X6_leads lm_X6_77 rfl rfl ⟨Nat.le_of_ble_eq_true rfl, Nat.le_of_ble_eq_true rfl⟩ (z_preV gN hnw hZ rfl (q0 := 0) (ci := 6) rfl) rfl rfl hl.1 rfl (lv_room (Nat.le_of_ble_eq_true rfl)) dX6_triple_15 ⟨Nat.le_of_ble_eq_true rfl, Nat.le_of_ble_eq_true rfl⟩) hZ (fun H locs hZ => ?_)
    refine lv_if_eq (tgt := 23) hx hb dX6_triple_18 (by decide) (fun c_5 => ?_) (fun c_5 => ?_)
    · have hf := ite_t c_5 hf
      refine lv_aload_n hx hb dX6_triple_23 rfl (lv_at hl 0 rfl) ?_
      refine z_get hx hb htt iw_X6 hown hZ 0 rfl rfl 1 (by decide) lf_X6_80 rfl dX6_triple_24 ?_
      refine lv_bipush (v := 100) hx hb dX6_triple_27 (by decide) ?_
      refine lv_icmp_ne (tgt := 35) hx hb dX6_triple_29 (by decide) (fun c_6 => ?_) (fun c_6 => ?_)
      · have hf := ite_f c_6 hf
        refine lv_aload_n hx hb dX6_triple_35 rfl (lv_at hl 0 rfl) ?_
        refine z_get hx hb htt iw_X6 hown hZ 0 rfl rfl 0 (by decide) lf_X6_7 rfl dX6_triple_36 ?_
        refine lv_sipush (v := 256) hx hb dX6_triple_39 (by decide) ?_
        refine lv_iload_n hx hb dX6_triple_42 rfl (lv_at hl 1 rfl) ?_
        refine lv_imul hx hb dX6_triple_43 ?_
        refine lv_bipush (v := 32) hx hb dX6_triple_44 (by decide) ?_
        refine lv_iload_n hx hb dX6_triple_46 rfl (lv_at hl 2 rfl) ?_
        refine lv_imul hx hb dX6_triple_47 ?_
        refine lv_iadd hx hb dX6_triple_48 ?_
        refine lv_iload_n hx hb dX6_triple_49 rfl (lv_at hl 3 rfl) ?_
        refine lv_iadd hx hb dX6_triple_50 ?_
        refine lv_iconst (v := 1) hx hb dX6_triple_51 (by decide) ?_
        obtain ⟨h_7, hf⟩ := ck_s hf
        refine z_zst (σ' := st σ 1 ((((256 * x1) + (32 * x2)) + x3)).toNatClampNeg 1) hx hb hZ 1 0 rfl rfl h_7 dX6_triple_52 rfl (fun σ8 H locs e_σ8 hZ => ?_)
        have hf := lt_n e_σ8 hf
        refine lv_aload_n hx hb dX6_triple_53 rfl (lv_at hl 0 rfl) ?_
        refine lv_dup hx hb dX6_triple_54 rfl ?_
        refine z_get hx hb htt iw_X6 hown hZ 0 rfl rfl 1 (by decide) lf_X6_80 rfl dX6_triple_55 ?_
        refine lv_iconst (v := 1) hx hb dX6_triple_58 (by decide) ?_
        refine lv_iadd hx hb dX6_triple_59 ?_
        refine z_put (σ' := st σ8 20 0 ((σ8.1 20 0) + 1)) hx hb htt iw_X6 tyX6 to_X6 nm_X6 hown hZ 0 rfl rfl 1 (by decide) lf_X6_80 rfl rfl rfl (Nat.le_of_ble_eq_true rfl) dX6_triple_60 rfl (fun σ9 H locs e_σ9 hZ => ?_)
        have hf := lt_n e_σ9 hf
        refine lv_aload_n hx hb dX6_triple_63 rfl (lv_at hl 0 rfl) ?_
        refine lv_iconst (v := 0) hx hb dX6_triple_64 (by decide) ?_
        refine z_put (σ' := st σ9 24 0 0) hx hb htt iw_X6 tyX6 to_X6 nm_X6 hown hZ 0 rfl rfl 20 (by decide) lf_X6_62 rfl rfl rfl (Nat.le_of_ble_eq_true rfl) dX6_triple_65 rfl (fun σ10 H locs e_σ10 hZ => ?_)
        have hf := lt_n e_σ10 hf
        refine lv_iconst (v := 1) hx hb dX6_triple_68 (by decide) ?_
        exact z_iret hx hb hr hlocks hZ (sp_1 hf) (sp_2 hf) dX6_triple_69
      · have hf := ite_t c_6 hf
        refine lv_bipush (v := (-3)) hx hb dX6_triple_32 (by decide) ?_
        exact z_iret hx hb hr hlocks hZ (sp_1 hf) (sp_2 hf) dX6_triple_34
    · have hf := ite_f c_5 hf
      refine lv_iconst (v := 0) hx hb dX6_triple_21 (by decide) ?_
      exact z_iret hx hb hr hlocks hZ (sp_1 hf) (sp_2 hf) dX6_triple_22
  · have hf := ite_t c_2 hf
    refine lv_iconst (v := (-1)) hx hb dX6_triple_9 (by decide) ?_
    exact z_iret hx hb hr hlocks hZ (sp_1 hf) (sp_2 hf) dX6_triple_10
abbrev rm_X6_drop : Room := { frames := 2, cells := 0, slots := 0, locals := 44 }
def fn_X6_drop (σ : S2) (x1 : Int32) (x2 : Int32) (x3 : Int32) : Option (Int32 × S2) := lt (fn_X6_isTriple x1 x2 x3) (fun r1 => if r1 = 0 then some ((-1), σ) else bn (fn_X6_leads σ x1 x2 x3) (fun r4 => if r4 = 0 then some (0, σ) else ck (((256 * x1) + (32 * x2)) + x3) 5120 (lt (st σ 1 ((((256 * x1) + (32 * x2)) + x3)).toNatClampNeg 0) (fun σ7 => lt (st σ7 20 0 ((σ7.1 20 0) - 1)) (fun σ8 => lt (st σ8 24 0 0) (fun σ9 => some (1, σ9)))))))
set_option maxHeartbeats 4000000 in
set_option maxRecDepth 100000 in
theorem ct_X6_drop (l : Launch) (D : va_G) (A : Nat → Prop) (ad : Nat → Nat) (cA : Nat → ClassId) (rs : va_W) (tr : List (ClassId × FieldType)) (σ : S2) (x1 : Int32) (x2 : Int32) (x3 : Int32) {res : Int32 × S2} (hf : fn_X6_drop σ x1 x2 x3 = some res) : Met l yX6_drop (.code yX6_drop cX6_drop 4 (some .int) :: tb) rm_X6_drop (va_Pc [.ref (ad 0), .int x1, .int x2, .int x3] (zN D vwCl (tyM cA tr) A (wM ad cA rs) nl σ)) (va_Qi (fun r' u' => r' = res.1 ∧ u' = res.2) (zB D vwCl (tyM cA tr) A (wM ad cA rs)) A) 0 0 A := by
  refine Met.ofW (cc := cX6_drop) (maxL := 4) (ret := (some .int)) (by decide) rfl ?_
  intro p e s m args below meth c s₁ B hml hv
  obtain ⟨rfl, hB, hnw0⟩ := hv
  have htt : ∀ w ∈ tb, w.before (([.ref (ad 0), .int x1, .int x2, .int x3] : List Value).toArray) s = true := fun w h => atoms_spec (ws := (.code yX6_drop cX6_drop 4 (some .int) :: tb)) B.pre w (List.mem_cons_of_mem _ h)
  have C0 : cx p m meth c cX6_drop (some .int) 4 s (([.ref (ad 0), .int x1, .int x2, .int x3] : List Value).toArray) tb nl RX6 := ⟨B.exec, B.bytes, B.returns, hml, findClass_of_methodNamed B.named, htt, B.notSynchronized, hnw0⟩
  obtain ⟨hx, hb, hr, hml, hown, htt, hlocks, hnw⟩ := id C0
  have hZ := z_start hB
  have hl := lv_entry ([.ref (ad 0), .int x1, .int x2, .int x3]) (n := 4) (Nat.le_of_ble_eq_true rfl)
  rw [lg_entry_eq]
  generalize (lg_sl ([.ref (ad 0), .int x1, .int x2, .int x3]) ++ List.replicate (4 - (lg_sl ([.ref (ad 0), .int x1, .int x2, .int x3])).length) Slot.unset).toArray = ls at hl ⊢
  have hl : lv_has ls 4 [(0, .ref (ad 0)), (1, .int x1), (2, .int x2), (3, .int x3)] := hl
  unfold fn_X6_drop at hf
  refine lv_iload_n hx hb dX6_drop_0 rfl (lv_at hl 1 rfl) ?_
  refine lv_iload_n hx hb dX6_drop_1 rfl (lv_at hl 2 rfl) ?_
  refine lv_iload_n hx hb dX6_drop_2 rfl (lv_at hl 3 rfl) ?_
  refine z_pcalli (z_runS (As := [.int x1, .int x2, .int x3]) (rest := []) ⟨hx, hb, hml, hown, htt⟩ gT (ct_X6_isTriple l x1 x2 x3 rfl) md_X6_isTriple lm_X6_74 rfl rfl ⟨Nat.le_of_ble_eq_true rfl, Nat.le_of_ble_eq_true rfl⟩ z_preP rfl rfl hl.1 rfl (lv_room (Nat.le_of_ble_eq_true rfl)) dX6_drop_3 ⟨Nat.le_of_ble_eq_true rfl, Nat.le_of_ble_eq_true rfl⟩) ?_
  refine lv_topi (fun r1 e_r1 => ?_)
  have hf := lt_n e_r1 hf
  refine lv_if_ne (tgt := 11) hx hb dX6_drop_6 (by decide) (fun c_2 => ?_) (fun c_2 => ?_)
  · have hf := ite_f c_2 hf
    refine lv_aload_n hx hb dX6_drop_11 rfl (lv_at hl 0 rfl) ?_
    refine lv_iload_n hx hb dX6_drop_12 rfl (lv_at hl 1 rfl) ?_
    refine lv_iload_n hx hb dX6_drop_13 rfl (lv_at hl 2 rfl) ?_
    refine lv_iload_n hx hb dX6_drop_14 rfl (lv_at hl 3 rfl) ?_
    obtain ⟨r4, k_3, hf⟩ := bn_s hf
    refine z_calli (z_runV (As := [.int x1, .int x2, .int x3]) (rest := []) ⟨hx, hb, hml, hown, htt⟩ gT (ct_X6_leads l D A ad cA rs tr σ x1 x2 x3 k_3) md_X6_leads lm_X6_77 rfl rfl ⟨Nat.le_of_ble_eq_true rfl, Nat.le_of_ble_eq_true rfl⟩ (z_preV gN hnw hZ rfl (q0 := 0) (ci := 6) rfl) rfl rfl hl.1 rfl (lv_room (Nat.le_of_ble_eq_true rfl)) dX6_drop_15 ⟨Nat.le_of_ble_eq_true rfl, Nat.le_of_ble_eq_true rfl⟩) hZ (fun H locs hZ => ?_)
    refine lv_if_ne (tgt := 23) hx hb dX6_drop_18 (by decide) (fun c_5 => ?_) (fun c_5 => ?_)
    · have hf := ite_f c_5 hf
      refine lv_aload_n hx hb dX6_drop_23 rfl (lv_at hl 0 rfl) ?_
      refine z_get hx hb htt iw_X6 hown hZ 0 rfl rfl 0 (by decide) lf_X6_7 rfl dX6_drop_24 ?_
      refine lv_sipush (v := 256) hx hb dX6_drop_27 (by decide) ?_
      refine lv_iload_n hx hb dX6_drop_30 rfl (lv_at hl 1 rfl) ?_
      refine lv_imul hx hb dX6_drop_31 ?_
      refine lv_bipush (v := 32) hx hb dX6_drop_32 (by decide) ?_
      refine lv_iload_n hx hb dX6_drop_34 rfl (lv_at hl 2 rfl) ?_
      refine lv_imul hx hb dX6_drop_35 ?_
      refine lv_iadd hx hb dX6_drop_36 ?_
      refine lv_iload_n hx hb dX6_drop_37 rfl (lv_at hl 3 rfl) ?_
      refine lv_iadd hx hb dX6_drop_38 ?_
      refine lv_iconst (v := 0) hx hb dX6_drop_39 (by decide) ?_
      obtain ⟨h_6, hf⟩ := ck_s hf
      refine z_zst (σ' := st σ 1 ((((256 * x1) + (32 * x2)) + x3)).toNatClampNeg 0) hx hb hZ 1 0 rfl rfl h_6 dX6_drop_40 rfl (fun σ7 H locs e_σ7 hZ => ?_)
      have hf := lt_n e_σ7 hf
      refine lv_aload_n hx hb dX6_drop_41 rfl (lv_at hl 0 rfl) ?_
      refine lv_dup hx hb dX6_drop_42 rfl ?_
      refine z_get hx hb htt iw_X6 hown hZ 0 rfl rfl 1 (by decide) lf_X6_80 rfl dX6_drop_43 ?_
      refine lv_iconst (v := 1) hx hb dX6_drop_46 (by decide) ?_
      refine lv_isub hx hb dX6_drop_47 ?_
      refine z_put (σ' := st σ7 20 0 ((σ7.1 20 0) - 1)) hx hb htt iw_X6 tyX6 to_X6 nm_X6 hown hZ 0 rfl rfl 1 (by decide) lf_X6_80 rfl rfl rfl (Nat.le_of_ble_eq_true rfl) dX6_drop_48 rfl (fun σ8 H locs e_σ8 hZ => ?_)
      have hf := lt_n e_σ8 hf
      refine lv_aload_n hx hb dX6_drop_51 rfl (lv_at hl 0 rfl) ?_
      refine lv_iconst (v := 0) hx hb dX6_drop_52 (by decide) ?_
      refine z_put (σ' := st σ8 24 0 0) hx hb htt iw_X6 tyX6 to_X6 nm_X6 hown hZ 0 rfl rfl 20 (by decide) lf_X6_62 rfl rfl rfl (Nat.le_of_ble_eq_true rfl) dX6_drop_53 rfl (fun σ9 H locs e_σ9 hZ => ?_)
      have hf := lt_n e_σ9 hf
      refine lv_iconst (v := 1) hx hb dX6_drop_56 (by decide) ?_
      exact z_iret hx hb hr hlocks hZ (sp_1 hf) (sp_2 hf) dX6_drop_57
    · have hf := ite_t c_5 hf
      refine lv_iconst (v := 0) hx hb dX6_drop_21 (by decide) ?_
      exact z_iret hx hb hr hlocks hZ (sp_1 hf) (sp_2 hf) dX6_drop_22
  · have hf := ite_t c_2 hf
    refine lv_iconst (v := (-1)) hx hb dX6_drop_9 (by decide) ?_
    exact z_iret hx hb hr hlocks hZ (sp_1 hf) (sp_2 hf) dX6_drop_10
abbrev rm_X6_shape : Room := { frames := 1, cells := 0, slots := 0, locals := 22 }
def fn_X6_shape (σ : S2) (x1 : Int32) : Option (Int32 × S2) := lt (fn_X6_in x1 (-1) 15) (fun r1 => if r1 = 0 then some ((-1), σ) else if (σ.1 21 0) = 12 then some ((-3), σ) else ck (σ.1 21 0) 12 (lt (st σ 2 ((σ.1 21 0)).toNatClampNeg x1) (fun σ5 => ck (σ5.1 21 0) 12 (lt (st σ5 3 ((σ5.1 21 0)).toNatClampNeg 2) (fun σ7 => lt (st σ7 21 0 ((σ7.1 21 0) + 1)) (fun σ8 => lt (st σ8 24 0 0) (fun σ9 => some (((σ9.1 21 0) - 1), σ9))))))))
set_option maxHeartbeats 4000000 in
set_option maxRecDepth 100000 in
theorem ct_X6_shape (l : Launch) (D : va_G) (A : Nat → Prop) (ad : Nat → Nat) (cA : Nat → ClassId) (rs : va_W) (tr : List (ClassId × FieldType)) (σ : S2) (x1 : Int32) {res : Int32 × S2} (hf : fn_X6_shape σ x1 = some res) : Met l yX6_shape (.code yX6_shape cX6_shape 2 (some .int) :: tb) rm_X6_shape (va_Pc [.ref (ad 0), .int x1] (zN D vwCl (tyM cA tr) A (wM ad cA rs) nl σ)) (va_Qi (fun r' u' => r' = res.1 ∧ u' = res.2) (zB D vwCl (tyM cA tr) A (wM ad cA rs)) A) 0 0 A := by
  refine Met.ofW (cc := cX6_shape) (maxL := 2) (ret := (some .int)) (by decide) rfl ?_
  intro p e s m args below meth c s₁ B hml hv
  obtain ⟨rfl, hB, hnw0⟩ := hv
  have htt : ∀ w ∈ tb, w.before (([.ref (ad 0), .int x1] : List Value).toArray) s = true := fun w h => atoms_spec (ws := (.code yX6_shape cX6_shape 2 (some .int) :: tb)) B.pre w (List.mem_cons_of_mem _ h)
  have C0 : cx p m meth c cX6_shape (some .int) 2 s (([.ref (ad 0), .int x1] : List Value).toArray) tb nl RX6 := ⟨B.exec, B.bytes, B.returns, hml, findClass_of_methodNamed B.named, htt, B.notSynchronized, hnw0⟩
  obtain ⟨hx, hb, hr, hml, hown, htt, hlocks, hnw⟩ := id C0
  have hZ := z_start hB
  have hl := lv_entry ([.ref (ad 0), .int x1]) (n := 2) (Nat.le_of_ble_eq_true rfl)
  rw [lg_entry_eq]
  generalize (lg_sl ([.ref (ad 0), .int x1]) ++ List.replicate (2 - (lg_sl ([.ref (ad 0), .int x1])).length) Slot.unset).toArray = ls at hl ⊢
  have hl : lv_has ls 2 [(0, .ref (ad 0)), (1, .int x1)] := hl
  unfold fn_X6_shape at hf
  refine lv_iload_n hx hb dX6_shape_0 rfl (lv_at hl 1 rfl) ?_
  refine lv_iconst (v := (-1)) hx hb dX6_shape_1 (by decide) ?_
  refine lv_bipush (v := 15) hx hb dX6_shape_2 (by decide) ?_
  refine z_pcalli (z_runS (As := [.int x1, .int (-1), .int 15]) (rest := []) ⟨hx, hb, hml, hown, htt⟩ gT (ct_X6_in l x1 (-1) 15 rfl) md_X6_in lm_X6_66 rfl rfl ⟨Nat.le_of_ble_eq_true rfl, Nat.le_of_ble_eq_true rfl⟩ z_preP rfl rfl hl.1 rfl (lv_room (Nat.le_of_ble_eq_true rfl)) dX6_shape_4 ⟨Nat.le_of_ble_eq_true rfl, Nat.le_of_ble_eq_true rfl⟩) ?_
  refine lv_topi (fun r1 e_r1 => ?_)
  have hf := lt_n e_r1 hf
  refine lv_if_ne (tgt := 12) hx hb dX6_shape_7 (by decide) (fun c_2 => ?_) (fun c_2 => ?_)
  · have hf := ite_f c_2 hf
    refine lv_aload_n hx hb dX6_shape_12 rfl (lv_at hl 0 rfl) ?_
    refine z_get hx hb htt iw_X6 hown hZ 0 rfl rfl 2 (by decide) lf_X6_70 rfl dX6_shape_13 ?_
    refine lv_bipush (v := 12) hx hb dX6_shape_16 (by decide) ?_
    refine lv_icmp_ne (tgt := 24) hx hb dX6_shape_18 (by decide) (fun c_3 => ?_) (fun c_3 => ?_)
    · have hf := ite_f c_3 hf
      refine lv_aload_n hx hb dX6_shape_24 rfl (lv_at hl 0 rfl) ?_
      refine z_get hx hb htt iw_X6 hown hZ 0 rfl rfl 3 (by decide) lf_X6_13 rfl dX6_shape_25 ?_
      refine lv_aload_n hx hb dX6_shape_28 rfl (lv_at hl 0 rfl) ?_
      refine z_get hx hb htt iw_X6 hown hZ 0 rfl rfl 2 (by decide) lf_X6_70 rfl dX6_shape_29 ?_
      refine lv_iload_n hx hb dX6_shape_32 rfl (lv_at hl 1 rfl) ?_
      obtain ⟨h_4, hf⟩ := ck_s hf
      refine z_ist (σ' := st σ 2 ((σ.1 21 0)).toNatClampNeg x1) hx hb hZ 2 1 rfl rfl h_4 dX6_shape_33 rfl (fun σ5 H locs e_σ5 hZ => ?_)
      have hf := lt_n e_σ5 hf
      refine lv_aload_n hx hb dX6_shape_34 rfl (lv_at hl 0 rfl) ?_
      refine z_get hx hb htt iw_X6 hown hZ 0 rfl rfl 4 (by decide) lf_X6_17 rfl dX6_shape_35 ?_
      refine lv_aload_n hx hb dX6_shape_38 rfl (lv_at hl 0 rfl) ?_
      refine z_get hx hb htt iw_X6 hown hZ 0 rfl rfl 2 (by decide) lf_X6_70 rfl dX6_shape_39 ?_
      refine lv_iconst (v := 2) hx hb dX6_shape_42 (by decide) ?_
      obtain ⟨h_6, hf⟩ := ck_s hf
      refine z_ist (σ' := st σ5 3 ((σ5.1 21 0)).toNatClampNeg 2) hx hb hZ 3 2 rfl rfl h_6 dX6_shape_43 rfl (fun σ7 H locs e_σ7 hZ => ?_)
      have hf := lt_n e_σ7 hf
      refine lv_aload_n hx hb dX6_shape_44 rfl (lv_at hl 0 rfl) ?_
      refine lv_dup hx hb dX6_shape_45 rfl ?_
      refine z_get hx hb htt iw_X6 hown hZ 0 rfl rfl 2 (by decide) lf_X6_70 rfl dX6_shape_46 ?_
      refine lv_iconst (v := 1) hx hb dX6_shape_49 (by decide) ?_
      refine lv_iadd hx hb dX6_shape_50 ?_
      refine z_put (σ' := st σ7 21 0 ((σ7.1 21 0) + 1)) hx hb htt iw_X6 tyX6 to_X6 nm_X6 hown hZ 0 rfl rfl 2 (by decide) lf_X6_70 rfl rfl rfl (Nat.le_of_ble_eq_true rfl) dX6_shape_51 rfl (fun σ8 H locs e_σ8 hZ => ?_)
      have hf := lt_n e_σ8 hf
      refine lv_aload_n hx hb dX6_shape_54 rfl (lv_at hl 0 rfl) ?_
      refine lv_iconst (v := 0) hx hb dX6_shape_55 (by decide) ?_
      refine z_put (σ' := st σ8 24 0 0) hx hb htt iw_X6 tyX6 to_X6 nm_X6 hown hZ 0 rfl rfl 20 (by decide) lf_X6_62 rfl rfl rfl (Nat.le_of_ble_eq_true rfl) dX6_shape_56 rfl (fun σ9 H locs e_σ9 hZ => ?_)
      have hf := lt_n e_σ9 hf
      refine lv_aload_n hx hb dX6_shape_59 rfl (lv_at hl 0 rfl) ?_
      refine z_get hx hb htt iw_X6 hown hZ 0 rfl rfl 2 (by decide) lf_X6_70 rfl dX6_shape_60 ?_
      refine lv_iconst (v := 1) hx hb dX6_shape_63 (by decide) ?_
      refine lv_isub hx hb dX6_shape_64 ?_
      exact z_iret hx hb hr hlocks hZ (sp_1 hf) (sp_2 hf) dX6_shape_65
    · have hf := ite_t c_3 hf
      refine lv_bipush (v := (-3)) hx hb dX6_shape_21 (by decide) ?_
      exact z_iret hx hb hr hlocks hZ (sp_1 hf) (sp_2 hf) dX6_shape_23
  · have hf := ite_t c_2 hf
    refine lv_iconst (v := (-1)) hx hb dX6_shape_10 (by decide) ?_
    exact z_iret hx hb hr hlocks hZ (sp_1 hf) (sp_2 hf) dX6_shape_11
abbrev rm_X6_severity : Room := { frames := 2, cells := 0, slots := 0, locals := 43 }
def fn_X6_severity (σ : S2) (x1 : Int32) (x2 : Int32) : Option (Int32 × S2) := lt (fn_X6_isShape σ x1) (fun r1 => if r1 = 0 then some ((-1), σ) else lt (fn_X6_in x2 0 2) (fun r3 => if r3 = 0 then some ((-1), σ) else ck x1 12 (lt ((σ.1 3 (x1).toNatClampNeg)) (fun v6 => ck x1 12 (lt (st σ 3 (x1).toNatClampNeg x2) (fun σ8 => if v6 = x2 then some (0, σ8) else some (1, σ8)))))))
set_option maxHeartbeats 4000000 in
set_option maxRecDepth 100000 in
theorem ct_X6_severity (l : Launch) (D : va_G) (A : Nat → Prop) (ad : Nat → Nat) (cA : Nat → ClassId) (rs : va_W) (tr : List (ClassId × FieldType)) (σ : S2) (x1 : Int32) (x2 : Int32) {res : Int32 × S2} (hf : fn_X6_severity σ x1 x2 = some res) : Met l yX6_severity (.code yX6_severity cX6_severity 4 (some .int) :: tb) rm_X6_severity (va_Pc [.ref (ad 0), .int x1, .int x2] (zN D vwCl (tyM cA tr) A (wM ad cA rs) nl σ)) (va_Qi (fun r' u' => r' = res.1 ∧ u' = res.2) (zB D vwCl (tyM cA tr) A (wM ad cA rs)) A) 0 0 A := by
  refine Met.ofW (cc := cX6_severity) (maxL := 4) (ret := (some .int)) (by decide) rfl ?_
  intro p e s m args below meth c s₁ B hml hv
  obtain ⟨rfl, hB, hnw0⟩ := hv
  have htt : ∀ w ∈ tb, w.before (([.ref (ad 0), .int x1, .int x2] : List Value).toArray) s = true := fun w h => atoms_spec (ws := (.code yX6_severity cX6_severity 4 (some .int) :: tb)) B.pre w (List.mem_cons_of_mem _ h)
  have C0 : cx p m meth c cX6_severity (some .int) 4 s (([.ref (ad 0), .int x1, .int x2] : List Value).toArray) tb nl RX6 := ⟨B.exec, B.bytes, B.returns, hml, findClass_of_methodNamed B.named, htt, B.notSynchronized, hnw0⟩
  obtain ⟨hx, hb, hr, hml, hown, htt, hlocks, hnw⟩ := id C0
  have hZ := z_start hB
  have hl := lv_entry ([.ref (ad 0), .int x1, .int x2]) (n := 4) (Nat.le_of_ble_eq_true rfl)
  rw [lg_entry_eq]
  generalize (lg_sl ([.ref (ad 0), .int x1, .int x2]) ++ List.replicate (4 - (lg_sl ([.ref (ad 0), .int x1, .int x2])).length) Slot.unset).toArray = ls at hl ⊢
  have hl : lv_has ls 4 [(0, .ref (ad 0)), (1, .int x1), (2, .int x2)] := hl
  unfold fn_X6_severity at hf
  refine lv_aload_n hx hb dX6_severity_0 rfl (lv_at hl 0 rfl) ?_
  refine lv_iload_n hx hb dX6_severity_1 rfl (lv_at hl 1 rfl) ?_
  refine z_calli (z_runV (As := [.int x1]) (rest := []) ⟨hx, hb, hml, hown, htt⟩ gT (ct_X6_isShape l D A ad cA rs tr σ x1 rfl) md_X6_isShape lm_X6_83 rfl rfl ⟨Nat.le_of_ble_eq_true rfl, Nat.le_of_ble_eq_true rfl⟩ (z_preV gN hnw hZ rfl (q0 := 0) (ci := 6) rfl) rfl rfl hl.1 rfl (lv_room (Nat.le_of_ble_eq_true rfl)) dX6_severity_2 ⟨Nat.le_of_ble_eq_true rfl, Nat.le_of_ble_eq_true rfl⟩) hZ (fun H locs hZ => ?_)
  refine lv_topi (fun r1 e_r1 => ?_)
  have hf := lt_n e_r1 hf
  refine lv_if_eq (tgt := 17) hx hb dX6_severity_5 (by decide) (fun c_2 => ?_) (fun c_2 => ?_)
  · have hf := ite_t c_2 hf
    refine lv_iconst (v := (-1)) hx hb dX6_severity_17 (by decide) ?_
    exact z_iret hx hb hr hlocks hZ (sp_1 hf) (sp_2 hf) dX6_severity_18
  · have hf := ite_f c_2 hf
    refine lv_iload_n hx hb dX6_severity_8 rfl (lv_at hl 2 rfl) ?_
    refine lv_iconst (v := 0) hx hb dX6_severity_9 (by decide) ?_
    refine lv_iconst (v := 2) hx hb dX6_severity_10 (by decide) ?_
    refine z_pcalli (z_runS (As := [.int x2, .int 0, .int 2]) (rest := []) ⟨hx, hb, hml, hown, htt⟩ gT (ct_X6_in l x2 0 2 rfl) md_X6_in lm_X6_66 rfl rfl ⟨Nat.le_of_ble_eq_true rfl, Nat.le_of_ble_eq_true rfl⟩ z_preP rfl rfl hl.1 rfl (lv_room (Nat.le_of_ble_eq_true rfl)) dX6_severity_11 ⟨Nat.le_of_ble_eq_true rfl, Nat.le_of_ble_eq_true rfl⟩) ?_
    refine lv_topi (fun r3 e_r3 => ?_)
    have hf := lt_n e_r3 hf
    refine lv_if_ne (tgt := 19) hx hb dX6_severity_14 (by decide) (fun c_4 => ?_) (fun c_4 => ?_)
    · have hf := ite_f c_4 hf
      refine lv_aload_n hx hb dX6_severity_19 rfl (lv_at hl 0 rfl) ?_
      refine z_get hx hb htt iw_X6 hown hZ 0 rfl rfl 4 (by decide) lf_X6_17 rfl dX6_severity_20 ?_
      refine lv_iload_n hx hb dX6_severity_23 rfl (lv_at hl 1 rfl) ?_
      obtain ⟨h_5, hf⟩ := ck_s hf
      refine z_ild hx hb hZ 3 2 rfl rfl h_5 dX6_severity_24 ?_
      refine lv_topi (fun v6 e_v6 => ?_)
      have hf := lt_n e_v6 hf
      refine lv_istore_n (lv' := [(3, .int v6), (0, .ref (ad 0)), (1, .int x1), (2, .int x2)]) hx hb dX6_severity_25 rfl hl (by decide) rfl (fun ls hl => ?_)
      refine lv_aload_n hx hb dX6_severity_26 rfl (lv_at hl 1 rfl) ?_
      refine z_get hx hb htt iw_X6 hown hZ 0 rfl rfl 4 (by decide) lf_X6_17 rfl dX6_severity_27 ?_
      refine lv_iload_n hx hb dX6_severity_30 rfl (lv_at hl 2 rfl) ?_
      refine lv_iload_n hx hb dX6_severity_31 rfl (lv_at hl 3 rfl) ?_
      obtain ⟨h_7, hf⟩ := ck_s hf
      refine z_ist (σ' := st σ 3 (x1).toNatClampNeg x2) hx hb hZ 3 2 rfl rfl h_7 dX6_severity_32 rfl (fun σ8 H locs e_σ8 hZ => ?_)
      have hf := lt_n e_σ8 hf
      refine lv_iload_n hx hb dX6_severity_33 rfl (lv_at hl 0 rfl) ?_
      refine lv_iload_n hx hb dX6_severity_34 rfl (lv_at hl 3 rfl) ?_
      refine lv_icmp_ne (tgt := 42) hx hb dX6_severity_35 (by decide) (fun c_9 => ?_) (fun c_9 => ?_)
      · have hf := ite_f c_9 hf
        refine lv_iconst (v := 1) hx hb dX6_severity_42 (by decide) ?_
        exact z_iret hx hb hr hlocks hZ (sp_1 hf) (sp_2 hf) dX6_severity_43
      · have hf := ite_t c_9 hf
        refine lv_iconst (v := 0) hx hb dX6_severity_38 (by decide) ?_
        refine lv_goto (tgt := 43) hx hb dX6_severity_39 (by decide) ?_
        exact z_iret hx hb hr hlocks hZ (sp_1 hf) (sp_2 hf) dX6_severity_43
    · have hf := ite_t c_4 hf
      refine lv_iconst (v := (-1)) hx hb dX6_severity_17 (by decide) ?_
      exact z_iret hx hb hr hlocks hZ (sp_1 hf) (sp_2 hf) dX6_severity_18
abbrev rm_X6_target : Room := { frames := 2, cells := 0, slots := 0, locals := 43 }
def fn_X6_target_53 (σ : S2) (x1 : Int32) (x2 : Int32) (x3 : Int32) (x4 : Int32) : Option (Int32 × S2) := if x4 = 0 then some ((-1), σ) else if (σ.1 22 0) = 24 then some ((-3), σ) else ck (σ.1 22 0) 24 (lt (st σ 4 ((σ.1 22 0)).toNatClampNeg x1) (fun σ4 => ck (σ4.1 22 0) 24 (lt (st σ4 5 ((σ4.1 22 0)).toNatClampNeg x2) (fun σ6 => ck (σ6.1 22 0) 24 (lt (st σ6 6 ((σ6.1 22 0)).toNatClampNeg x3) (fun σ8 => lt (st σ8 22 0 ((σ8.1 22 0) + 1)) (fun σ9 => lt (st σ9 24 0 0) (fun σ10 => some ((σ10.1 22 0), σ10)))))))))
def fn_X6_target_50 (σ : S2) (x1 : Int32) (x2 : Int32) (x3 : Int32) : Option (Int32 × S2) := fn_X6_target_53 σ x1 x2 x3 0
def fn_X6_target (σ : S2) (x1 : Int32) (x2 : Int32) (x3 : Int32) : Option (Int32 × S2) := lt (fn_X6_isShape σ x1) (fun r1 => if r1 = 0 then fn_X6_target_50 σ x1 x2 x3 else lt (fn_X6_in x2 0 3) (fun r3 => if r3 = 0 then fn_X6_target_50 σ x1 x2 x3 else if x2 = 0 then lt (fn_X6_in x3 0 31) (fun r11 => if r11 = 0 then fn_X6_target_50 σ x1 x2 x3 else fn_X6_target_53 σ x1 x2 x3 1) else if x2 = 1 then lt (fn_X6_in x3 0 19) (fun r9 => if r9 = 0 then fn_X6_target_50 σ x1 x2 x3 else fn_X6_target_53 σ x1 x2 x3 1) else lt (fn_X6_in x3 0 7) (fun r7 => if r7 = 0 then fn_X6_target_50 σ x1 x2 x3 else fn_X6_target_53 σ x1 x2 x3 1)))
set_option maxHeartbeats 4000000 in
set_option maxRecDepth 100000 in
theorem wk_X6_target_53 {p : Program} {l : Launch} {e : Env} {s : State} {m : MethodId} {args : Array Value} {below : List Frame} {meth : Method} {c : Code} {D : va_G} {A : Nat → Prop} {ad : Nat → Nat} {cA : Nat → ClassId} {rs : va_W} {tr : List (ClassId × FieldType)} {res : Int32 × S2} (C0 : cx p m meth c cX6_target (some .int) 5 s args tb nl RX6) : ∀ (σ : S2) (x1 : Int32) (x2 : Int32) (x3 : Int32) (x4 : Int32), ∀ (H : Heap) (locs : List Loc) (ls : Array Slot), zz D vwCl (tyM cA tr) A (wM ad cA rs) s s.heap H locs σ → lv_has ls 5 [(0, .ref (ad 0)), (1, .int x1), (2, .int x2), (3, .int x3), (4, .int x4)] → fn_X6_target_53 σ x1 x2 x3 x4 = some res → W p l e rm_X6_target s m args below meth c H locs 0 0 (MQ below (va_Qi (fun r' u' => r' = res.1 ∧ u' = res.2) (zB D vwCl (tyM cA tr) A (wM ad cA rs)) A) args s 0 0 A) (F0 m 53 ls []) := by
  obtain ⟨hx, hb, hr, hml, hown, htt, hlocks, hnw⟩ := id C0
  intro σ x1 x2 x3 x4 H locs ls hZ hl hf
  unfold fn_X6_target_53 at hf
  refine lv_iload hx hb dX6_target_53 (lv_at hl 4 rfl) ?_
  refine lv_if_ne (tgt := 60) hx hb dX6_target_55 (by decide) (fun c_1 => ?_) (fun c_1 => ?_)
  · have hf := ite_f c_1 hf
    refine lv_aload_n hx hb dX6_target_60 rfl (lv_at hl 0 rfl) ?_
    refine z_get hx hb htt iw_X6 hown hZ 0 rfl rfl 5 (by decide) lf_X6_87 rfl dX6_target_61 ?_
    refine lv_bipush (v := 24) hx hb dX6_target_64 (by decide) ?_
    refine lv_icmp_ne (tgt := 72) hx hb dX6_target_66 (by decide) (fun c_2 => ?_) (fun c_2 => ?_)
    · have hf := ite_f c_2 hf
      refine lv_aload_n hx hb dX6_target_72 rfl (lv_at hl 0 rfl) ?_
      refine z_get hx hb htt iw_X6 hown hZ 0 rfl rfl 6 (by decide) lf_X6_20 rfl dX6_target_73 ?_
      refine lv_aload_n hx hb dX6_target_76 rfl (lv_at hl 0 rfl) ?_
      refine z_get hx hb htt iw_X6 hown hZ 0 rfl rfl 5 (by decide) lf_X6_87 rfl dX6_target_77 ?_
      refine lv_iload_n hx hb dX6_target_80 rfl (lv_at hl 1 rfl) ?_
      obtain ⟨h_3, hf⟩ := ck_s hf
      refine z_ist (σ' := st σ 4 ((σ.1 22 0)).toNatClampNeg x1) hx hb hZ 4 3 rfl rfl h_3 dX6_target_81 rfl (fun σ4 H locs e_σ4 hZ => ?_)
      have hf := lt_n e_σ4 hf
      refine lv_aload_n hx hb dX6_target_82 rfl (lv_at hl 0 rfl) ?_
      refine z_get hx hb htt iw_X6 hown hZ 0 rfl rfl 7 (by decide) lf_X6_23 rfl dX6_target_83 ?_
      refine lv_aload_n hx hb dX6_target_86 rfl (lv_at hl 0 rfl) ?_
      refine z_get hx hb htt iw_X6 hown hZ 0 rfl rfl 5 (by decide) lf_X6_87 rfl dX6_target_87 ?_
      refine lv_iload_n hx hb dX6_target_90 rfl (lv_at hl 2 rfl) ?_
      obtain ⟨h_5, hf⟩ := ck_s hf
      refine z_ist (σ' := st σ4 5 ((σ4.1 22 0)).toNatClampNeg x2) hx hb hZ 5 4 rfl rfl h_5 dX6_target_91 rfl (fun σ6 H locs e_σ6 hZ => ?_)
      have hf := lt_n e_σ6 hf
      refine lv_aload_n hx hb dX6_target_92 rfl (lv_at hl 0 rfl) ?_
      refine z_get hx hb htt iw_X6 hown hZ 0 rfl rfl 8 (by decide) lf_X6_26 rfl dX6_target_93 ?_
      refine lv_aload_n hx hb dX6_target_96 rfl (lv_at hl 0 rfl) ?_
      refine z_get hx hb htt iw_X6 hown hZ 0 rfl rfl 5 (by decide) lf_X6_87 rfl dX6_target_97 ?_
      refine lv_iload_n hx hb dX6_target_100 rfl (lv_at hl 3 rfl) ?_
      obtain ⟨h_7, hf⟩ := ck_s hf
      refine z_ist (σ' := st σ6 6 ((σ6.1 22 0)).toNatClampNeg x3) hx hb hZ 6 5 rfl rfl h_7 dX6_target_101 rfl (fun σ8 H locs e_σ8 hZ => ?_)
      have hf := lt_n e_σ8 hf
      refine lv_aload_n hx hb dX6_target_102 rfl (lv_at hl 0 rfl) ?_
      refine lv_dup hx hb dX6_target_103 rfl ?_
      refine z_get hx hb htt iw_X6 hown hZ 0 rfl rfl 5 (by decide) lf_X6_87 rfl dX6_target_104 ?_
      refine lv_iconst (v := 1) hx hb dX6_target_107 (by decide) ?_
      refine lv_iadd hx hb dX6_target_108 ?_
      refine z_put (σ' := st σ8 22 0 ((σ8.1 22 0) + 1)) hx hb htt iw_X6 tyX6 to_X6 nm_X6 hown hZ 0 rfl rfl 5 (by decide) lf_X6_87 rfl rfl rfl (Nat.le_of_ble_eq_true rfl) dX6_target_109 rfl (fun σ9 H locs e_σ9 hZ => ?_)
      have hf := lt_n e_σ9 hf
      refine lv_aload_n hx hb dX6_target_112 rfl (lv_at hl 0 rfl) ?_
      refine lv_iconst (v := 0) hx hb dX6_target_113 (by decide) ?_
      refine z_put (σ' := st σ9 24 0 0) hx hb htt iw_X6 tyX6 to_X6 nm_X6 hown hZ 0 rfl rfl 20 (by decide) lf_X6_62 rfl rfl rfl (Nat.le_of_ble_eq_true rfl) dX6_target_114 rfl (fun σ10 H locs e_σ10 hZ => ?_)
      have hf := lt_n e_σ10 hf
      refine lv_aload_n hx hb dX6_target_117 rfl (lv_at hl 0 rfl) ?_
      refine z_get hx hb htt iw_X6 hown hZ 0 rfl rfl 5 (by decide) lf_X6_87 rfl dX6_target_118 ?_
      exact z_iret hx hb hr hlocks hZ (sp_1 hf) (sp_2 hf) dX6_target_121
    · have hf := ite_t c_2 hf
      refine lv_bipush (v := (-3)) hx hb dX6_target_69 (by decide) ?_
      exact z_iret hx hb hr hlocks hZ (sp_1 hf) (sp_2 hf) dX6_target_71
  · have hf := ite_t c_1 hf
    refine lv_iconst (v := (-1)) hx hb dX6_target_58 (by decide) ?_
    exact z_iret hx hb hr hlocks hZ (sp_1 hf) (sp_2 hf) dX6_target_59
set_option maxHeartbeats 4000000 in
set_option maxRecDepth 100000 in
theorem wk_X6_target_50 {p : Program} {l : Launch} {e : Env} {s : State} {m : MethodId} {args : Array Value} {below : List Frame} {meth : Method} {c : Code} {D : va_G} {A : Nat → Prop} {ad : Nat → Nat} {cA : Nat → ClassId} {rs : va_W} {tr : List (ClassId × FieldType)} {res : Int32 × S2} (C0 : cx p m meth c cX6_target (some .int) 5 s args tb nl RX6) : ∀ (σ : S2) (x1 : Int32) (x2 : Int32) (x3 : Int32), ∀ (H : Heap) (locs : List Loc) (ls : Array Slot), zz D vwCl (tyM cA tr) A (wM ad cA rs) s s.heap H locs σ → lv_has ls 5 [(0, .ref (ad 0)), (1, .int x1), (2, .int x2), (3, .int x3)] → fn_X6_target_50 σ x1 x2 x3 = some res → W p l e rm_X6_target s m args below meth c H locs 0 0 (MQ below (va_Qi (fun r' u' => r' = res.1 ∧ u' = res.2) (zB D vwCl (tyM cA tr) A (wM ad cA rs)) A) args s 0 0 A) (F0 m 50 ls []) := by
  obtain ⟨hx, hb, hr, hml, hown, htt, hlocks, hnw⟩ := id C0
  intro σ x1 x2 x3 H locs ls hZ hl hf
  unfold fn_X6_target_50 at hf
  refine lv_iconst (v := 0) hx hb dX6_target_50 (by decide) ?_
  refine lv_istore (lv' := [(4, .int 0), (0, .ref (ad 0)), (1, .int x1), (2, .int x2), (3, .int x3)]) hx hb dX6_target_51 hl (by decide) rfl (fun ls hl => ?_)
  exact wk_X6_target_53 C0  σ x1 x2 x3 0 _ _ _ hZ (lv_sub hl [1, 2, 3, 4, 0] rfl) hf
set_option maxHeartbeats 4000000 in
set_option maxRecDepth 100000 in
theorem ct_X6_target (l : Launch) (D : va_G) (A : Nat → Prop) (ad : Nat → Nat) (cA : Nat → ClassId) (rs : va_W) (tr : List (ClassId × FieldType)) (σ : S2) (x1 : Int32) (x2 : Int32) (x3 : Int32) {res : Int32 × S2} (hf : fn_X6_target σ x1 x2 x3 = some res) : Met l yX6_target (.code yX6_target cX6_target 5 (some .int) :: tb) rm_X6_target (va_Pc [.ref (ad 0), .int x1, .int x2, .int x3] (zN D vwCl (tyM cA tr) A (wM ad cA rs) nl σ)) (va_Qi (fun r' u' => r' = res.1 ∧ u' = res.2) (zB D vwCl (tyM cA tr) A (wM ad cA rs)) A) 0 0 A := by
  refine Met.ofW (cc := cX6_target) (maxL := 5) (ret := (some .int)) (by decide) rfl ?_
  intro p e s m args below meth c s₁ B hml hv
  obtain ⟨rfl, hB, hnw0⟩ := hv
  have htt : ∀ w ∈ tb, w.before (([.ref (ad 0), .int x1, .int x2, .int x3] : List Value).toArray) s = true := fun w h => atoms_spec (ws := (.code yX6_target cX6_target 5 (some .int) :: tb)) B.pre w (List.mem_cons_of_mem _ h)
  have C0 : cx p m meth c cX6_target (some .int) 5 s (([.ref (ad 0), .int x1, .int x2, .int x3] : List Value).toArray) tb nl RX6 := ⟨B.exec, B.bytes, B.returns, hml, findClass_of_methodNamed B.named, htt, B.notSynchronized, hnw0⟩
  obtain ⟨hx, hb, hr, hml, hown, htt, hlocks, hnw⟩ := id C0
  have hZ := z_start hB
  have hl := lv_entry ([.ref (ad 0), .int x1, .int x2, .int x3]) (n := 5) (Nat.le_of_ble_eq_true rfl)
  rw [lg_entry_eq]
  generalize (lg_sl ([.ref (ad 0), .int x1, .int x2, .int x3]) ++ List.replicate (5 - (lg_sl ([.ref (ad 0), .int x1, .int x2, .int x3])).length) Slot.unset).toArray = ls at hl ⊢
  have hl : lv_has ls 5 [(0, .ref (ad 0)), (1, .int x1), (2, .int x2), (3, .int x3)] := hl
  unfold fn_X6_target at hf
  refine lv_aload_n hx hb dX6_target_0 rfl (lv_at hl 0 rfl) ?_
  refine lv_iload_n hx hb dX6_target_1 rfl (lv_at hl 1 rfl) ?_
  refine z_calli (z_runV (As := [.int x1]) (rest := []) ⟨hx, hb, hml, hown, htt⟩ gT (ct_X6_isShape l D A ad cA rs tr σ x1 rfl) md_X6_isShape lm_X6_83 rfl rfl ⟨Nat.le_of_ble_eq_true rfl, Nat.le_of_ble_eq_true rfl⟩ (z_preV gN hnw hZ rfl (q0 := 0) (ci := 6) rfl) rfl rfl hl.1 rfl (lv_room (Nat.le_of_ble_eq_true rfl)) dX6_target_2 ⟨Nat.le_of_ble_eq_true rfl, Nat.le_of_ble_eq_true rfl⟩) hZ (fun H locs hZ => ?_)
  refine lv_topi (fun r1 e_r1 => ?_)
  have hf := lt_n e_r1 hf
  refine lv_if_eq (tgt := 50) hx hb dX6_target_5 (by decide) (fun c_2 => ?_) (fun c_2 => ?_)
  · have hf := ite_t c_2 hf
    exact wk_X6_target_50 C0  σ x1 x2 x3 _ _ _ hZ (lv_sub hl [0, 1, 2, 3] rfl) hf
  · have hf := ite_f c_2 hf
    refine lv_iload_n hx hb dX6_target_8 rfl (lv_at hl 2 rfl) ?_
    refine lv_iconst (v := 0) hx hb dX6_target_9 (by decide) ?_
    refine lv_iconst (v := 3) hx hb dX6_target_10 (by decide) ?_
    refine z_pcalli (z_runS (As := [.int x2, .int 0, .int 3]) (rest := []) ⟨hx, hb, hml, hown, htt⟩ gT (ct_X6_in l x2 0 3 rfl) md_X6_in lm_X6_66 rfl rfl ⟨Nat.le_of_ble_eq_true rfl, Nat.le_of_ble_eq_true rfl⟩ z_preP rfl rfl hl.1 rfl (lv_room (Nat.le_of_ble_eq_true rfl)) dX6_target_11 ⟨Nat.le_of_ble_eq_true rfl, Nat.le_of_ble_eq_true rfl⟩) ?_
    refine lv_topi (fun r3 e_r3 => ?_)
    have hf := lt_n e_r3 hf
    refine lv_if_eq (tgt := 50) hx hb dX6_target_14 (by decide) (fun c_4 => ?_) (fun c_4 => ?_)
    · have hf := ite_t c_4 hf
      exact wk_X6_target_50 C0  σ x1 x2 x3 _ _ _ hZ (lv_sub hl [0, 1, 2, 3] rfl) hf
    · have hf := ite_f c_4 hf
      refine lv_iload_n hx hb dX6_target_17 rfl (lv_at hl 3 rfl) ?_
      refine lv_iconst (v := 0) hx hb dX6_target_18 (by decide) ?_
      refine lv_iload_n hx hb dX6_target_19 rfl (lv_at hl 2 rfl) ?_
      refine lv_if_ne (tgt := 28) hx hb dX6_target_20 (by decide) (fun c_5 => ?_) (fun c_5 => ?_)
      · have hf := ite_f c_5 hf
        refine lv_iload_n hx hb dX6_target_28 rfl (lv_at hl 2 rfl) ?_
        refine lv_iconst (v := 1) hx hb dX6_target_29 (by decide) ?_
        refine lv_icmp_ne (tgt := 38) hx hb dX6_target_30 (by decide) (fun c_6 => ?_) (fun c_6 => ?_)
        · have hf := ite_f c_6 hf
          refine lv_bipush (v := 7) hx hb dX6_target_38 (by decide) ?_
          refine z_pcalli (z_runS (As := [.int x3, .int 0, .int 7]) (rest := []) ⟨hx, hb, hml, hown, htt⟩ gT (ct_X6_in l x3 0 7 rfl) md_X6_in lm_X6_66 rfl rfl ⟨Nat.le_of_ble_eq_true rfl, Nat.le_of_ble_eq_true rfl⟩ z_preP rfl rfl hl.1 rfl (lv_room (Nat.le_of_ble_eq_true rfl)) dX6_target_40 ⟨Nat.le_of_ble_eq_true rfl, Nat.le_of_ble_eq_true rfl⟩) ?_
          refine lv_topi (fun r7 e_r7 => ?_)
          have hf := lt_n e_r7 hf
          refine lv_if_eq (tgt := 50) hx hb dX6_target_43 (by decide) (fun c_8 => ?_) (fun c_8 => ?_)
          · have hf := ite_t c_8 hf
            exact wk_X6_target_50 C0  σ x1 x2 x3 _ _ _ hZ (lv_sub hl [0, 1, 2, 3] rfl) hf
          · have hf := ite_f c_8 hf
            refine lv_iconst (v := 1) hx hb dX6_target_46 (by decide) ?_
            refine lv_goto (tgt := 51) hx hb dX6_target_47 (by decide) ?_
            refine lv_istore (lv' := [(4, .int 1), (0, .ref (ad 0)), (1, .int x1), (2, .int x2), (3, .int x3)]) hx hb dX6_target_51 hl (by decide) rfl (fun ls hl => ?_)
            exact wk_X6_target_53 C0  σ x1 x2 x3 1 _ _ _ hZ (lv_sub hl [1, 2, 3, 4, 0] rfl) hf
        · have hf := ite_t c_6 hf
          refine lv_bipush (v := 19) hx hb dX6_target_33 (by decide) ?_
          refine lv_goto (tgt := 40) hx hb dX6_target_35 (by decide) ?_
          refine z_pcalli (z_runS (As := [.int x3, .int 0, .int 19]) (rest := []) ⟨hx, hb, hml, hown, htt⟩ gT (ct_X6_in l x3 0 19 rfl) md_X6_in lm_X6_66 rfl rfl ⟨Nat.le_of_ble_eq_true rfl, Nat.le_of_ble_eq_true rfl⟩ z_preP rfl rfl hl.1 rfl (lv_room (Nat.le_of_ble_eq_true rfl)) dX6_target_40 ⟨Nat.le_of_ble_eq_true rfl, Nat.le_of_ble_eq_true rfl⟩) ?_
          refine lv_topi (fun r9 e_r9 => ?_)
          have hf := lt_n e_r9 hf
          refine lv_if_eq (tgt := 50) hx hb dX6_target_43 (by decide) (fun c_10 => ?_) (fun c_10 => ?_)
          · have hf := ite_t c_10 hf
            exact wk_X6_target_50 C0  σ x1 x2 x3 _ _ _ hZ (lv_sub hl [0, 1, 2, 3] rfl) hf
          · have hf := ite_f c_10 hf
            refine lv_iconst (v := 1) hx hb dX6_target_46 (by decide) ?_
            refine lv_goto (tgt := 51) hx hb dX6_target_47 (by decide) ?_
            refine lv_istore (lv' := [(4, .int 1), (0, .ref (ad 0)), (1, .int x1), (2, .int x2), (3, .int x3)]) hx hb dX6_target_51 hl (by decide) rfl (fun ls hl => ?_)
            exact wk_X6_target_53 C0  σ x1 x2 x3 1 _ _ _ hZ (lv_sub hl [1, 2, 3, 4, 0] rfl) hf
      · have hf := ite_t c_5 hf
        refine lv_bipush (v := 31) hx hb dX6_target_23 (by decide) ?_
        refine lv_goto (tgt := 40) hx hb dX6_target_25 (by decide) ?_
        refine z_pcalli (z_runS (As := [.int x3, .int 0, .int 31]) (rest := []) ⟨hx, hb, hml, hown, htt⟩ gT (ct_X6_in l x3 0 31 rfl) md_X6_in lm_X6_66 rfl rfl ⟨Nat.le_of_ble_eq_true rfl, Nat.le_of_ble_eq_true rfl⟩ z_preP rfl rfl hl.1 rfl (lv_room (Nat.le_of_ble_eq_true rfl)) dX6_target_40 ⟨Nat.le_of_ble_eq_true rfl, Nat.le_of_ble_eq_true rfl⟩) ?_
        refine lv_topi (fun r11 e_r11 => ?_)
        have hf := lt_n e_r11 hf
        refine lv_if_eq (tgt := 50) hx hb dX6_target_43 (by decide) (fun c_12 => ?_) (fun c_12 => ?_)
        · have hf := ite_t c_12 hf
          exact wk_X6_target_50 C0  σ x1 x2 x3 _ _ _ hZ (lv_sub hl [0, 1, 2, 3] rfl) hf
        · have hf := ite_f c_12 hf
          refine lv_iconst (v := 1) hx hb dX6_target_46 (by decide) ?_
          refine lv_goto (tgt := 51) hx hb dX6_target_47 (by decide) ?_
          refine lv_istore (lv' := [(4, .int 1), (0, .ref (ad 0)), (1, .int x1), (2, .int x2), (3, .int x3)]) hx hb dX6_target_51 hl (by decide) rfl (fun ls hl => ?_)
          exact wk_X6_target_53 C0  σ x1 x2 x3 1 _ _ _ hZ (lv_sub hl [1, 2, 3, 4, 0] rfl) hf
abbrev rm_X6_namesOne : Room := { frames := 0, cells := 0, slots := 0, locals := 0 }
def fn_X6_namesOne (x0 : Int32) : Int32 := if x0 ≤ 10 then 0 else 1
set_option maxHeartbeats 4000000 in
set_option maxRecDepth 100000 in
theorem ct_X6_namesOne (l : Launch) (x0 : Int32) {res : Int32} (hf : fn_X6_namesOne x0 = res) : Met l yX6_namesOne (.code yX6_namesOne cX6_namesOne 1 (some .boolean) :: tb) rm_X6_namesOne (va_Pc [.int x0] (fun _ => True)) (vp_Si (fun r' => r' = res)) 0 0 (fun _ => False) := by
  refine Met.ofW (cc := cX6_namesOne) (maxL := 1) (ret := (some .boolean)) (by decide) rfl ?_
  intro p e s m args below meth c s₁ B hml hv
  obtain ⟨rfl, hB⟩ := hv
  have htt : ∀ w ∈ tb, w.before (([.int x0] : List Value).toArray) s = true := fun w h => atoms_spec (ws := (.code yX6_namesOne cX6_namesOne 1 (some .boolean) :: tb)) B.pre w (List.mem_cons_of_mem _ h)
  have C0 : cx p m meth c cX6_namesOne (some .boolean) 1 s (([.int x0] : List Value).toArray) tb [] RX6 := ⟨B.exec, B.bytes, B.returns, hml, findClass_of_methodNamed B.named, htt, B.notSynchronized, fun _ h => absurd h List.not_mem_nil⟩
  obtain ⟨hx, hb, hr, hml, hown, htt, hlocks, hnw⟩ := id C0
  have hl := lv_entry ([.int x0]) (n := 1) (Nat.le_of_ble_eq_true rfl)
  rw [lg_entry_eq]
  generalize (lg_sl ([.int x0]) ++ List.replicate (1 - (lg_sl ([.int x0])).length) Slot.unset).toArray = ls at hl ⊢
  have hl : lv_has ls 1 [(0, .int x0)] := hl
  unfold fn_X6_namesOne at hf
  refine lv_iload_n hx hb dX6_namesOne_0 rfl (lv_at hl 0 rfl) ?_
  refine lv_bipush (v := 10) hx hb dX6_namesOne_1 (by decide) ?_
  refine lv_icmp_le (tgt := 10) hx hb dX6_namesOne_3 (by decide) (fun c_1 => ?_) (fun c_1 => ?_)
  · have hf := ite_t c_1 hf
    refine lv_iconst (v := 0) hx hb dX6_namesOne_10 (by decide) ?_
    exact z_pzret hx hb hr hlocks rfl hf dX6_namesOne_11
  · have hf := ite_f c_1 hf
    refine lv_iconst (v := 1) hx hb dX6_namesOne_6 (by decide) ?_
    refine lv_goto (tgt := 11) hx hb dX6_namesOne_7 (by decide) ?_
    exact z_pzret hx hb hr hlocks rfl hf dX6_namesOne_11
