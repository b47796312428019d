abbrev rm_X4_add : Room := { frames := 0, cells := 0, slots := 0, locals := 0 }
def fn_X4_add (σ : S2) (x1 : Int32) (x2 : Int32) (x3 : Int32) (x4 : Int32) : Option (Int32 × S2) := if 40 ≤ (σ.1 4 0) then some ((σ.1 4 0), σ) else ck (σ.1 4 0) 40 (lt (st σ 14 ((σ.1 4 0)).toNatClampNeg x1) (fun σ3 => ck (σ.1 4 0) 40 (lt (st σ3 15 ((σ.1 4 0)).toNatClampNeg x2) (fun σ5 => ck (σ.1 4 0) 40 (lt (st σ5 16 ((σ.1 4 0)).toNatClampNeg x3) (fun σ7 => ck (σ.1 4 0) 40 (lt (st σ7 17 ((σ.1 4 0)).toNatClampNeg x4) (fun σ9 => lt (st σ9 4 0 ((σ9.1 4 0) + 1)) (fun σ10 => some ((σ.1 4 0), σ10))))))))))
set_option maxHeartbeats 4000000 in
set_option maxRecDepth 100000 in
theorem ct_X4_add (l : Launch) (D : va_G) (A : Nat → Prop) (ad : Nat → Nat) (cA : Nat → ClassId) (rs : va_W) (tr : List (ClassId × FieldType)) (σ : S2) (x1 : Int32) (x2 : Int32) (x3 : Int32) (x4 : Int32) {res : Int32 × S2} (hf : fn_X4_add σ x1 x2 x3 x4 = some res) : Met l yX4_add (.code yX4_add cX4_add 6 (some .int) :: tb) rm_X4_add (va_Pc [.ref (ad 4), .int x1, .int x2, .int x3, .int x4] (zN D vwCl (tyC cA tr) A (wC ad cA rs) nl σ)) (va_Qi (fun r' u' => r' = res.1 ∧ u' = res.2) (zB D vwCl (tyC cA tr) A (wC ad cA rs)) A) 0 0 A := by
  refine Met.ofW (cc := cX4_add) (maxL := 6) (ret := (some .int)) (by decide) rfl ?_
  intro p e s m args below meth c s₁ B hml hv
  obtain ⟨rfl, hB, hnw0⟩ := hv
  have htt : ∀ w ∈ tb, w.before (([.ref (ad 4), .int x1, .int x2, .int x3, .int x4] : List Value).toArray) s = true := fun w h => atoms_spec (ws := (.code yX4_add cX4_add 6 (some .int) :: tb)) B.pre w (List.mem_cons_of_mem _ h)
  have C0 : cx p m meth c cX4_add (some .int) 6 s (([.ref (ad 4), .int x1, .int x2, .int x3, .int x4] : List Value).toArray) tb nl RX4 := ⟨B.exec, B.bytes, B.returns, hml, findClass_of_methodNamed B.named, htt, B.notSynchronized, hnw0⟩
  obtain ⟨hx, hb, hr, hml, hown, htt, hlocks, hnw⟩ := id C0
  have hZ := z_start hB
  have hl := lv_entry ([.ref (ad 4), .int x1, .int x2, .int x3, .int x4]) (n := 6) (Nat.le_of_ble_eq_true rfl)
  rw [lg_entry_eq]
  generalize (lg_sl ([.ref (ad 4), .int x1, .int x2, .int x3, .int x4]) ++ List.replicate (6 - (lg_sl ([.ref (ad 4), .int x1, .int x2, .int x3, .int x4])).length) Slot.unset).toArray = ls at hl ⊢
  have hl : lv_has ls 6 [(0, .ref (ad 4)), (1, .int x1), (2, .int x2), (3, .int x3), (4, .int x4)] := hl
  unfold fn_X4_add at hf
  refine lv_aload_n hx hb dX4_add_0 rfl (lv_at hl 0 rfl) ?_
  refine z_get hx hb htt iw_X4 hown hZ 4 rfl rfl 4 (by decide) lf_X4_24 rfl dX4_add_1 ?_
  refine lv_istore (lv' := [(5, .int (σ.1 4 0)), (0, .ref (ad 4)), (1, .int x1), (2, .int x2), (3, .int x3), (4, .int x4)]) hx hb dX4_add_4 hl (by decide) rfl (fun ls hl => ?_)
  refine lv_iload hx hb dX4_add_6 (lv_at hl 0 rfl) ?_
  refine lv_bipush (v := 40) hx hb dX4_add_8 (by decide) ?_
  refine lv_icmp_ge (tgt := 56) hx hb dX4_add_10 (by decide) (fun c_1 => ?_) (fun c_1 => ?_)
  · have hf := ite_t c_1 hf
    refine lv_iload hx hb dX4_add_56 (lv_at hl 0 rfl) ?_
    exact z_iret hx hb hr hlocks hZ (sp_1 hf) (sp_2 hf) dX4_add_58
  · have hf := ite_f c_1 hf
    refine lv_aload_n hx hb dX4_add_13 rfl (lv_at hl 1 rfl) ?_
    refine z_get hx hb htt iw_X4 hown hZ 4 rfl rfl 0 (by decide) lf_X4_9 rfl dX4_add_14 ?_
    refine lv_iload hx hb dX4_add_17 (lv_at hl 0 rfl) ?_
    refine lv_iload_n hx hb dX4_add_19 rfl (lv_at hl 2 rfl) ?_
    obtain ⟨h_2, hf⟩ := ck_s hf
    refine z_ist (σ' := st σ 14 ((σ.1 4 0)).toNatClampNeg x1) hx hb hZ 14 8 rfl rfl h_2 dX4_add_20 rfl (fun σ3 H locs e_σ3 hZ => ?_)
    have hf := lt_n e_σ3 hf
    refine lv_aload_n hx hb dX4_add_21 rfl (lv_at hl 1 rfl) ?_
    refine z_get hx hb htt iw_X4 hown hZ 4 rfl rfl 1 (by decide) lf_X4_15 rfl dX4_add_22 ?_
    refine lv_iload hx hb dX4_add_25 (lv_at hl 0 rfl) ?_
    refine lv_iload_n hx hb dX4_add_27 rfl (lv_at hl 3 rfl) ?_
    obtain ⟨h_4, hf⟩ := ck_s hf
    refine z_ist (σ' := st σ3 15 ((σ.1 4 0)).toNatClampNeg x2) hx hb hZ 15 9 rfl rfl h_4 dX4_add_28 rfl (fun σ5 H locs e_σ5 hZ => ?_)
    have hf := lt_n e_σ5 hf
    refine lv_aload_n hx hb dX4_add_29 rfl (lv_at hl 1 rfl) ?_
    refine z_get hx hb htt iw_X4 hown hZ 4 rfl rfl 2 (by decide) lf_X4_18 rfl dX4_add_30 ?_
    refine lv_iload hx hb dX4_add_33 (lv_at hl 0 rfl) ?_
    refine lv_iload_n hx hb dX4_add_35 rfl (lv_at hl 4 rfl) ?_
    obtain ⟨h_6, hf⟩ := ck_s hf
    refine z_ist (σ' := st σ5 16 ((σ.1 4 0)).toNatClampNeg x3) hx hb hZ 16 10 rfl rfl h_6 dX4_add_36 rfl (fun σ7 H locs e_σ7 hZ => ?_)
    have hf := lt_n e_σ7 hf
    refine lv_aload_n hx hb dX4_add_37 rfl (lv_at hl 1 rfl) ?_
    refine z_get hx hb htt iw_X4 hown hZ 4 rfl rfl 3 (by decide) lf_X4_21 rfl dX4_add_38 ?_
    refine lv_iload hx hb dX4_add_41 (lv_at hl 0 rfl) ?_
    refine lv_iload hx hb dX4_add_43 (lv_at hl 5 rfl) ?_
    obtain ⟨h_8, hf⟩ := ck_s hf
    refine z_ist (σ' := st σ7 17 ((σ.1 4 0)).toNatClampNeg x4) hx hb hZ 17 11 rfl rfl h_8 dX4_add_45 rfl (fun σ9 H locs e_σ9 hZ => ?_)
    have hf := lt_n e_σ9 hf
    refine lv_aload_n hx hb dX4_add_46 rfl (lv_at hl 1 rfl) ?_
    refine lv_dup hx hb dX4_add_47 rfl ?_
    refine z_get hx hb htt iw_X4 hown hZ 4 rfl rfl 4 (by decide) lf_X4_24 rfl dX4_add_48 ?_
    refine lv_iconst (v := 1) hx hb dX4_add_51 (by decide) ?_
    refine lv_iadd hx hb dX4_add_52 ?_
    refine z_put (σ' := st σ9 4 0 ((σ9.1 4 0) + 1)) hx hb htt iw_X4 tyX4 to_X4 nm_X4 hown hZ 4 rfl rfl 4 (by decide) lf_X4_24 rfl rfl rfl (Nat.le_of_ble_eq_true rfl) dX4_add_53 rfl (fun σ10 H locs e_σ10 hZ => ?_)
    have hf := lt_n e_σ10 hf
    refine lv_iload hx hb dX4_add_56 (lv_at hl 0 rfl) ?_
    exact z_iret hx hb hr hlocks hZ (sp_1 hf) (sp_2 hf) dX4_add_58
abbrev rm_X0_constraint : Room := { frames := 3, cells := 0, slots := 0, locals := 67 }
def fn_X0_constraint_118 (σ : S2) (x1 : Int32) (x2 : Int32) (x3 : Int32) (x4 : Int32) : Option (Int32 × S2) := lt (st σ 0 0 0) (fun σ1 => bn2 (fn_X4_add σ1 x1 x2 x3 x4) (fun r4 σ3 => some (r4, σ3)))
def fn_X0_constraint_103 (σ : S2) (x1 : Int32) (x2 : Int32) (x3 : Int32) (x4 : Int32) (x6 : Int32) : Option (Int32 × S2) := if x6 = 0 then fn_X0_constraint_118 σ x1 x2 x3 x4 else bn (fn_X2_join σ x1 x4) (fun σ3 => fn_X0_constraint_118 σ3 x1 x2 x3 x4)
def fn_X0_constraint_74 (σ : S2) (x1 : Int32) (x2 : Int32) (x3 : Int32) (x4 : Int32) (x5 : Int32) (x6 : Int32) : Option (Int32 × S2) := if (σ.1 4 0) < 40 then if x5 = 0 then fn_X0_constraint_103 σ x1 x2 x3 x4 x6 else bn (fn_X2_join σ x1 x3) (fun σ4 => fn_X0_constraint_103 σ4 x1 x2 x3 x4 x6) else some ((-3), σ)
def fn_X0_constraint_53 (σ : S2) (x1 : Int32) (x2 : Int32) (x3 : Int32) (x4 : Int32) (x5 : Int32) (x6 : Int32) : Option (Int32 × S2) := if x6 = 0 then fn_X0_constraint_74 σ x1 x2 x3 x4 x5 x6 else bn (fn_X2_leads σ x4 x1) (fun r3 => if r3 = 0 then fn_X0_constraint_74 σ x1 x2 x3 x4 x5 x6 else some ((-2), σ))
def fn_X0_constraint (σ : S2) (x1 : Int32) (x2 : Int32) (x3 : Int32) (x4 : Int32) : Option (Int32 × S2) := lt (fn_X2_has σ x1) (fun r1 => if r1 = 0 then some ((-1), σ) else lt (fn_X0_isConstraint σ x2 x3 x4) (fun r3 => if r3 = 0 then some ((-1), σ) else lt (fn_X0_namesShapeByA x2) (fun r5 => lt (fn_X0_namesShapeByB x2) (fun r6 => if r5 = 0 then fn_X0_constraint_53 σ x1 x2 x3 x4 r5 r6 else bn (fn_X2_leads σ x3 x1) (fun r9 => if r9 = 0 then fn_X0_constraint_53 σ x1 x2 x3 x4 r5 r6 else some ((-2), σ))))))
set_option maxHeartbeats 4000000 in
set_option maxRecDepth 100000 in
theorem wk_X0_constraint_118 {p : Program} {l : Launch} {e : Env} {s : State} {m : MethodId} {args : Array Value} {below : List Frame} {meth : Method} {c : Code} {D : va_G} {A : Nat → Prop} {ad : Nat → Nat} {cA : Nat → ClassId} {rs : va_W} {tr : List (ClassId × FieldType)} {res : Int32 × S2} (C0 : cx p m meth c cX0_constraint (some .int) 7 s args tb nl RX0) : ∀ (σ : S2) (x1 : Int32) (x2 : Int32) (x3 : Int32) (x4 : Int32), ∀ (H : Heap) (locs : List Loc) (ls : Array Slot), zz D vwCl (tyC cA tr) A (wC ad cA rs) s s.heap H locs σ → lv_has ls 7 [(0, .ref (ad 0)), (1, .int x1), (2, .int x2), (3, .int x3), (4, .int x4)] → fn_X0_constraint_118 σ x1 x2 x3 x4 = some res → W p l e rm_X0_constraint s m args below meth c H locs 0 0 (MQ below (va_Qi (fun r' u' => r' = res.1 ∧ u' = res.2) (zB D vwCl (tyC cA tr) A (wC ad cA rs)) A) args s 0 0 A) (F0 m 118 ls []) := by
  obtain ⟨hx, hb, hr, hml, hown, htt, hlocks, hnw⟩ := id C0
  intro σ x1 x2 x3 x4 H locs ls hZ hl hf
  unfold fn_X0_constraint_118 at hf
  refine lv_aload_n hx hb dX0_constraint_118 rfl (lv_at hl 0 rfl) ?_
  refine z_get hx hb htt iw_X0 hown hZ 0 rfl rfl 4 (by decide) lf_X0_42 rfl dX0_constraint_119 ?_
  refine lv_iconst (v := 0) hx hb dX0_constraint_122 (by decide) ?_
  refine z_putN (σ' := st σ 0 0 0) hx hb gN hnw htt iw_X5 tyX5 to_X5 nm_X5 hown hZ 5 rfl rfl 12 (by decide) lf_X0_61 rfl rfl rfl (Nat.le_of_ble_eq_true rfl) dX0_constraint_123 rfl (fun σ1 H locs e_σ1 hZ => ?_)
  have hf := lt_n e_σ1 hf
  refine lv_aload_n hx hb dX0_constraint_126 rfl (lv_at hl 0 rfl) ?_
  refine z_get hx hb htt iw_X0 hown hZ 0 rfl rfl 3 (by decide) lf_X0_33 rfl dX0_constraint_127 ?_
  refine lv_iload_n hx hb dX0_constraint_130 rfl (lv_at hl 1 rfl) ?_
  refine lv_iload_n hx hb dX0_constraint_131 rfl (lv_at hl 2 rfl) ?_
  refine lv_iload_n hx hb dX0_constraint_132 rfl (lv_at hl 3 rfl) ?_
  refine lv_iload hx hb dX0_constraint_133 (lv_at hl 4 rfl) ?_
  obtain ⟨r4, σ3, k_2, hf⟩ := bn2_s hf
  refine z_calli (r := r4) (u := σ3) (z_runVN (As := [.int x1, .int x2, .int x3, .int x4]) (rest := []) ⟨hx, hb, hml, hown, htt⟩ gT (ct_X4_add l D A ad cA rs tr σ1 x1 x2 x3 x4 k_2) md_X4_add hnw lm_X0_110 rfl rfl ⟨Nat.le_of_ble_eq_true rfl, Nat.le_of_ble_eq_true rfl⟩ (z_preV gN hnw hZ rfl (q0 := 4) (ci := 4) rfl) rfl rfl hl.1 rfl (lv_room (Nat.le_of_ble_eq_true rfl)) dX0_constraint_135 ⟨Nat.le_of_ble_eq_true rfl, Nat.le_of_ble_eq_true rfl⟩) hZ (fun H locs hZ => ?_)
  exact z_iret hx hb hr hlocks hZ (sp_1 hf) (sp_2 hf) dX0_constraint_138
set_option maxHeartbeats 4000000 in
set_option maxRecDepth 100000 in
theorem wk_X0_constraint_103 {p : Program} {l : Launch} {e : Env} {s : State} {m : MethodId} {args : Array Value} {below : List Frame} {meth : Method} {c : Code} {D : va_G} {A : Nat → Prop} {ad : Nat → Nat} {cA : Nat → ClassId} {rs : va_W} {tr : List (ClassId × FieldType)} {res : Int32 × S2} (C0 : cx p m meth c cX0_constraint (some .int) 7 s args tb nl RX0) : ∀ (σ : S2) (x1 : Int32) (x2 : Int32) (x3 : Int32) (x4 : Int32) (x6 : Int32), ∀ (H : Heap) (locs : List Loc) (ls : Array Slot), zz D vwCl (tyC cA tr) A (wC ad cA rs) s s.heap H locs σ → lv_has ls 7 [(0, .ref (ad 0)), (1, .int x1), (2, .int x2), (3, .int x3), (4, .int x4), (6, .int x6)] → fn_X0_constraint_103 σ x1 x2 x3 x4 x6 = some res → W p l e rm_X0_constraint s m args below meth c H locs 0 0 (MQ below (va_Qi (fun r' u' => r' = res.1 ∧ u' = res.2) (zB D vwCl (tyC cA tr) A (wC ad cA rs)) A) args s 0 0 A) (F0 m 103 ls []) := by
  obtain ⟨hx, hb, hr, hml, hown, htt, hlocks, hnw⟩ := id C0
  intro σ x1 x2 x3 x4 x6 H locs ls hZ hl hf
  unfold fn_X0_constraint_103 at hf
  refine lv_iload hx hb dX0_constraint_103 (lv_at hl 5 rfl) ?_
  refine lv_if_eq (tgt := 118) hx hb dX0_constraint_105 (by decide) (fun c_1 => ?_) (fun c_1 => ?_)
  · have hf := ite_t c_1 hf
    exact wk_X0_constraint_118 C0  σ x1 x2 x3 x4 _ _ _ hZ (lv_sub hl [0, 1, 2, 3, 4] rfl) hf
  · have hf := ite_f c_1 hf
    refine lv_aload_n hx hb dX0_constraint_108 rfl (lv_at hl 0 rfl) ?_
    refine z_get hx hb htt iw_X0 hown hZ 0 rfl rfl 1 (by decide) lf_X0_19 rfl dX0_constraint_109 ?_
    refine lv_iload_n hx hb dX0_constraint_112 rfl (lv_at hl 1 rfl) ?_
    refine lv_iload hx hb dX0_constraint_113 (lv_at hl 4 rfl) ?_
    obtain ⟨σ3, k_2, hf⟩ := bn_s hf
    refine z_callv (u := σ3) (z_runVN (As := [.int x1, .int x4]) (rest := []) ⟨hx, hb, hml, hown, htt⟩ gT (ct_X2_join l D A ad cA rs tr σ x1 x4 k_2) md_X2_join hnw lm_X0_106 rfl rfl ⟨Nat.le_of_ble_eq_true rfl, Nat.le_of_ble_eq_true rfl⟩ (z_preV gN hnw hZ rfl (q0 := 2) (ci := 2) rfl) rfl rfl hl.1 rfl (lv_room (Nat.le_of_ble_eq_true rfl)) dX0_constraint_115 ⟨Nat.le_of_ble_eq_true rfl, Nat.le_of_ble_eq_true rfl⟩) hZ (fun H locs hZ => ?_)
    exact wk_X0_constraint_118 C0  σ3 x1 x2 x3 x4 _ _ _ hZ (lv_sub hl [0, 1, 2, 3, 4] rfl) hf
set_option maxHeartbeats 4000000 in
set_option maxRecDepth 100000 in
theorem wk_X0_constraint_74 {p : Program} {l : Launch} {e : Env} {s : State} {m : MethodId} {args : Array Value} {below : List Frame} {meth : Method} {c : Code} {D : va_G} {A : Nat → Prop} {ad : Nat → Nat} {cA : Nat → ClassId} {rs : va_W} {tr : List (ClassId × FieldType)} {res : Int32 × S2} (C0 : cx p m meth c cX0_constraint (some .int) 7 s args tb nl RX0) : ∀ (σ : S2) (x1 : Int32) (x2 : Int32) (x3 : Int32) (x4 : Int32) (x5 : Int32) (x6 : Int32), ∀ (H : Heap) (locs : List Loc) (ls : Array Slot), zz D vwCl (tyC cA tr) A (wC ad cA rs) s s.heap H locs σ → lv_has ls 7 [(0, .ref (ad 0)), (1, .int x1), (2, .int x2), (3, .int x3), (4, .int x4), (5, .int x5), (6, .int x6)] → fn_X0_constraint_74 σ x1 x2 x3 x4 x5 x6 = some res → W p l e rm_X0_constraint s m args below meth c H locs 0 0 (MQ below (va_Qi (fun r' u' => r' = res.1 ∧ u' = res.2) (zB D vwCl (tyC cA tr) A (wC ad cA rs)) A) args s 0 0 A) (F0 m 74 ls []) := by
  obtain ⟨hx, hb, hr, hml, hown, htt, hlocks, hnw⟩ := id C0
  intro σ x1 x2 x3 x4 x5 x6 H locs ls hZ hl hf
  unfold fn_X0_constraint_74 at hf
  refine lv_aload_n hx hb dX0_constraint_74 rfl (lv_at hl 0 rfl) ?_
  refine z_get hx hb htt iw_X0 hown hZ 0 rfl rfl 3 (by decide) lf_X0_33 rfl dX0_constraint_75 ?_
  refine z_getN hx hb gN hnw htt iw_X4 hown hZ 4 rfl rfl 4 (by decide) lf_X0_105 rfl dX0_constraint_78 ?_
  refine lv_bipush (v := 40) hx hb dX0_constraint_81 (by decide) ?_
  refine lv_icmp_lt (tgt := 89) hx hb dX0_constraint_83 (by decide) (fun c_1 => ?_) (fun c_1 => ?_)
  · have hf := ite_t c_1 hf
    refine lv_iload hx hb dX0_constraint_89 (lv_at hl 5 rfl) ?_
    refine lv_if_eq (tgt := 103) hx hb dX0_constraint_91 (by decide) (fun c_2 => ?_) (fun c_2 => ?_)
    · have hf := ite_t c_2 hf
      exact wk_X0_constraint_103 C0  σ x1 x2 x3 x4 x6 _ _ _ hZ (lv_sub hl [0, 1, 2, 3, 4, 6] rfl) hf
    · have hf := ite_f c_2 hf
      refine lv_aload_n hx hb dX0_constraint_94 rfl (lv_at hl 0 rfl) ?_
      refine z_get hx hb htt iw_X0 hown hZ 0 rfl rfl 1 (by decide) lf_X0_19 rfl dX0_constraint_95 ?_
      refine lv_iload_n hx hb dX0_constraint_98 rfl (lv_at hl 1 rfl) ?_
      refine lv_iload_n hx hb dX0_constraint_99 rfl (lv_at hl 3 rfl) ?_
      obtain ⟨σ4, k_3, hf⟩ := bn_s hf
      refine z_callv (u := σ4) (z_runVN (As := [.int x1, .int x3]) (rest := []) ⟨hx, hb, hml, hown, htt⟩ gT (ct_X2_join l D A ad cA rs tr σ x1 x3 k_3) md_X2_join hnw lm_X0_106 rfl rfl ⟨Nat.le_of_ble_eq_true rfl, Nat.le_of_ble_eq_true rfl⟩ (z_preV gN hnw hZ rfl (q0 := 2) (ci := 2) rfl) rfl rfl hl.1 rfl (lv_room (Nat.le_of_ble_eq_true rfl)) dX0_constraint_100 ⟨Nat.le_of_ble_eq_true rfl, Nat.le_of_ble_eq_true rfl⟩) hZ (fun H locs hZ => ?_)
      exact wk_X0_constraint_103 C0  σ4 x1 x2 x3 x4 x6 _ _ _ hZ (lv_sub hl [0, 1, 2, 3, 4, 6] rfl) hf
  · have hf := ite_f c_1 hf
    refine lv_bipush (v := (-3)) hx hb dX0_constraint_86 (by decide) ?_
    exact z_iret hx hb hr hlocks hZ (sp_1 hf) (sp_2 hf) dX0_constraint_88
set_option maxHeartbeats 4000000 in
set_option maxRecDepth 100000 in
theorem wk_X0_constraint_53 {p : Program} {l : Launch} {e : Env} {s : State} {m : MethodId} {args : Array Value} {below : List Frame} {meth : Method} {c : Code} {D : va_G} {A : Nat → Prop} {ad : Nat → Nat} {cA : Nat → ClassId} {rs : va_W} {tr : List (ClassId × FieldType)} {res : Int32 × S2} (C0 : cx p m meth c cX0_constraint (some .int) 7 s args tb nl RX0) : ∀ (σ : S2) (x1 : Int32) (x2 : Int32) (x3 : Int32) (x4 : Int32) (x5 : Int32) (x6 : Int32), ∀ (H : Heap) (locs : List Loc) (ls : Array Slot), zz D vwCl (tyC cA tr) A (wC ad cA rs) s s.heap H locs σ → lv_has ls 7 [(0, .ref (ad 0)), (1, .int x1), (2, .int x2), (3, .int x3), (4, .int x4), (5, .int x5), (6, .int x6)] → fn_X0_constraint_53 σ x1 x2 x3 x4 x5 x6 = some res → W p l e rm_X0_constraint s m args below meth c H locs 0 0 (MQ below (va_Qi (fun r' u' => r' = res.1 ∧ u' = res.2) (zB D vwCl (tyC cA tr) A (wC ad cA rs)) A) args s 0 0 A) (F0 m 53 ls []) := by
  obtain ⟨hx, hb, hr, hml, hown, htt, hlocks, hnw⟩ := id C0
  intro σ x1 x2 x3 x4 x5 x6 H locs ls hZ hl hf
  unfold fn_X0_constraint_53 at hf
  refine lv_iload hx hb dX0_constraint_53 (lv_at hl 6 rfl) ?_
  refine lv_if_eq (tgt := 74) hx hb dX0_constraint_55 (by decide) (fun c_1 => ?_) (fun c_1 => ?_)
  · have hf := ite_t c_1 hf
    exact wk_X0_constraint_74 C0  σ x1 x2 x3 x4 x5 x6 _ _ _ hZ (lv_sub hl [0, 1, 2, 3, 4, 5, 6] rfl) hf
  · have hf := ite_f c_1 hf
    refine lv_aload_n hx hb dX0_constraint_58 rfl (lv_at hl 0 rfl) ?_
    refine z_get hx hb htt iw_X0 hown hZ 0 rfl rfl 1 (by decide) lf_X0_19 rfl dX0_constraint_59 ?_
    refine lv_iload hx hb dX0_constraint_62 (lv_at hl 4 rfl) ?_
    refine lv_iload_n hx hb dX0_constraint_64 rfl (lv_at hl 1 rfl) ?_
    obtain ⟨r3, k_2, hf⟩ := bn_s hf
    refine z_calli (z_runVN (As := [.int x4, .int x1]) (rest := []) ⟨hx, hb, hml, hown, htt⟩ gT (ct_X2_leads l D A ad cA rs tr σ x4 x1 k_2) md_X2_leads hnw lm_X0_102 rfl rfl ⟨Nat.le_of_ble_eq_true rfl, Nat.le_of_ble_eq_true rfl⟩ (z_preV gN hnw hZ rfl (q0 := 2) (ci := 2) rfl) rfl rfl hl.1 rfl (lv_room (Nat.le_of_ble_eq_true rfl)) dX0_constraint_65 ⟨Nat.le_of_ble_eq_true rfl, Nat.le_of_ble_eq_true rfl⟩) hZ (fun H locs hZ => ?_)
    refine lv_if_eq (tgt := 74) hx hb dX0_constraint_68 (by decide) (fun c_4 => ?_) (fun c_4 => ?_)
    · have hf := ite_t c_4 hf
      exact wk_X0_constraint_74 C0  σ x1 x2 x3 x4 x5 x6 _ _ _ hZ (lv_sub hl [0, 1, 2, 3, 4, 5, 6] rfl) hf
    · have hf := ite_f c_4 hf
      refine lv_bipush (v := (-2)) hx hb dX0_constraint_71 (by decide) ?_
      exact z_iret hx hb hr hlocks hZ (sp_1 hf) (sp_2 hf) dX0_constraint_73
set_option maxHeartbeats 4000000 in
set_option maxRecDepth 100000 in
theorem ct_X0_constraint (l : Launch) (D : va_G) (A : Nat → Prop) (ad : Nat → Nat) (cA : Nat → ClassId) (rs : va_W) (tr : List (ClassId × FieldType)) (σ : S2) (x1 : Int32) (x2 : Int32) (x3 : Int32) (x4 : Int32) {res : Int32 × S2} (hf : fn_X0_constraint σ x1 x2 x3 x4 = some res) : Met l yX0_constraint (.code yX0_constraint cX0_constraint 7 (some .int) :: tb) rm_X0_constraint (va_Pc [.ref (ad 0), .int x1, .int x2, .int x3, .int x4] (zN D vwCl (tyC cA tr) A (wC ad cA rs) nl σ)) (va_Qi (fun r' u' => r' = res.1 ∧ u' = res.2) (zB D vwCl (tyC cA tr) A (wC ad cA rs)) A) 0 0 A := by
  refine Met.ofW (cc := cX0_constraint) (maxL := 7) (ret := (some .int)) (by decide) rfl ?_
  intro p e s m args below meth c s₁ B hml hv
  obtain ⟨rfl, hB, hnw0⟩ := hv
  have htt : ∀ w ∈ tb, w.before (([.ref (ad 0), .int x1, .int x2, .int x3, .int x4] : List Value).toArray) s = true := fun w h => atoms_spec (ws := (.code yX0_constraint cX0_constraint 7 (some .int) :: tb)) B.pre w (List.mem_cons_of_mem _ h)
  have C0 : cx p m meth c cX0_constraint (some .int) 7 s (([.ref (ad 0), .int x1, .int x2, .int x3, .int x4] : List Value).toArray) tb nl RX0 := ⟨B.exec, B.bytes, B.returns, hml, findClass_of_methodNamed B.named, htt, B.notSynchronized, hnw0⟩
  obtain ⟨hx, hb, hr, hml, hown, htt, hlocks, hnw⟩ := id C0
  have hZ := z_start hB
  have hl := lv_entry ([.ref (ad 0), .int x1, .int x2, .int x3, .int x4]) (n := 7) (Nat.le_of_ble_eq_true rfl)
  rw [lg_entry_eq]
  generalize (lg_sl ([.ref (ad 0), .int x1, .int x2, .int x3, .int x4]) ++ List.replicate (7 - (lg_sl ([.ref (ad 0), .int x1, .int x2, .int x3, .int x4])).length) Slot.unset).toArray = ls at hl ⊢
  have hl : lv_has ls 7 [(0, .ref (ad 0)), (1, .int x1), (2, .int x2), (3, .int x3), (4, .int x4)] := hl
  unfold fn_X0_constraint at hf
  refine lv_aload_n hx hb dX0_constraint_0 rfl (lv_at hl 0 rfl) ?_
  refine z_get hx hb htt iw_X0 hown hZ 0 rfl rfl 1 (by decide) lf_X0_19 rfl dX0_constraint_1 ?_
  refine lv_iload_n hx hb dX0_constraint_4 rfl (lv_at hl 1 rfl) ?_
  refine z_calli (z_runVN (As := [.int x1]) (rest := []) ⟨hx, hb, hml, hown, htt⟩ gT (ct_X2_has l D A ad cA rs tr σ x1 rfl) md_X2_has hnw lm_X0_73 rfl rfl ⟨Nat.le_of_ble_eq_true rfl, Nat.le_of_ble_eq_true rfl⟩ (z_preV gN hnw hZ rfl (q0 := 2) (ci := 2) rfl) rfl rfl hl.1 rfl (lv_room (Nat.le_of_ble_eq_true rfl)) dX0_constraint_5 ⟨Nat.le_of_ble_eq_true rfl, Nat.le_of_ble_eq_true rfl⟩) hZ (fun H locs hZ => ?_)
  refine lv_topi (fun r1 e_r1 => ?_)
  have hf := lt_n e_r1 hf
  refine lv_if_eq (tgt := 22) hx hb dX0_constraint_8 (by decide) (fun c_2 => ?_) (fun c_2 => ?_)
  · have hf := ite_t c_2 hf
    refine lv_iconst (v := (-1)) hx hb dX0_constraint_22 (by decide) ?_
    exact z_iret hx hb hr hlocks hZ (sp_1 hf) (sp_2 hf) dX0_constraint_23
  · have hf := ite_f c_2 hf
    refine lv_aload_n hx hb dX0_constraint_11 rfl (lv_at hl 0 rfl) ?_
    refine lv_iload_n hx hb dX0_constraint_12 rfl (lv_at hl 2 rfl) ?_
    refine lv_iload_n hx hb dX0_constraint_13 rfl (lv_at hl 3 rfl) ?_
    refine lv_iload hx hb dX0_constraint_14 (lv_at hl 4 rfl) ?_
    refine z_calli (z_runV (As := [.int x2, .int x3, .int x4]) (rest := []) ⟨hx, hb, hml, hown, htt⟩ gT (ct_X0_isConstraint l D A ad cA rs tr σ x2 x3 x4 rfl) md_X0_isConstraint lm_X0_93 rfl rfl ⟨Nat.le_of_ble_eq_true rfl, Nat.le_of_ble_eq_true rfl⟩ (z_preV gN hnw hZ rfl (q0 := 0) (ci := 0) rfl) rfl rfl hl.1 rfl (lv_room (Nat.le_of_ble_eq_true rfl)) dX0_constraint_16 ⟨Nat.le_of_ble_eq_true rfl, Nat.le_of_ble_eq_true rfl⟩) hZ (fun H locs hZ => ?_)
    refine lv_topi (fun r3 e_r3 => ?_)
    have hf := lt_n e_r3 hf
    refine lv_if_ne (tgt := 24) hx hb dX0_constraint_19 (by decide) (fun c_4 => ?_) (fun c_4 => ?_)
    · have hf := ite_f c_4 hf
      refine lv_iload_n hx hb dX0_constraint_24 rfl (lv_at hl 2 rfl) ?_
      refine z_pcalli (z_runS (As := [.int x2]) (rest := []) ⟨hx, hb, hml, hown, htt⟩ gT (ct_X0_namesShapeByA l x2 rfl) md_X0_namesShapeByA lm_X0_96 rfl rfl ⟨Nat.le_of_ble_eq_true rfl, Nat.le_of_ble_eq_true rfl⟩ z_preP rfl rfl hl.1 rfl (lv_room (Nat.le_of_ble_eq_true rfl)) dX0_constraint_25 ⟨Nat.le_of_ble_eq_true rfl, Nat.le_of_ble_eq_true rfl⟩) ?_
      refine lv_topi (fun r5 e_r5 => ?_)
      have hf := lt_n e_r5 hf
      refine lv_istore (lv' := [(5, .int r5), (0, .ref (ad 0)), (1, .int x1), (2, .int x2), (3, .int x3), (4, .int x4)]) hx hb dX0_constraint_28 hl (by decide) rfl (fun ls hl => ?_)
      refine lv_iload_n hx hb dX0_constraint_30 rfl (lv_at hl 3 rfl) ?_
      refine z_pcalli (z_runS (As := [.int x2]) (rest := []) ⟨hx, hb, hml, hown, htt⟩ gT (ct_X0_namesShapeByB l x2 rfl) md_X0_namesShapeByB lm_X0_99 rfl rfl ⟨Nat.le_of_ble_eq_true rfl, Nat.le_of_ble_eq_true rfl⟩ z_preP rfl rfl hl.1 rfl (lv_room (Nat.le_of_ble_eq_true rfl)) dX0_constraint_31 ⟨Nat.le_of_ble_eq_true rfl, Nat.le_of_ble_eq_true rfl⟩) ?_
      refine lv_topi (fun r6 e_r6 => ?_)
      have hf := lt_n e_r6 hf
      refine lv_istore (lv' := [(6, .int r6), (5, .int r5), (0, .ref (ad 0)), (1, .int x1), (2, .int x2), (3, .int x3), (4, .int x4)]) hx hb dX0_constraint_34 hl (by decide) rfl (fun ls hl => ?_)
      refine lv_iload hx hb dX0_constraint_36 (lv_at hl 1 rfl) ?_
      refine lv_if_eq (tgt := 53) hx hb dX0_constraint_38 (by decide) (fun c_7 => ?_) (fun c_7 => ?_)
      · have hf := ite_t c_7 hf
        exact wk_X0_constraint_53 C0  σ x1 x2 x3 x4 r5 r6 _ _ _ hZ (lv_sub hl [2, 3, 4, 5, 6, 1, 0] rfl) hf
      · have hf := ite_f c_7 hf
        refine lv_aload_n hx hb dX0_constraint_41 rfl (lv_at hl 2 rfl) ?_
        refine z_get hx hb htt iw_X0 hown hZ 0 rfl rfl 1 (by decide) lf_X0_19 rfl dX0_constraint_42 ?_
        refine lv_iload_n hx hb dX0_constraint_45 rfl (lv_at hl 5 rfl) ?_
        refine lv_iload_n hx hb dX0_constraint_46 rfl (lv_at hl 3 rfl) ?_
        obtain ⟨r9, k_8, hf⟩ := bn_s hf
        refine z_calli (z_runVN (As := [.int x3, .int x1]) (rest := []) ⟨hx, hb, hml, hown, htt⟩ gT (ct_X2_leads l D A ad cA rs tr σ x3 x1 k_8) md_X2_leads hnw lm_X0_102 rfl rfl ⟨Nat.le_of_ble_eq_true rfl, Nat.le_of_ble_eq_true rfl⟩ (z_preV gN hnw hZ rfl (q0 := 2) (ci := 2) rfl) rfl rfl hl.1 rfl (lv_room (Nat.le_of_ble_eq_true rfl)) dX0_constraint_47 ⟨Nat.le_of_ble_eq_true rfl, Nat.le_of_ble_eq_true rfl⟩) hZ (fun H locs hZ => ?_)
        refine lv_if_ne (tgt := 71) hx hb dX0_constraint_50 (by decide) (fun c_10 => ?_) (fun c_10 => ?_)
        · have hf := ite_f c_10 hf
          refine lv_bipush (v := (-2)) hx hb dX0_constraint_71 (by decide) ?_
          exact z_iret hx hb hr hlocks hZ (sp_1 hf) (sp_2 hf) dX0_constraint_73
        · have hf := ite_t c_10 hf
          exact wk_X0_constraint_53 C0  σ x1 x2 x3 x4 r5 r6 _ _ _ hZ (lv_sub hl [2, 3, 4, 5, 6, 1, 0] rfl) hf
    · have hf := ite_t c_4 hf
      refine lv_iconst (v := (-1)) hx hb dX0_constraint_22 (by decide) ?_
      exact z_iret hx hb hr hlocks hZ (sp_1 hf) (sp_2 hf) dX0_constraint_23
abbrev rm_J0_bitCount : Room := { frames := 0, cells := 0, slots := 0, locals := 0 }
def fn_J0_bitCount (x0 : Int32) : Int32 := lt ((x0 - ((ush x0 1) &&& 1431655765))) (fun v1 => lt (((v1 &&& 858993459) + ((ush v1 2) &&& 858993459))) (fun v2 => lt (((v2 + (ush v2 4)) &&& 252645135)) (fun v3 => lt ((v3 + (ush v3 8))) (fun v4 => lt ((v4 + (ush v4 16))) (fun v5 => (v5 &&& 63))))))
set_option maxHeartbeats 4000000 in
set_option maxRecDepth 100000 in
theorem ct_J0_bitCount (l : Launch) (x0 : Int32) {res : Int32} (hf : fn_J0_bitCount x0 = res) : Met l yJ0_bitCount (.code yJ0_bitCount cJ0_bitCount 1 (some .int) :: tb) rm_J0_bitCount (va_Pc [.int x0] (fun _ => True)) (vp_Si (fun r' => r' = res)) 0 0 (fun _ => False) := by
  refine Met.ofW (cc := cJ0_bitCount) (maxL := 1) (ret := (some .int)) (by decide) rfl ?_
  intro p e s m args below meth c s₁ B hml hv
  obtain ⟨rfl, hB⟩ := hv
  have htt : ∀ w ∈ tb, w.before (([.int x0] : List Value).toArray) s = true := fun w h => atoms_spec (ws := (.code yJ0_bitCount cJ0_bitCount 1 (some .int) :: tb)) B.pre w (List.mem_cons_of_mem _ h)
  have C0 : cx p m meth c cJ0_bitCount (some .int) 1 s (([.int x0] : List Value).toArray) tb [] RJ0 := ⟨B.exec, B.bytes, B.returns, hml, findClass_of_methodNamed B.named, htt, B.notSynchronized, fun _ h => absurd h List.not_mem_nil⟩
  obtain ⟨hx, hb, hr, hml, hown, htt, hlocks, hnw⟩ := id C0
  have hl := lv_entry ([.int x0]) (n := 1) (Nat.le_of_ble_eq_true rfl)
  rw [lg_entry_eq]
  generalize (lg_sl ([.int x0]) ++ List.replicate (1 - (lg_sl ([.int x0])).length) Slot.unset).toArray = ls at hl ⊢
  have hl : lv_has ls 1 [(0, .int x0)] := hl
  unfold fn_J0_bitCount at hf
  refine lv_iload_n hx hb dJ0_bitCount_0 rfl (lv_at hl 0 rfl) ?_
  refine lv_iload_n hx hb dJ0_bitCount_1 rfl (lv_at hl 0 rfl) ?_
  refine lv_iconst (v := 1) hx hb dJ0_bitCount_2 (by decide) ?_
  refine lv_iushr (v := ush x0 1) hx hb dJ0_bitCount_3 rfl ?_
  refine lv_ldcw hx hb hown (htt _ lc_J0_265) dJ0_bitCount_4 ?_
  refine lv_iand hx hb dJ0_bitCount_7 ?_
  refine lv_isub hx hb dJ0_bitCount_8 ?_
  refine lv_topi (fun v1 e_v1 => ?_)
  have hf := lt_n e_v1 hf
  refine lv_istore_n (lv' := [(0, .int v1)]) hx hb dJ0_bitCount_9 rfl hl (by decide) rfl (fun ls hl => ?_)
  refine lv_iload_n hx hb dJ0_bitCount_10 rfl (lv_at hl 0 rfl) ?_
  refine lv_ldcw hx hb hown (htt _ lc_J0_266) dJ0_bitCount_11 ?_
  refine lv_iand hx hb dJ0_bitCount_14 ?_
  refine lv_iload_n hx hb dJ0_bitCount_15 rfl (lv_at hl 0 rfl) ?_
  refine lv_iconst (v := 2) hx hb dJ0_bitCount_16 (by decide) ?_
  refine lv_iushr (v := ush v1 2) hx hb dJ0_bitCount_17 rfl ?_
  refine lv_ldcw hx hb hown (htt _ lc_J0_266) dJ0_bitCount_18 ?_
  refine lv_iand hx hb dJ0_bitCount_21 ?_
  refine lv_iadd hx hb dJ0_bitCount_22 ?_
  refine lv_topi (fun v2 e_v2 => ?_)
  have hf := lt_n e_v2 hf
  refine lv_istore_n (lv' := [(0, .int v2)]) hx hb dJ0_bitCount_23 rfl hl (by decide) rfl (fun ls hl => ?_)
  refine lv_iload_n hx hb dJ0_bitCount_24 rfl (lv_at hl 0 rfl) ?_
  refine lv_iload_n hx hb dJ0_bitCount_25 rfl (lv_at hl 0 rfl) ?_
  refine lv_iconst (v := 4) hx hb dJ0_bitCount_26 (by decide) ?_
  refine lv_iushr (v := ush v2 4) hx hb dJ0_bitCount_27 rfl ?_
  refine lv_iadd hx hb dJ0_bitCount_28 ?_
  refine lv_ldcw hx hb hown (htt _ lc_J0_267) dJ0_bitCount_29 ?_
  refine lv_iand hx hb dJ0_bitCount_32 ?_
  refine lv_topi (fun v3 e_v3 => ?_)
  have hf := lt_n e_v3 hf
  refine lv_istore_n (lv' := [(0, .int v3)]) hx hb dJ0_bitCount_33 rfl hl (by decide) rfl (fun ls hl => ?_)
  refine lv_iload_n hx hb dJ0_bitCount_34 rfl (lv_at hl 0 rfl) ?_
  refine lv_iload_n hx hb dJ0_bitCount_35 rfl (lv_at hl 0 rfl) ?_
  refine lv_bipush (v := 8) hx hb dJ0_bitCount_36 (by decide) ?_
  refine lv_iushr (v := ush v3 8) hx hb dJ0_bitCount_38 rfl ?_
  refine lv_iadd hx hb dJ0_bitCount_39 ?_
  refine lv_topi (fun v4 e_v4 => ?_)
  have hf := lt_n e_v4 hf
  refine lv_istore_n (lv' := [(0, .int v4)]) hx hb dJ0_bitCount_40 rfl hl (by decide) rfl (fun ls hl => ?_)
  refine lv_iload_n hx hb dJ0_bitCount_41 rfl (lv_at hl 0 rfl) ?_
  refine lv_iload_n hx hb dJ0_bitCount_42 rfl (lv_at hl 0 rfl) ?_
  refine lv_bipush (v := 16) hx hb dJ0_bitCount_43 (by decide) ?_
  refine lv_iushr (v := ush v4 16) hx hb dJ0_bitCount_45 rfl ?_
  refine lv_iadd hx hb dJ0_bitCount_46 ?_
  refine lv_topi (fun v5 e_v5 => ?_)
  have hf := lt_n e_v5 hf
  refine lv_istore_n (lv' := [(0, .int v5)]) hx hb dJ0_bitCount_47 rfl hl (by decide) rfl (fun ls hl => ?_)
  refine lv_iload_n hx hb dJ0_bitCount_48 rfl (lv_at hl 0 rfl) ?_
  refine lv_bipush (v := 63) hx hb dJ0_bitCount_49 (by decide) ?_
  refine lv_iand hx hb dJ0_bitCount_51 ?_
  exact z_piret hx hb hr hlocks hf dJ0_bitCount_52
abbrev rm_X2_height : Room := { frames := 1, cells := 0, slots := 0, locals := 21 }
def fn_X2_height (σ : S2) (x1 : Int32) : Option (Int32) := lt (fn_X2_has σ x1) (fun r1 => if r1 = 0 then some 0 else ck x1 12 (lt (fn_J0_bitCount (σ.1 10 (x1).toNatClampNeg)) (fun r4 => some r4)))
set_option maxHeartbeats 4000000 in
set_option maxRecDepth 100000 in
theorem ct_X2_height (l : Launch) (D : va_G) (A : Nat → Prop) (ad : Nat → Nat) (cA : Nat → ClassId) (rs : va_W) (tr : List (ClassId × FieldType)) (σ : S2) (x1 : Int32) {res : Int32} (hf : fn_X2_height σ x1 = some res) : Met l yX2_height (.code yX2_height cX2_height 2 (some .int) :: tb) rm_X2_height (va_Pc [.ref (ad 2), .int x1] (zN D vwCl (tyC cA tr) A (wC ad cA rs) nl σ)) (va_Qi (fun r' u' => r' = res ∧ u' = σ) (zB D vwCl (tyC cA tr) A (wC ad cA rs)) A) 0 0 A := by
  refine Met.ofW (cc := cX2_height) (maxL := 2) (ret := (some .int)) (by decide) rfl ?_
  intro p e s m args below meth c s₁ B hml hv
  obtain ⟨rfl, hB, hnw0⟩ := hv
  have htt : ∀ w ∈ tb, w.before (([.ref (ad 2), .int x1] : List Value).toArray) s = true := fun w h => atoms_spec (ws := (.code yX2_height cX2_height 2 (some .int) :: tb)) B.pre w (List.mem_cons_of_mem _ h)
  have C0 : cx p m meth c cX2_height (some .int) 2 s (([.ref (ad 2), .int x1] : List Value).toArray) tb nl RX2 := ⟨B.exec, B.bytes, B.returns, hml, findClass_of_methodNamed B.named, htt, B.notSynchronized, hnw0⟩
  obtain ⟨hx, hb, hr, hml, hown, htt, hlocks, hnw⟩ := id C0
  have hZ := z_start hB
  have hl := lv_entry ([.ref (ad 2), .int x1]) (n := 2) (Nat.le_of_ble_eq_true rfl)
  rw [lg_entry_eq]
  generalize (lg_sl ([.ref (ad 2), .int x1]) ++ List.replicate (2 - (lg_sl ([.ref (ad 2), .int x1])).length) Slot.unset).toArray = ls at hl ⊢
  have hl : lv_has ls 2 [(0, .ref (ad 2)), (1, .int x1)] := hl
  unfold fn_X2_height at hf
  refine lv_aload_n hx hb dX2_height_0 rfl (lv_at hl 0 rfl) ?_
  refine lv_iload_n hx hb dX2_height_1 rfl (lv_at hl 1 rfl) ?_
  refine z_calli (z_runV (As := [.int x1]) (rest := []) ⟨hx, hb, hml, hown, htt⟩ gT (ct_X2_has l D A ad cA rs tr σ x1 rfl) md_X2_has lm_X2_25 rfl rfl ⟨Nat.le_of_ble_eq_true rfl, Nat.le_of_ble_eq_true rfl⟩ (z_preV gN hnw hZ rfl (q0 := 2) (ci := 2) rfl) rfl rfl hl.1 rfl (lv_room (Nat.le_of_ble_eq_true rfl)) dX2_height_2 ⟨Nat.le_of_ble_eq_true rfl, Nat.le_of_ble_eq_true rfl⟩) hZ (fun H locs hZ => ?_)
  refine lv_topi (fun r1 e_r1 => ?_)
  have hf := lt_n e_r1 hf
  refine lv_if_eq (tgt := 20) hx hb dX2_height_5 (by decide) (fun c_2 => ?_) (fun c_2 => ?_)
  · have hf := ite_t c_2 hf
    refine lv_iconst (v := 0) hx hb dX2_height_20 (by decide) ?_
    exact z_iret hx hb hr hlocks hZ (Option.some.inj hf) rfl dX2_height_21
  · have hf := ite_f c_2 hf
    refine lv_aload_n hx hb dX2_height_8 rfl (lv_at hl 0 rfl) ?_
    refine z_get hx hb htt iw_X2 hown hZ 2 rfl rfl 2 (by decide) lf_X2_18 rfl dX2_height_9 ?_
    refine lv_iload_n hx hb dX2_height_12 rfl (lv_at hl 1 rfl) ?_
    obtain ⟨h_3, hf⟩ := ck_s hf
    refine z_ild hx hb hZ 10 4 rfl rfl h_3 dX2_height_13 ?_
    refine z_pcalli (z_runS (As := [.int (σ.1 10 (x1).toNatClampNeg)]) (rest := []) ⟨hx, hb, hml, hown, htt⟩ gT (ct_J0_bitCount l (σ.1 10 (x1).toNatClampNeg) rfl) md_J0_bitCount lm_X2_36 rfl rfl ⟨Nat.le_of_ble_eq_true rfl, Nat.le_of_ble_eq_true rfl⟩ z_preP rfl rfl hl.1 rfl (lv_room (Nat.le_of_ble_eq_true rfl)) dX2_height_14 ⟨Nat.le_of_ble_eq_true rfl, Nat.le_of_ble_eq_true rfl⟩) ?_
    refine lv_topi (fun r4 e_r4 => ?_)
    have hf := lt_n e_r4 hf
    refine lv_goto (tgt := 21) hx hb dX2_height_17 (by decide) ?_
    exact z_iret hx hb hr hlocks hZ (Option.some.inj hf) rfl dX2_height_21
abbrev rm_X1_termsBackOfAny : Room := { frames := 0, cells := 0, slots := 0, locals := 0 }
def fn_X1_termsBackOfAny_5 : Nat → S2 → Int32 → Int32 → Int32 → Int32 → Option (Int32)
  | 0, _, _, _, _, _ => none
  | n + 1, σ, x1, x2, x3, x4 => if 32 ≤ x4 then some x3 else if x2 < 0 then some x3 else if 8 ≤ x2 then some x3 else if ((ush x1 x4) &&& 1) = 0 then lt (x4 + 1) (fun v5 => fn_X1_termsBackOfAny_5 n σ x1 x2 x3 v5) else ck ((x4 * 8) + x2) 256 (lt ((x3 ||| (σ.1 7 (((x4 * 8) + x2)).toNatClampNeg))) (fun v7 => lt (x4 + 1) (fun v8 => fn_X1_termsBackOfAny_5 n σ x1 x2 v7 v8)))
def fn_X1_termsBackOfAny (σ : S2) (x1 : Int32) (x2 : Int32) : Option (Int32) := fn_X1_termsBackOfAny_5 fu σ x1 x2 0 0
set_option maxHeartbeats 4000000 in
set_option maxRecDepth 100000 in
theorem wk_X1_termsBackOfAny_5 {p : Program} {l : Launch} {e : Env} {s : State} {m : MethodId} {args : Array Value} {below : List Frame} {meth : Method} {c : Code} {D : va_G} {A : Nat → Prop} {ad : Nat → Nat} {cA : Nat → ClassId} {rs : va_W} {tr : List (ClassId × FieldType)} {σ : S2} {res : Int32} (C0 : cx p m meth c cX1_termsBackOfAny (some .int) 5 s args tb nl RX1) : ∀ (n : Nat) (x1 : Int32) (x2 : Int32) (x3 : Int32) (x4 : Int32), ∀ (H : Heap) (locs : List Loc) (ls : Array Slot), zz D vwCl (tyC cA tr) A (wC ad cA rs) s s.heap H locs σ → lv_has ls 5 [(0, .ref (ad 1)), (1, .int x1), (2, .int x2), (3, .int x3), (4, .int x4)] → fn_X1_termsBackOfAny_5 n σ x1 x2 x3 x4 = some res → W p l e rm_X1_termsBackOfAny s m args below meth c H locs 0 0 (MQ below (va_Qi (fun r' u' => r' = res ∧ u' = σ) (zB D vwCl (tyC cA tr) A (wC ad cA rs)) A) args s 0 0 A) (F0 m 5 ls []) := by
  obtain ⟨hx, hb, hr, hml, hown, htt, hlocks, hnw⟩ := id C0
  intro n
  induction n with
  | zero => intro x1 x2 x3 x4 H locs ls hZ hl hf; exact no_some hf
  | succ n ih =>
    intro x1 x2 x3 x4 H locs ls hZ hl hf
    rw [fn_X1_termsBackOfAny_5] at hf
    refine lv_iload hx hb dX1_termsBackOfAny_5 (lv_at hl 4 rfl) ?_
    refine lv_bipush (v := 32) hx hb dX1_termsBackOfAny_7 (by decide) ?_
    refine lv_icmp_ge (tgt := 52) hx hb dX1_termsBackOfAny_9 (by decide) (fun c_1 => ?_) (fun c_1 => ?_)
    · have hf := ite_t c_1 hf
      refine lv_iload_n hx hb dX1_termsBackOfAny_52 rfl (lv_at hl 3 rfl) ?_
      exact z_iret hx hb hr hlocks hZ (Option.some.inj hf) rfl dX1_termsBackOfAny_53
    · have hf := ite_f c_1 hf
      refine lv_iload_n hx hb dX1_termsBackOfAny_12 rfl (lv_at hl 2 rfl) ?_
      refine lv_if_lt (tgt := 52) hx hb dX1_termsBackOfAny_13 (by decide) (fun c_2 => ?_) (fun c_2 => ?_)
      · have hf := ite_t c_2 hf
        refine lv_iload_n hx hb dX1_termsBackOfAny_52 rfl (lv_at hl 3 rfl) ?_
        exact z_iret hx hb hr hlocks hZ (Option.some.inj hf) rfl dX1_termsBackOfAny_53
      · have hf := ite_f c_2 hf
        refine lv_iload_n hx hb dX1_termsBackOfAny_16 rfl (lv_at hl 2 rfl) ?_
        refine lv_bipush (v := 8) hx hb dX1_termsBackOfAny_17 (by decide) ?_
        refine lv_icmp_ge (tgt := 52) hx hb dX1_termsBackOfAny_19 (by decide) (fun c_3 => ?_) (fun c_3 => ?_)
        · have hf := ite_t c_3 hf
          refine lv_iload_n hx hb dX1_termsBackOfAny_52 rfl (lv_at hl 3 rfl) ?_
          exact z_iret hx hb hr hlocks hZ (Option.some.inj hf) rfl dX1_termsBackOfAny_53
        · have hf := ite_f c_3 hf
          refine lv_iload_n hx hb dX1_termsBackOfAny_22 rfl (lv_at hl 1 rfl) ?_
          refine lv_iload hx hb dX1_termsBackOfAny_23 (lv_at hl 4 rfl) ?_
          refine lv_iushr (v := ush x1 x4) hx hb dX1_termsBackOfAny_25 rfl ?_
          refine lv_iconst (v := 1) hx hb dX1_termsBackOfAny_26 (by decide) ?_
          refine lv_iand hx hb dX1_termsBackOfAny_27 ?_
          refine lv_if_eq (tgt := 46) hx hb dX1_termsBackOfAny_28 (by decide) (fun c_4 => ?_) (fun c_4 => ?_)
          · have hf := ite_t c_4 hf
            obtain ⟨v5, e_v5⟩ : ∃ y : Int32, y = x4 + 1 := ⟨_, rfl⟩
            have hf := lt_n e_v5 hf
            refine lv_iinc (v := v5) (lv' := [(4, .int v5), (0, .ref (ad 1)), (1, .int x1), (2, .int x2), (3, .int x3)]) hx hb dX1_termsBackOfAny_46 hl (k := 4) rfl (by rw [e_v5]; rfl) (by decide) rfl (fun ls hl => ?_)
            refine lv_goto (tgt := 5) hx hb dX1_termsBackOfAny_49 (by decide) ?_
            exact ih x1 x2 x3 v5 _ _ _ hZ (lv_sub hl [1, 2, 3, 4, 0] rfl) hf
          · have hf := ite_f c_4 hf
            refine lv_iload_n hx hb dX1_termsBackOfAny_31 rfl (lv_at hl 3 rfl) ?_
            refine lv_aload_n hx hb dX1_termsBackOfAny_32 rfl (lv_at hl 0 rfl) ?_
            refine z_get hx hb htt iw_X1 hown hZ 1 rfl rfl 1 (by decide) lf_X1_15 rfl dX1_termsBackOfAny_33 ?_
            refine lv_iload hx hb dX1_termsBackOfAny_36 (lv_at hl 4 rfl) ?_
            refine lv_bipush (v := 8) hx hb dX1_termsBackOfAny_38 (by decide) ?_
            refine lv_imul hx hb dX1_termsBackOfAny_40 ?_
            refine lv_iload_n hx hb dX1_termsBackOfAny_41 rfl (lv_at hl 2 rfl) ?_
            refine lv_iadd hx hb dX1_termsBackOfAny_42 ?_
            obtain ⟨h_6, hf⟩ := ck_s hf
            refine z_ild hx hb hZ 7 1 rfl rfl h_6 dX1_termsBackOfAny_43 ?_
            refine lv_ior hx hb dX1_termsBackOfAny_44 ?_
            refine lv_topi (fun v7 e_v7 => ?_)
            have hf := lt_n e_v7 hf
            refine lv_istore_n (lv' := [(3, .int v7), (0, .ref (ad 1)), (1, .int x1), (2, .int x2), (4, .int x4)]) hx hb dX1_termsBackOfAny_45 rfl hl (by decide) rfl (fun ls hl => ?_)
            obtain ⟨v8, e_v8⟩ : ∃ y : Int32, y = x4 + 1 := ⟨_, rfl⟩
            have hf := lt_n e_v8 hf
            refine lv_iinc (v := v8) (lv' := [(4, .int v8), (3, .int v7), (0, .ref (ad 1)), (1, .int x1), (2, .int x2)]) hx hb dX1_termsBackOfAny_46 hl (k := 4) rfl (by rw [e_v8]; rfl) (by decide) rfl (fun ls hl => ?_)
            refine lv_goto (tgt := 5) hx hb dX1_termsBackOfAny_49 (by decide) ?_
            exact ih x1 x2 v7 v8 _ _ _ hZ (lv_sub hl [2, 3, 4, 1, 0] rfl) hf
set_option maxHeartbeats 4000000 in
set_option maxRecDepth 100000 in
theorem ct_X1_termsBackOfAny (l : Launch) (D : va_G) (A : Nat → Prop) (ad : Nat → Nat) (cA : Nat → ClassId) (rs : va_W) (tr : List (ClassId × FieldType)) (σ : S2) (x1 : Int32) (x2 : Int32) {res : Int32} (hf : fn_X1_termsBackOfAny σ x1 x2 = some res) : Met l yX1_termsBackOfAny (.code yX1_termsBackOfAny cX1_termsBackOfAny 5 (some .int) :: tb) rm_X1_termsBackOfAny (va_Pc [.ref (ad 1), .int x1, .int x2] (zN D vwCl (tyC cA tr) A (wC ad cA rs) nl σ)) (va_Qi (fun r' u' => r' = res ∧ u' = σ) (zB D vwCl (tyC cA tr) A (wC ad cA rs)) A) 0 0 A := by
  refine Met.ofW (cc := cX1_termsBackOfAny) (maxL := 5) (ret := (some .int)) (by decide) rfl ?_
  intro p e s m args below meth c s₁ B hml hv
  obtain ⟨rfl, hB, hnw0⟩ := hv
  have htt : ∀ w ∈ tb, w.before (([.ref (ad 1), .int x1, .int x2] : List Value).toArray) s = true := fun w h => atoms_spec (ws := (.code yX1_termsBackOfAny cX1_termsBackOfAny 5 (some .int) :: tb)) B.pre w (List.mem_cons_of_mem _ h)
  have C0 : cx p m meth c cX1_termsBackOfAny (some .int) 5 s (([.ref (ad 1), .int x1, .int x2] : List Value).toArray) tb nl RX1 := ⟨B.exec, B.bytes, B.returns, hml, findClass_of_methodNamed B.named, htt, B.notSynchronized, hnw0⟩
  obtain ⟨hx, hb, hr, hml, hown, htt, hlocks, hnw⟩ := id C0
  have hZ := z_start hB
  have hl := lv_entry ([.ref (ad 1), .int x1, .int x2]) (n := 5) (Nat.le_of_ble_eq_true rfl)
  rw [lg_entry_eq]
  generalize (lg_sl ([.ref (ad 1), .int x1, .int x2]) ++ List.replicate (5 - (lg_sl ([.ref (ad 1), .int x1, .int x2])).length) Slot.unset).toArray = ls at hl ⊢
  have hl : lv_has ls 5 [(0, .ref (ad 1)), (1, .int x1), (2, .int x2)] := hl
  unfold fn_X1_termsBackOfAny at hf
  refine lv_iconst (v := 0) hx hb dX1_termsBackOfAny_0 (by decide) ?_
  refine lv_istore_n (lv' := [(3, .int 0), (0, .ref (ad 1)), (1, .int x1), (2, .int x2)]) hx hb dX1_termsBackOfAny_1 rfl hl (by decide) rfl (fun ls hl => ?_)
  refine lv_iconst (v := 0) hx hb dX1_termsBackOfAny_2 (by decide) ?_
  refine lv_istore (lv' := [(4, .int 0), (3, .int 0), (0, .ref (ad 1)), (1, .int x1), (2, .int x2)]) hx hb dX1_termsBackOfAny_3 hl (by decide) rfl (fun ls hl => ?_)
  exact wk_X1_termsBackOfAny_5 C0  fu x1 x2 0 0 _ _ _ hZ (lv_sub hl [2, 3, 4, 1, 0] rfl) hf
abbrev rm_X1_ofClass : Room := { frames := 1, cells := 0, slots := 0, locals := 24 }
def fn_X1_ofClass_6 : Nat → S2 → Int32 → Int32 → Option (Int32)
  | 0, _, _, _ => none
  | n + 1, σ, x2, x3 => if 20 ≤ x3 then bn (fn_X1_termsBackOfAny σ x2 0) (fun r3 => some r3) else bn (fn_X1_termsBackOfAny σ x2 1) (fun r5 => lt ((x2 ||| r5)) (fun v6 => if v6 = x2 then bn (fn_X1_termsBackOfAny σ x2 0) (fun r10 => some r10) else lt (x3 + 1) (fun v8 => fn_X1_ofClass_6 n σ v6 v8)))
def fn_X1_ofClass (σ : S2) (x1 : Int32) : Option (Int32) := lt ((1 <<< (x1 &&& 31))) (fun v1 => fn_X1_ofClass_6 fu σ v1 0)
set_option maxHeartbeats 4000000 in
set_option maxRecDepth 100000 in
theorem wk_X1_ofClass_6 {p : Program} {l : Launch} {e : Env} {s : State} {m : MethodId} {args : Array Value} {below : List Frame} {meth : Method} {c : Code} {D : va_G} {A : Nat → Prop} {ad : Nat → Nat} {cA : Nat → ClassId} {rs : va_W} {tr : List (ClassId × FieldType)} {σ : S2} {res : Int32} (C0 : cx p m meth c cX1_ofClass (some .int) 5 s args tb nl RX1) : ∀ (n : Nat) (x2 : Int32) (x3 : Int32), ∀ (H : Heap) (locs : List Loc) (ls : Array Slot), zz D vwCl (tyC cA tr) A (wC ad cA rs) s s.heap H locs σ → lv_has ls 5 [(0, .ref (ad 1)), (2, .int x2), (3, .int x3)] → fn_X1_ofClass_6 n σ x2 x3 = some res → W p l e rm_X1_ofClass s m args below meth c H locs 0 0 (MQ below (va_Qi (fun r' u' => r' = res ∧ u' = σ) (zB D vwCl (tyC cA tr) A (wC ad cA rs)) A) args s 0 0 A) (F0 m 6 ls []) := by
  obtain ⟨hx, hb, hr, hml, hown, htt, hlocks, hnw⟩ := id C0
  intro n
  induction n with
  | zero => intro x2 x3 H locs ls hZ hl hf; exact no_some hf
  | succ n ih =>
    intro x2 x3 H locs ls hZ hl hf
    rw [fn_X1_ofClass_6] at hf
    refine lv_iload_n hx hb dX1_ofClass_6 rfl (lv_at hl 2 rfl) ?_
    refine lv_bipush (v := 20) hx hb dX1_ofClass_7 (by decide) ?_
    refine lv_icmp_ge (tgt := 40) hx hb dX1_ofClass_9 (by decide) (fun c_1 => ?_) (fun c_1 => ?_)
    · have hf := ite_t c_1 hf
      refine lv_aload_n hx hb dX1_ofClass_40 rfl (lv_at hl 0 rfl) ?_
      refine lv_iload_n hx hb dX1_ofClass_41 rfl (lv_at hl 1 rfl) ?_
      refine lv_iconst (v := 0) hx hb dX1_ofClass_42 (by decide) ?_
      obtain ⟨r3, k_2, hf⟩ := bn_s hf
      refine z_calli (z_runV (As := [.int x2, .int 0]) (rest := []) ⟨hx, hb, hml, hown, htt⟩ gT (ct_X1_termsBackOfAny l D A ad cA rs tr σ x2 0 k_2) md_X1_termsBackOfAny lm_X1_47 rfl rfl ⟨Nat.le_of_ble_eq_true rfl, Nat.le_of_ble_eq_true rfl⟩ (z_preV gN hnw hZ rfl (q0 := 1) (ci := 1) rfl) rfl rfl hl.1 rfl (lv_room (Nat.le_of_ble_eq_true rfl)) dX1_ofClass_43 ⟨Nat.le_of_ble_eq_true rfl, Nat.le_of_ble_eq_true rfl⟩) hZ (fun H locs hZ => ?_)
      exact z_iret hx hb hr hlocks hZ (Option.some.inj hf) rfl dX1_ofClass_46
    · have hf := ite_f c_1 hf
      refine lv_iload_n hx hb dX1_ofClass_12 rfl (lv_at hl 1 rfl) ?_
      refine lv_aload_n hx hb dX1_ofClass_13 rfl (lv_at hl 0 rfl) ?_
      refine lv_iload_n hx hb dX1_ofClass_14 rfl (lv_at hl 1 rfl) ?_
      refine lv_iconst (v := 1) hx hb dX1_ofClass_15 (by decide) ?_
      obtain ⟨r5, k_4, hf⟩ := bn_s hf
      refine z_calli (z_runV (As := [.int x2, .int 1]) (rest := [.int x2]) ⟨hx, hb, hml, hown, htt⟩ gT (ct_X1_termsBackOfAny l D A ad cA rs tr σ x2 1 k_4) md_X1_termsBackOfAny lm_X1_47 rfl rfl ⟨Nat.le_of_ble_eq_true rfl, Nat.le_of_ble_eq_true rfl⟩ (z_preV gN hnw hZ rfl (q0 := 1) (ci := 1) rfl) rfl rfl hl.1 rfl (lv_room (Nat.le_of_ble_eq_true rfl)) dX1_ofClass_16 ⟨Nat.le_of_ble_eq_true rfl, Nat.le_of_ble_eq_true rfl⟩) hZ (fun H locs hZ => ?_)
      refine lv_ior hx hb dX1_ofClass_19 ?_
      refine lv_topi (fun v6 e_v6 => ?_)
      have hf := lt_n e_v6 hf
      refine lv_istore (lv' := [(4, .int v6), (0, .ref (ad 1)), (2, .int x2), (3, .int x3)]) hx hb dX1_ofClass_20 hl (by decide) rfl (fun ls hl => ?_)
      refine lv_iload hx hb dX1_ofClass_22 (lv_at hl 0 rfl) ?_
      refine lv_iload_n hx hb dX1_ofClass_24 rfl (lv_at hl 2 rfl) ?_
      refine lv_icmp_ne (tgt := 31) hx hb dX1_ofClass_25 (by decide) (fun c_7 => ?_) (fun c_7 => ?_)
      · have hf := ite_f c_7 hf
        refine lv_iload hx hb dX1_ofClass_31 (lv_at hl 0 rfl) ?_
        refine lv_istore_n (lv' := [(2, .int v6), (4, .int v6), (0, .ref (ad 1)), (3, .int x3)]) hx hb dX1_ofClass_33 rfl hl (by decide) rfl (fun ls hl => ?_)
        obtain ⟨v8, e_v8⟩ : ∃ y : Int32, y = x3 + 1 := ⟨_, rfl⟩
        have hf := lt_n e_v8 hf
        refine lv_iinc (v := v8) (lv' := [(3, .int v8), (2, .int v6), (4, .int v6), (0, .ref (ad 1))]) hx hb dX1_ofClass_34 hl (k := 3) rfl (by rw [e_v8]; rfl) (by decide) rfl (fun ls hl => ?_)
        refine lv_goto (tgt := 6) hx hb dX1_ofClass_37 (by decide) ?_
        exact ih v6 v8 _ _ _ hZ (lv_sub hl [3, 1, 0] rfl) hf
      · have hf := ite_t c_7 hf
        refine lv_goto (tgt := 40) hx hb dX1_ofClass_28 (by decide) ?_
        refine lv_aload_n hx hb dX1_ofClass_40 rfl (lv_at hl 1 rfl) ?_
        refine lv_iload_n hx hb dX1_ofClass_41 rfl (lv_at hl 2 rfl) ?_
        refine lv_iconst (v := 0) hx hb dX1_ofClass_42 (by decide) ?_
        obtain ⟨r10, k_9, hf⟩ := bn_s hf
        refine z_calli (z_runV (As := [.int x2, .int 0]) (rest := []) ⟨hx, hb, hml, hown, htt⟩ gT (ct_X1_termsBackOfAny l D A ad cA rs tr σ x2 0 k_9) md_X1_termsBackOfAny lm_X1_47 rfl rfl ⟨Nat.le_of_ble_eq_true rfl, Nat.le_of_ble_eq_true rfl⟩ (z_preV gN hnw hZ rfl (q0 := 1) (ci := 1) rfl) rfl rfl hl.1 rfl (lv_room (Nat.le_of_ble_eq_true rfl)) dX1_ofClass_43 ⟨Nat.le_of_ble_eq_true rfl, Nat.le_of_ble_eq_true rfl⟩) hZ (fun H locs hZ => ?_)
        exact z_iret hx hb hr hlocks hZ (Option.some.inj hf) rfl dX1_ofClass_46
set_option maxHeartbeats 4000000 in
set_option maxRecDepth 100000 in
theorem ct_X1_ofClass (l : Launch) (D : va_G) (A : Nat → Prop) (ad : Nat → Nat) (cA : Nat → ClassId) (rs : va_W) (tr : List (ClassId × FieldType)) (σ : S2) (x1 : Int32) {res : Int32} (hf : fn_X1_ofClass σ x1 = some res) : Met l yX1_ofClass (.code yX1_ofClass cX1_ofClass 5 (some .int) :: tb) rm_X1_ofClass (va_Pc [.ref (ad 1), .int x1] (zN D vwCl (tyC cA tr) A (wC ad cA rs) nl σ)) (va_Qi (fun r' u' => r' = res ∧ u' = σ) (zB D vwCl (tyC cA tr) A (wC ad cA rs)) A) 0 0 A := by
  refine Met.ofW (cc := cX1_ofClass) (maxL := 5) (ret := (some .int)) (by decide) rfl ?_
  intro p e s m args below meth c s₁ B hml hv
  obtain ⟨rfl, hB, hnw0⟩ := hv
  have htt : ∀ w ∈ tb, w.before (([.ref (ad 1), .int x1] : List Value).toArray) s = true := fun w h => atoms_spec (ws := (.code yX1_ofClass cX1_ofClass 5 (some .int) :: tb)) B.pre w (List.mem_cons_of_mem _ h)
  have C0 : cx p m meth c cX1_ofClass (some .int) 5 s (([.ref (ad 1), .int x1] : List Value).toArray) tb nl RX1 := ⟨B.exec, B.bytes, B.returns, hml, findClass_of_methodNamed B.named, htt, B.notSynchronized, hnw0⟩
  obtain ⟨hx, hb, hr, hml, hown, htt, hlocks, hnw⟩ := id C0
  have hZ := z_start hB
  have hl := lv_entry ([.ref (ad 1), .int x1]) (n := 5) (Nat.le_of_ble_eq_true rfl)
  rw [lg_entry_eq]
  generalize (lg_sl ([.ref (ad 1), .int x1]) ++ List.replicate (5 - (lg_sl ([.ref (ad 1), .int x1])).length) Slot.unset).toArray = ls at hl ⊢
  have hl : lv_has ls 5 [(0, .ref (ad 1)), (1, .int x1)] := hl
  unfold fn_X1_ofClass at hf
  refine lv_iconst (v := 1) hx hb dX1_ofClass_0 (by decide) ?_
  refine lv_iload_n hx hb dX1_ofClass_1 rfl (lv_at hl 1 rfl) ?_
  refine lv_ishl hx hb dX1_ofClass_2 ?_
  refine lv_topi (fun v1 e_v1 => ?_)
  have hf := lt_n e_v1 hf
  refine lv_istore_n (lv' := [(2, .int v1), (0, .ref (ad 1)), (1, .int x1)]) hx hb dX1_ofClass_3 rfl hl (by decide) rfl (fun ls hl => ?_)
  refine lv_iconst (v := 0) hx hb dX1_ofClass_4 (by decide) ?_
  refine lv_istore_n (lv' := [(3, .int 0), (2, .int v1), (0, .ref (ad 1)), (1, .int x1)]) hx hb dX1_ofClass_5 rfl hl (by decide) rfl (fun ls hl => ?_)
  exact wk_X1_ofClass_6 C0  fu v1 0 _ _ _ hZ (lv_sub hl [2, 1, 0] rfl) hf
abbrev rm_X0_termsOfSort : Room := { frames := 0, cells := 0, slots := 0, locals := 0 }
def fn_X0_termsOfSort (x0 : Int32) : Int32 := if x0 = 0 then 1048575 else if x0 = 1 then (-1048576) else if x0 = 2 then 1431306240 else (-1432354816)
set_option maxHeartbeats 4000000 in
set_option maxRecDepth 100000 in
theorem ct_X0_termsOfSort (l : Launch) (x0 : Int32) {res : Int32} (hf : fn_X0_termsOfSort x0 = res) : Met l yX0_termsOfSort (.code yX0_termsOfSort cX0_termsOfSort 1 (some .int) :: tb) rm_X0_termsOfSort (va_Pc [.int x0] (fun _ => True)) (vp_Si (fun r' => r' = res)) 0 0 (fun _ => False) := by
  refine Met.ofW (cc := cX0_termsOfSort) (maxL := 1) (ret := (some .int)) (by decide) rfl ?_
  intro p e s m args below meth c s₁ B hml hv
  obtain ⟨rfl, hB⟩ := hv
  have htt : ∀ w ∈ tb, w.before (([.int x0] : List Value).toArray) s = true := fun w h => atoms_spec (ws := (.code yX0_termsOfSort cX0_termsOfSort 1 (some .int) :: tb)) B.pre w (List.mem_cons_of_mem _ h)
  have C0 : cx p m meth c cX0_termsOfSort (some .int) 1 s (([.int x0] : List Value).toArray) tb [] RX0 := ⟨B.exec, B.bytes, B.returns, hml, findClass_of_methodNamed B.named, htt, B.notSynchronized, fun _ h => absurd h List.not_mem_nil⟩
  obtain ⟨hx, hb, hr, hml, hown, htt, hlocks, hnw⟩ := id C0
  have hl := lv_entry ([.int x0]) (n := 1) (Nat.le_of_ble_eq_true rfl)
  rw [lg_entry_eq]
  generalize (lg_sl ([.int x0]) ++ List.replicate (1 - (lg_sl ([.int x0])).length) Slot.unset).toArray = ls at hl ⊢
  have hl : lv_has ls 1 [(0, .int x0)] := hl
  unfold fn_X0_termsOfSort at hf
  refine lv_iload_n hx hb dX0_termsOfSort_0 rfl (lv_at hl 0 rfl) ?_
  by_cases c_1 : x0 = 0
  · have hf := ite_t c_1 hf
    refine lv_tableIn (tgt := 28) hx hb dX0_termsOfSort_1 (by rw [c_1]; decide) (by rw [c_1]; decide) (by rw [c_1]; rfl) (by decide) ?_
    refine lv_ldc hx hb hown (htt _ lc_X0_164) dX0_termsOfSort_28 ?_
    exact z_piret hx hb hr hlocks hf dX0_termsOfSort_30
  have hf := ite_f c_1 hf
  by_cases c_2 : x0 = 1
  · have hf := ite_t c_2 hf
    refine lv_tableIn (tgt := 31) hx hb dX0_termsOfSort_1 (by rw [c_2]; decide) (by rw [c_2]; decide) (by rw [c_2]; rfl) (by decide) ?_
    refine lv_ldc hx hb hown (htt _ lc_X0_170) dX0_termsOfSort_31 ?_
    exact z_piret hx hb hr hlocks hf dX0_termsOfSort_33
  have hf := ite_f c_2 hf
  by_cases c_3 : x0 = 2
  · have hf := ite_t c_3 hf
    refine lv_tableIn (tgt := 34) hx hb dX0_termsOfSort_1 (by rw [c_3]; decide) (by rw [c_3]; decide) (by rw [c_3]; rfl) (by decide) ?_
    refine lv_ldc hx hb hown (htt _ lc_X0_171) dX0_termsOfSort_34 ?_
    exact z_piret hx hb hr hlocks hf dX0_termsOfSort_36
  have hf := ite_f c_3 hf
  have nc_1 := lv_neT c_1 (show (0 : Int32).toInt = 0 from by decide)
  have nc_2 := lv_neT c_2 (show (1 : Int32).toInt = 1 from by decide)
  have nc_3 := lv_neT c_3 (show (2 : Int32).toInt = 2 from by decide)
  have h_4 : (x0).toInt < 0 ∨ 2 < (x0).toInt := by omega
  refine z_tdef (tgt := 37) hx hb dX0_termsOfSort_1 (by
    rcases h_4 with h_4 | h_4
    · exact Or.inl h_4
    · exact Or.inr (Or.inl h_4)) (by decide) ?_
  refine lv_ldc hx hb hown (htt _ lc_X0_172) dX0_termsOfSort_37 ?_
  exact z_piret hx hb hr hlocks hf dX0_termsOfSort_39
abbrev rm_X0_literalsWithNumber : Room := { frames := 0, cells := 0, slots := 0, locals := 0 }
def fn_X0_literalsWithNumber (x0 : Int32) : Int32 := (3 <<< ((20 + (2 * x0)) &&& 31))
set_option maxHeartbeats 4000000 in
set_option maxRecDepth 100000 in
theorem ct_X0_literalsWithNumber (l : Launch) (x0 : Int32) {res : Int32} (hf : fn_X0_literalsWithNumber x0 = res) : Met l yX0_literalsWithNumber (.code yX0_literalsWithNumber cX0_literalsWithNumber 1 (some .int) :: tb) rm_X0_literalsWithNumber (va_Pc [.int x0] (fun _ => True)) (vp_Si (fun r' => r' = res)) 0 0 (fun _ => False) := by
  refine Met.ofW (cc := cX0_literalsWithNumber) (maxL := 1) (ret := (some .int)) (by decide) rfl ?_
  intro p e s m args below meth c s₁ B hml hv
  obtain ⟨rfl, hB⟩ := hv
  have htt : ∀ w ∈ tb, w.before (([.int x0] : List Value).toArray) s = true := fun w h => atoms_spec (ws := (.code yX0_literalsWithNumber cX0_literalsWithNumber 1 (some .int) :: tb)) B.pre w (List.mem_cons_of_mem _ h)
  have C0 : cx p m meth c cX0_literalsWithNumber (some .int) 1 s (([.int x0] : List Value).toArray) tb [] RX0 := ⟨B.exec, B.bytes, B.returns, hml, findClass_of_methodNamed B.named, htt, B.notSynchronized, fun _ h => absurd h List.not_mem_nil⟩
  obtain ⟨hx, hb, hr, hml, hown, htt, hlocks, hnw⟩ := id C0
  have hl := lv_entry ([.int x0]) (n := 1) (Nat.le_of_ble_eq_true rfl)
  rw [lg_entry_eq]
  generalize (lg_sl ([.int x0]) ++ List.replicate (1 - (lg_sl ([.int x0])).length) Slot.unset).toArray = ls at hl ⊢
  have hl : lv_has ls 1 [(0, .int x0)] := hl
  unfold fn_X0_literalsWithNumber at hf
  refine lv_iconst (v := 3) hx hb dX0_literalsWithNumber_0 (by decide) ?_
  refine lv_bipush (v := 20) hx hb dX0_literalsWithNumber_1 (by decide) ?_
  refine lv_iconst (v := 2) hx hb dX0_literalsWithNumber_3 (by decide) ?_
  refine lv_iload_n hx hb dX0_literalsWithNumber_4 rfl (lv_at hl 0 rfl) ?_
  refine lv_imul hx hb dX0_literalsWithNumber_5 ?_
  refine lv_iadd hx hb dX0_literalsWithNumber_6 ?_
  refine lv_ishl hx hb dX0_literalsWithNumber_7 ?_
  exact z_piret hx hb hr hlocks hf dX0_literalsWithNumber_8
abbrev rm_X0_literalsBetween : Room := { frames := 1, cells := 0, slots := 0, locals := 22 }
def fn_X0_literalsBetween_4 : Nat → Int32 → Int32 → Int32 → Int32 → Option (Int32)
  | 0, _, _, _, _ => none
  | n + 1, x0, x1, x2, x3 => if 6 ≤ x3 then some x2 else lt (fn_X0_isBetween x3 x0 x1) (fun r2 => if r2 = 0 then lt (x3 + 1) (fun v4 => fn_X0_literalsBetween_4 n x0 x1 x2 v4) else lt (fn_X0_literalsWithNumber x3) (fun r5 => lt ((x2 ||| r5)) (fun v6 => lt (x3 + 1) (fun v7 => fn_X0_literalsBetween_4 n x0 x1 v6 v7))))
def fn_X0_literalsBetween (x0 : Int32) (x1 : Int32) : Option (Int32) := fn_X0_literalsBetween_4 fu x0 x1 0 0
set_option maxHeartbeats 4000000 in
set_option maxRecDepth 100000 in
theorem wk_X0_literalsBetween_4 {p : Program} {l : Launch} {e : Env} {s : State} {m : MethodId} {args : Array Value} {below : List Frame} {meth : Method} {c : Code} {res : Int32} (C0 : cx p m meth c cX0_literalsBetween (some .int) 4 s args tb [] RX0) : ∀ (n : Nat) (x0 : Int32) (x1 : Int32) (x2 : Int32) (x3 : Int32), ∀ (ls : Array Slot), lv_has ls 4 [(0, .int x0), (1, .int x1), (2, .int x2), (3, .int x3)] → fn_X0_literalsBetween_4 n x0 x1 x2 x3 = some res → W p l e rm_X0_literalsBetween s m args below meth c s.heap [] 0 0 (MQ below (vp_Si (fun r' => r' = res)) args s 0 0 (fun _ => False)) (F0 m 4 ls []) := by
  obtain ⟨hx, hb, hr, hml, hown, htt, hlocks, hnw⟩ := id C0
  intro n
  induction n with
  | zero => intro x0 x1 x2 x3 ls hl hf; exact no_some hf
  | succ n ih =>
    intro x0 x1 x2 x3 ls hl hf
    rw [fn_X0_literalsBetween_4] at hf
    refine lv_iload_n hx hb dX0_literalsBetween_4 rfl (lv_at hl 3 rfl) ?_
    refine lv_bipush (v := 6) hx hb dX0_literalsBetween_5 (by decide) ?_
    refine lv_icmp_ge (tgt := 32) hx hb dX0_literalsBetween_7 (by decide) (fun c_1 => ?_) (fun c_1 => ?_)
    · have hf := ite_t c_1 hf
      refine lv_iload_n hx hb dX0_literalsBetween_32 rfl (lv_at hl 2 rfl) ?_
      exact z_piret hx hb hr hlocks (Option.some.inj hf) dX0_literalsBetween_33
    · have hf := ite_f c_1 hf
      refine lv_iload_n hx hb dX0_literalsBetween_10 rfl (lv_at hl 3 rfl) ?_
      refine lv_iload_n hx hb dX0_literalsBetween_11 rfl (lv_at hl 0 rfl) ?_
      refine lv_iload_n hx hb dX0_literalsBetween_12 rfl (lv_at hl 1 rfl) ?_
      refine z_pcalli (z_runS (As := [.int x3, .int x0, .int x1]) (rest := []) ⟨hx, hb, hml, hown, htt⟩ gT (ct_X0_isBetween l x3 x0 x1 rfl) md_X0_isBetween lm_X0_76 rfl rfl ⟨Nat.le_of_ble_eq_true rfl, Nat.le_of_ble_eq_true rfl⟩ z_preP rfl rfl hl.1 rfl (lv_room (Nat.le_of_ble_eq_true rfl)) dX0_literalsBetween_13 ⟨Nat.le_of_ble_eq_true rfl, Nat.le_of_ble_eq_true rfl⟩) ?_
      refine lv_topi (fun r2 e_r2 => ?_)
      have hf := lt_n e_r2 hf
      refine lv_if_eq (tgt := 26) hx hb dX0_literalsBetween_16 (by decide) (fun c_3 => ?_) (fun c_3 => ?_)
      · have hf := ite_t c_3 hf
        obtain ⟨v4, e_v4⟩ : ∃ y : Int32, y = x3 + 1 := ⟨_, rfl⟩
        have hf := lt_n e_v4 hf
        refine lv_iinc (v := v4) (lv' := [(3, .int v4), (0, .int x0), (1, .int x1), (2, .int x2)]) hx hb dX0_literalsBetween_26 hl (k := 3) rfl (by rw [e_v4]; rfl) (by decide) rfl (fun ls hl => ?_)
        refine lv_goto (tgt := 4) hx hb dX0_literalsBetween_29 (by decide) ?_
        exact ih x0 x1 x2 v4 _ (lv_sub hl [1, 2, 3, 0] rfl) hf
      · have hf := ite_f c_3 hf
        refine lv_iload_n hx hb dX0_literalsBetween_19 rfl (lv_at hl 2 rfl) ?_
        refine lv_iload_n hx hb dX0_literalsBetween_20 rfl (lv_at hl 3 rfl) ?_
        refine z_pcalli (z_runS (As := [.int x3]) (rest := [.int x2]) ⟨hx, hb, hml, hown, htt⟩ gT (ct_X0_literalsWithNumber l x3 rfl) md_X0_literalsWithNumber lm_X0_161 rfl rfl ⟨Nat.le_of_ble_eq_true rfl, Nat.le_of_ble_eq_true rfl⟩ z_preP rfl rfl hl.1 rfl (lv_room (Nat.le_of_ble_eq_true rfl)) dX0_literalsBetween_21 ⟨Nat.le_of_ble_eq_true rfl, Nat.le_of_ble_eq_true rfl⟩) ?_
        refine lv_topi (fun r5 e_r5 => ?_)
        have hf := lt_n e_r5 hf
        refine lv_ior hx hb dX0_literalsBetween_24 ?_
        refine lv_topi (fun v6 e_v6 => ?_)
        have hf := lt_n e_v6 hf
        refine lv_istore_n (lv' := [(2, .int v6), (0, .int x0), (1, .int x1), (3, .int x3)]) hx hb dX0_literalsBetween_25 rfl hl (by decide) rfl (fun ls hl => ?_)
        obtain ⟨v7, e_v7⟩ : ∃ y : Int32, y = x3 + 1 := ⟨_, rfl⟩
        have hf := lt_n e_v7 hf
        refine lv_iinc (v := v7) (lv' := [(3, .int v7), (2, .int v6), (0, .int x0), (1, .int x1)]) hx hb dX0_literalsBetween_26 hl (k := 3) rfl (by rw [e_v7]; rfl) (by decide) rfl (fun ls hl => ?_)
        refine lv_goto (tgt := 4) hx hb dX0_literalsBetween_29 (by decide) ?_
        exact ih x0 x1 v6 v7 _ (lv_sub hl [2, 3, 1, 0] rfl) hf
set_option maxHeartbeats 4000000 in
set_option maxRecDepth 100000 in
theorem ct_X0_literalsBetween (l : Launch) (x0 : Int32) (x1 : Int32) {res : Int32} (hf : fn_X0_literalsBetween x0 x1 = some res) : Met l yX0_literalsBetween (.code yX0_literalsBetween cX0_literalsBetween 4 (some .int) :: tb) rm_X0_literalsBetween (va_Pc [.int x0, .int x1] (fun _ => True)) (vp_Si (fun r' => r' = res)) 0 0 (fun _ => False) := by
  refine Met.ofW (cc := cX0_literalsBetween) (maxL := 4) (ret := (some .int)) (by decide) rfl ?_
  intro p e s m args below meth c s₁ B hml hv
  obtain ⟨rfl, hB⟩ := hv
  have htt : ∀ w ∈ tb, w.before (([.int x0, .int x1] : List Value).toArray) s = true := fun w h => atoms_spec (ws := (.code yX0_literalsBetween cX0_literalsBetween 4 (some .int) :: tb)) B.pre w (List.mem_cons_of_mem _ h)
  have C0 : cx p m meth c cX0_literalsBetween (some .int) 4 s (([.int x0, .int x1] : List Value).toArray) tb [] RX0 := ⟨B.exec, B.bytes, B.returns, hml, findClass_of_methodNamed B.named, htt, B.notSynchronized, fun _ h => absurd h List.not_mem_nil⟩
  obtain ⟨hx, hb, hr, hml, hown, htt, hlocks, hnw⟩ := id C0
  have hl := lv_entry ([.int x0, .int x1]) (n := 4) (Nat.le_of_ble_eq_true rfl)
  rw [lg_entry_eq]
  generalize (lg_sl ([.int x0, .int x1]) ++ List.replicate (4 - (lg_sl ([.int x0, .int x1])).length) Slot.unset).toArray = ls at hl ⊢
  have hl : lv_has ls 4 [(0, .int x0), (1, .int x1)] := hl
  unfold fn_X0_literalsBetween at hf
  refine lv_iconst (v := 0) hx hb dX0_literalsBetween_0 (by decide) ?_
  refine lv_istore_n (lv' := [(2, .int 0), (0, .int x0), (1, .int x1)]) hx hb dX0_literalsBetween_1 rfl hl (by decide) rfl (fun ls hl => ?_)
  refine lv_iconst (v := 0) hx hb dX0_literalsBetween_2 (by decide) ?_
  refine lv_istore_n (lv' := [(3, .int 0), (2, .int 0), (0, .int x0), (1, .int x1)]) hx hb dX0_literalsBetween_3 rfl hl (by decide) rfl (fun ls hl => ?_)
  exact wk_X0_literalsBetween_4 C0  fu x0 x1 0 0 _ (lv_sub hl [2, 3, 1, 0] rfl) hf
abbrev rm_X5_fittingTerms : Room := { frames := 1, cells := 0, slots := 0, locals := 21 }
def fn_X5_fittingTerms (σ : S2) (x1 : Int32) : Option (Int32) := lt (fn_X2_has σ x1) (fun r1 => if r1 = 0 then some 0 else ck x1 12 (some (σ.1 19 (x1).toNatClampNeg)))
set_option maxHeartbeats 4000000 in
set_option maxRecDepth 100000 in
theorem ct_X5_fittingTerms (l : Launch) (D : va_G) (A : Nat → Prop) (ad : Nat → Nat) (cA : Nat → ClassId) (rs : va_W) (tr : List (ClassId × FieldType)) (σ : S2) (x1 : Int32) {res : Int32} (hf : fn_X5_fittingTerms σ x1 = some res) : Met l yX5_fittingTerms (.code yX5_fittingTerms cX5_fittingTerms 2 (some .int) :: tb) rm_X5_fittingTerms (va_Pc [.ref (ad 5), .int x1] (zN D vwCl (tyC cA tr) A (wC ad cA rs) nl σ)) (va_Qi (fun r' u' => r' = res ∧ u' = σ) (zB D vwCl (tyC cA tr) A (wC ad cA rs)) A) 0 0 A := by
  refine Met.ofW (cc := cX5_fittingTerms) (maxL := 2) (ret := (some .int)) (by decide) rfl ?_
  intro p e s m args below meth c s₁ B hml hv
  obtain ⟨rfl, hB, hnw0⟩ := hv
  have htt : ∀ w ∈ tb, w.before (([.ref (ad 5), .int x1] : List Value).toArray) s = true := fun w h => atoms_spec (ws := (.code yX5_fittingTerms cX5_fittingTerms 2 (some .int) :: tb)) B.pre w (List.mem_cons_of_mem _ h)
  have C0 : cx p m meth c cX5_fittingTerms (some .int) 2 s (([.ref (ad 5), .int x1] : List Value).toArray) tb nl RX5 := ⟨B.exec, B.bytes, B.returns, hml, findClass_of_methodNamed B.named, htt, B.notSynchronized, hnw0⟩
  obtain ⟨hx, hb, hr, hml, hown, htt, hlocks, hnw⟩ := id C0
  have hZ := z_start hB
  have hl := lv_entry ([.ref (ad 5), .int x1]) (n := 2) (Nat.le_of_ble_eq_true rfl)
  rw [lg_entry_eq]
  generalize (lg_sl ([.ref (ad 5), .int x1]) ++ List.replicate (2 - (lg_sl ([.ref (ad 5), .int x1])).length) Slot.unset).toArray = ls at hl ⊢
  have hl : lv_has ls 2 [(0, .ref (ad 5)), (1, .int x1)] := hl
  unfold fn_X5_fittingTerms at hf
  refine lv_aload_n hx hb dX5_fittingTerms_0 rfl (lv_at hl 0 rfl) ?_
  refine z_get hx hb htt iw_X5 hown hZ 5 rfl rfl 1 (by decide) lf_X5_38 rfl dX5_fittingTerms_1 ?_
  refine lv_iload_n hx hb dX5_fittingTerms_4 rfl (lv_at hl 1 rfl) ?_
  refine z_calli (z_runVN (As := [.int x1]) (rest := []) ⟨hx, hb, hml, hown, htt⟩ gT (ct_X2_has l D A ad cA rs tr σ x1 rfl) md_X2_has hnw lm_X5_81 rfl rfl ⟨Nat.le_of_ble_eq_true rfl, Nat.le_of_ble_eq_true rfl⟩ (z_preV gN hnw hZ rfl (q0 := 2) (ci := 2) rfl) rfl rfl hl.1 rfl (lv_room (Nat.le_of_ble_eq_true rfl)) dX5_fittingTerms_5 ⟨Nat.le_of_ble_eq_true rfl, Nat.le_of_ble_eq_true rfl⟩) hZ (fun H locs hZ => ?_)
  refine lv_topi (fun r1 e_r1 => ?_)
  have hf := lt_n e_r1 hf
  refine lv_if_eq (tgt := 20) hx hb dX5_fittingTerms_8 (by decide) (fun c_2 => ?_) (fun c_2 => ?_)
  · have hf := ite_t c_2 hf
    refine lv_iconst (v := 0) hx hb dX5_fittingTerms_20 (by decide) ?_
    exact z_iret hx hb hr hlocks hZ (Option.some.inj hf) rfl dX5_fittingTerms_21
  · have hf := ite_f c_2 hf
    refine lv_aload_n hx hb dX5_fittingTerms_11 rfl (lv_at hl 0 rfl) ?_
    refine z_get hx hb htt iw_X5 hown hZ 5 rfl rfl 5 (by decide) lf_X5_15 rfl dX5_fittingTerms_12 ?_
    refine lv_iload_n hx hb dX5_fittingTerms_15 rfl (lv_at hl 1 rfl) ?_
    obtain ⟨h_3, hf⟩ := ck_s hf
    refine z_ild hx hb hZ 19 13 rfl rfl h_3 dX5_fittingTerms_16 ?_
    refine lv_goto (tgt := 21) hx hb dX5_fittingTerms_17 (by decide) ?_
    exact z_iret hx hb hr hlocks hZ (Option.some.inj hf) rfl dX5_fittingTerms_21
