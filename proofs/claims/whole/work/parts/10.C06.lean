abbrev rm_X0_result : Room := { frames := 6, cells := 0, slots := 0, locals := 140 }
def fn_X0_result (σ : S2) (x1 : Int32) (x2 : Int32) : Option (Int32 × S2) := lt (fn_X0_isBetween x2 0 3) (fun r1 => if r1 = 0 then some ((-1), σ) else bn (fn_X5_workOut σ) (fun σ4 => if (σ4.1 5 0) ≤ 250 then if x1 < 0 then some ((-2), σ4) else if x1 < (σ4.1 5 0) then if x2 = 0 then ck x1 250 (some ((σ4.1 21 (x1).toNatClampNeg), σ4)) else if x2 = 1 then ck x1 250 (some ((σ4.1 22 (x1).toNatClampNeg), σ4)) else if x2 = 2 then ck x1 250 (some ((σ4.1 23 (x1).toNatClampNeg), σ4)) else ck x1 250 (some ((σ4.1 24 (x1).toNatClampNeg), σ4)) else some ((-2), σ4) else some ((-4), σ4)))
set_option maxHeartbeats 4000000 in
set_option maxRecDepth 100000 in
theorem ct_X0_result (l : Launch) (D : va_G) (A : Nat → Prop) (ad : Nat → Nat) (cA : Nat → ClassId) (rs : va_W) (tr : List (ClassId × FieldType)) (σ : S2) (x1 : Int32) (x2 : Int32) {res : Int32 × S2} (hf : fn_X0_result σ x1 x2 = some res) : Met l yX0_result (.code yX0_result cX0_result 3 (some .int) :: tb) rm_X0_result (va_Pc [.ref (ad 0), .int x1, .int x2] (zN D vwCl (tyC cA tr) A (wC ad cA rs) nl σ)) (va_Qi (fun r' u' => r' = res.1 ∧ u' = res.2) (zB D vwCl (tyC cA tr) A (wC ad cA rs)) A) 0 0 A := by
  refine Met.ofW (cc := cX0_result) (maxL := 3) (ret := (some .int)) (by decide) rfl ?_
  intro p e s m args below meth c s₁ B hml hv
  obtain ⟨rfl, hB, hnw0⟩ := hv
  have htt : ∀ w ∈ tb, w.before (([.ref (ad 0), .int x1, .int x2] : List Value).toArray) s = true := fun w h => atoms_spec (ws := (.code yX0_result cX0_result 3 (some .int) :: tb)) B.pre w (List.mem_cons_of_mem _ h)
  have C0 : cx p m meth c cX0_result (some .int) 3 s (([.ref (ad 0), .int x1, .int x2] : List Value).toArray) tb nl RX0 := ⟨B.exec, B.bytes, B.returns, hml, findClass_of_methodNamed B.named, htt, B.notSynchronized, hnw0⟩
  obtain ⟨hx, hb, hr, hml, hown, htt, hlocks, hnw⟩ := id C0
  have hZ := z_start hB
  have hl := lv_entry ([.ref (ad 0), .int x1, .int x2]) (n := 3) (Nat.le_of_ble_eq_true rfl)
  rw [lg_entry_eq]
  generalize (lg_sl ([.ref (ad 0), .int x1, .int x2]) ++ List.replicate (3 - (lg_sl ([.ref (ad 0), .int x1, .int x2])).length) Slot.unset).toArray = ls at hl ⊢
  have hl : lv_has ls 3 [(0, .ref (ad 0)), (1, .int x1), (2, .int x2)] := hl
  unfold fn_X0_result at hf
  refine lv_iload_n hx hb dX0_result_0 rfl (lv_at hl 2 rfl) ?_
  refine lv_iconst (v := 0) hx hb dX0_result_1 (by decide) ?_
  refine lv_iconst (v := 3) hx hb dX0_result_2 (by decide) ?_
  refine z_pcalli (z_runS (As := [.int x2, .int 0, .int 3]) (rest := []) ⟨hx, hb, hml, hown, htt⟩ gT (ct_X0_isBetween l x2 0 3 rfl) md_X0_isBetween lm_X0_76 rfl rfl ⟨Nat.le_of_ble_eq_true rfl, Nat.le_of_ble_eq_true rfl⟩ z_preP rfl rfl hl.1 rfl (lv_room (Nat.le_of_ble_eq_true rfl)) dX0_result_3 ⟨Nat.le_of_ble_eq_true rfl, Nat.le_of_ble_eq_true rfl⟩) ?_
  refine lv_topi (fun r1 e_r1 => ?_)
  have hf := lt_n e_r1 hf
  refine lv_if_ne (tgt := 11) hx hb dX0_result_6 (by decide) (fun c_2 => ?_) (fun c_2 => ?_)
  · have hf := ite_f c_2 hf
    refine lv_aload_n hx hb dX0_result_11 rfl (lv_at hl 0 rfl) ?_
    refine z_get hx hb htt iw_X0 hown hZ 0 rfl rfl 4 (by decide) lf_X0_42 rfl dX0_result_12 ?_
    obtain ⟨σ4, k_3, hf⟩ := bn_s hf
    refine z_callv (u := σ4) (z_runVN (As := []) (rest := []) ⟨hx, hb, hml, hown, htt⟩ gT (ct_X5_workOut l D A ad cA rs tr σ  k_3) md_X5_workOut hnw lm_X0_113 rfl rfl ⟨Nat.le_of_ble_eq_true rfl, Nat.le_of_ble_eq_true rfl⟩ (z_preV gN hnw hZ rfl (q0 := 5) (ci := 5) rfl) rfl rfl hl.1 rfl (lv_room (Nat.le_of_ble_eq_true rfl)) dX0_result_15 ⟨Nat.le_of_ble_eq_true rfl, Nat.le_of_ble_eq_true rfl⟩) hZ (fun H locs hZ => ?_)
    refine lv_aload_n hx hb dX0_result_18 rfl (lv_at hl 0 rfl) ?_
    refine z_get hx hb htt iw_X0 hown hZ 0 rfl rfl 4 (by decide) lf_X0_42 rfl dX0_result_19 ?_
    refine z_getN hx hb gN hnw htt iw_X5 hown hZ 5 rfl rfl 11 (by decide) lf_X0_116 rfl dX0_result_22 ?_
    refine lv_sipush (v := 250) hx hb dX0_result_25 (by decide) ?_
    refine lv_icmp_le (tgt := 34) hx hb dX0_result_28 (by decide) (fun c_5 => ?_) (fun c_5 => ?_)
    · have hf := ite_t c_5 hf
      refine lv_iload_n hx hb dX0_result_34 rfl (lv_at hl 1 rfl) ?_
      refine lv_if_lt (tgt := 49) hx hb dX0_result_35 (by decide) (fun c_6 => ?_) (fun c_6 => ?_)
      · have hf := ite_t c_6 hf
        refine lv_bipush (v := (-2)) hx hb dX0_result_49 (by decide) ?_
        exact z_iret hx hb hr hlocks hZ (sp_1 hf) (sp_2 hf) dX0_result_51
      · have hf := ite_f c_6 hf
        refine lv_iload_n hx hb dX0_result_38 rfl (lv_at hl 1 rfl) ?_
        refine lv_aload_n hx hb dX0_result_39 rfl (lv_at hl 0 rfl) ?_
        refine z_get hx hb htt iw_X0 hown hZ 0 rfl rfl 4 (by decide) lf_X0_42 rfl dX0_result_40 ?_
        refine z_getN hx hb gN hnw htt iw_X5 hown hZ 5 rfl rfl 11 (by decide) lf_X0_116 rfl dX0_result_43 ?_
        refine lv_icmp_lt (tgt := 52) hx hb dX0_result_46 (by decide) (fun c_7 => ?_) (fun c_7 => ?_)
        · have hf := ite_t c_7 hf
          refine lv_iload_n hx hb dX0_result_52 rfl (lv_at hl 2 rfl) ?_
          by_cases c_8 : x2 = 0
          · have hf := ite_t c_8 hf
            refine lv_tableIn (tgt := 80) hx hb dX0_result_53 (by rw [c_8]; decide) (by rw [c_8]; decide) (by rw [c_8]; rfl) (by decide) ?_
            refine lv_aload_n hx hb dX0_result_80 rfl (lv_at hl 0 rfl) ?_
            refine z_get hx hb htt iw_X0 hown hZ 0 rfl rfl 4 (by decide) lf_X0_42 rfl dX0_result_81 ?_
            refine z_getN hx hb gN hnw htt iw_X5 hown hZ 5 rfl rfl 7 (by decide) lf_X0_117 rfl dX0_result_84 ?_
            refine lv_iload_n hx hb dX0_result_87 rfl (lv_at hl 1 rfl) ?_
            obtain ⟨h_9, hf⟩ := ck_s hf
            refine z_ild hx hb hZ 21 15 rfl rfl h_9 dX0_result_88 ?_
            exact z_iret hx hb hr hlocks hZ (sp_1 hf) (sp_2 hf) dX0_result_89
          have hf := ite_f c_8 hf
          by_cases c_10 : x2 = 1
          · have hf := ite_t c_10 hf
            refine lv_tableIn (tgt := 90) hx hb dX0_result_53 (by rw [c_10]; decide) (by rw [c_10]; decide) (by rw [c_10]; rfl) (by decide) ?_
            refine lv_aload_n hx hb dX0_result_90 rfl (lv_at hl 0 rfl) ?_
            refine z_get hx hb htt iw_X0 hown hZ 0 rfl rfl 4 (by decide) lf_X0_42 rfl dX0_result_91 ?_
            refine z_getN hx hb gN hnw htt iw_X5 hown hZ 5 rfl rfl 8 (by decide) lf_X0_120 rfl dX0_result_94 ?_
            refine lv_iload_n hx hb dX0_result_97 rfl (lv_at hl 1 rfl) ?_
            obtain ⟨h_11, hf⟩ := ck_s hf
            refine z_ild hx hb hZ 22 16 rfl rfl h_11 dX0_result_98 ?_
            exact z_iret hx hb hr hlocks hZ (sp_1 hf) (sp_2 hf) dX0_result_99
          have hf := ite_f c_10 hf
          by_cases c_12 : x2 = 2
          · have hf := ite_t c_12 hf
            refine lv_tableIn (tgt := 100) hx hb dX0_result_53 (by rw [c_12]; decide) (by rw [c_12]; decide) (by rw [c_12]; rfl) (by decide) ?_
            refine lv_aload_n hx hb dX0_result_100 rfl (lv_at hl 0 rfl) ?_
            refine z_get hx hb htt iw_X0 hown hZ 0 rfl rfl 4 (by decide) lf_X0_42 rfl dX0_result_101 ?_
            refine z_getN hx hb gN hnw htt iw_X5 hown hZ 5 rfl rfl 9 (by decide) lf_X0_123 rfl dX0_result_104 ?_
            refine lv_iload_n hx hb dX0_result_107 rfl (lv_at hl 1 rfl) ?_
            obtain ⟨h_13, hf⟩ := ck_s hf
            refine z_ild hx hb hZ 23 17 rfl rfl h_13 dX0_result_108 ?_
            exact z_iret hx hb hr hlocks hZ (sp_1 hf) (sp_2 hf) dX0_result_109
          have hf := ite_f c_12 hf
          have nc_8 := lv_neT c_8 (show (0 : Int32).toInt = 0 from by decide)
          have nc_10 := lv_neT c_10 (show (1 : Int32).toInt = 1 from by decide)
          have nc_12 := lv_neT c_12 (show (2 : Int32).toInt = 2 from by decide)
          have h_15 : (x2).toInt < 0 ∨ 2 < (x2).toInt := by omega
          refine z_tdef (tgt := 110) hx hb dX0_result_53 (by
            rcases h_15 with h_15 | h_15
            · exact Or.inl h_15
            · exact Or.inr (Or.inl h_15)) (by decide) ?_
          refine lv_aload_n hx hb dX0_result_110 rfl (lv_at hl 0 rfl) ?_
          refine z_get hx hb htt iw_X0 hown hZ 0 rfl rfl 4 (by decide) lf_X0_42 rfl dX0_result_111 ?_
          refine z_getN hx hb gN hnw htt iw_X5 hown hZ 5 rfl rfl 10 (by decide) lf_X0_126 rfl dX0_result_114 ?_
          refine lv_iload_n hx hb dX0_result_117 rfl (lv_at hl 1 rfl) ?_
          obtain ⟨h_14, hf⟩ := ck_s hf
          refine z_ild hx hb hZ 24 18 rfl rfl h_14 dX0_result_118 ?_
          exact z_iret hx hb hr hlocks hZ (sp_1 hf) (sp_2 hf) dX0_result_119
        · have hf := ite_f c_7 hf
          refine lv_bipush (v := (-2)) hx hb dX0_result_49 (by decide) ?_
          exact z_iret hx hb hr hlocks hZ (sp_1 hf) (sp_2 hf) dX0_result_51
    · have hf := ite_f c_5 hf
      refine lv_bipush (v := (-4)) hx hb dX0_result_31 (by decide) ?_
      exact z_iret hx hb hr hlocks hZ (sp_1 hf) (sp_2 hf) dX0_result_33
  · have hf := ite_t c_2 hf
    refine lv_iconst (v := (-1)) hx hb dX0_result_9 (by decide) ?_
    exact z_iret hx hb hr hlocks hZ (sp_1 hf) (sp_2 hf) dX0_result_10
abbrev rm_X0_worst : Room := { frames := 6, cells := 0, slots := 0, locals := 140 }
def fn_X0_worst_38 : Nat → S2 → Int32 → Int32 → Int32 → Option (Int32 × S2)
  | 0, _, _, _, _ => none
  | n + 1, σ, x1, x2, x3 => if (σ.1 5 0) ≤ x3 then some (x2, σ) else ck x3 250 (bn (fn_X2_severityOf σ (σ.1 22 (x3).toNatClampNeg)) (fun r4 => if r4 = x1 then lt (x2 + 1) (fun v7 => lt (x3 + 1) (fun v8 => fn_X0_worst_38 n σ x1 v7 v8)) else lt (x3 + 1) (fun v6 => fn_X0_worst_38 n σ x1 x2 v6)))
def fn_X0_worst (σ : S2) (x1 : Int32) : Option (Int32 × S2) := lt (fn_X0_isBetween x1 0 2) (fun r1 => if r1 = 0 then some ((-1), σ) else bn (fn_X5_workOut σ) (fun σ4 => if (σ4.1 5 0) ≤ 250 then fn_X0_worst_38 fu σ4 x1 0 0 else some ((-4), σ4)))
set_option maxHeartbeats 4000000 in
set_option maxRecDepth 100000 in
theorem wk_X0_worst_38 {p : Program} {l : Launch} {e : Env} {s : State} {m : MethodId} {args : Array Value} {below : List Frame} {meth : Method} {c : Code} {D : va_G} {A : Nat → Prop} {ad : Nat → Nat} {cA : Nat → ClassId} {rs : va_W} {tr : List (ClassId × FieldType)} {res : Int32 × S2} (C0 : cx p m meth c cX0_worst (some .int) 4 s args tb nl RX0) : ∀ (n : Nat) (σ : S2) (x1 : Int32) (x2 : Int32) (x3 : Int32), ∀ (H : Heap) (locs : List Loc) (ls : Array Slot), zz D vwCl (tyC cA tr) A (wC ad cA rs) s s.heap H locs σ → lv_has ls 4 [(0, .ref (ad 0)), (1, .int x1), (2, .int x2), (3, .int x3)] → fn_X0_worst_38 n σ x1 x2 x3 = some res → W p l e rm_X0_worst s m args below meth c H locs 0 0 (MQ below (va_Qi (fun r' u' => r' = res.1 ∧ u' = res.2) (zB D vwCl (tyC cA tr) A (wC ad cA rs)) A) args s 0 0 A) (F0 m 38 ls []) := by
  obtain ⟨hx, hb, hr, hml, hown, htt, hlocks, hnw⟩ := id C0
  intro n
  induction n with
  | zero => intro σ x1 x2 x3 H locs ls hZ hl hf; exact no_some hf
  | succ n ih =>
    intro σ x1 x2 x3 H locs ls hZ hl hf
    rw [fn_X0_worst_38] at hf
    refine lv_iload_n hx hb dX0_worst_38 rfl (lv_at hl 3 rfl) ?_
    refine lv_aload_n hx hb dX0_worst_39 rfl (lv_at hl 0 rfl) ?_
    refine z_get hx hb htt iw_X0 hown hZ 0 rfl rfl 4 (by decide) lf_X0_42 rfl dX0_worst_40 ?_
    refine z_getN hx hb gN hnw htt iw_X5 hown hZ 5 rfl rfl 11 (by decide) lf_X0_116 rfl dX0_worst_43 ?_
    refine lv_icmp_ge (tgt := 78) hx hb dX0_worst_46 (by decide) (fun c_1 => ?_) (fun c_1 => ?_)
    · have hf := ite_t c_1 hf
      refine lv_iload_n hx hb dX0_worst_78 rfl (lv_at hl 2 rfl) ?_
      exact z_iret hx hb hr hlocks hZ (sp_1 hf) (sp_2 hf) dX0_worst_79
    · have hf := ite_f c_1 hf
      refine lv_aload_n hx hb dX0_worst_49 rfl (lv_at hl 0 rfl) ?_
      refine z_get hx hb htt iw_X0 hown hZ 0 rfl rfl 1 (by decide) lf_X0_19 rfl dX0_worst_50 ?_
      refine lv_aload_n hx hb dX0_worst_53 rfl (lv_at hl 0 rfl) ?_
      refine z_get hx hb htt iw_X0 hown hZ 0 rfl rfl 4 (by decide) lf_X0_42 rfl dX0_worst_54 ?_
      refine z_getN hx hb gN hnw htt iw_X5 hown hZ 5 rfl rfl 8 (by decide) lf_X0_120 rfl dX0_worst_57 ?_
      refine lv_iload_n hx hb dX0_worst_60 rfl (lv_at hl 3 rfl) ?_
      obtain ⟨h_2, hf⟩ := ck_s hf
      refine z_ild hx hb hZ 22 16 rfl rfl h_2 dX0_worst_61 ?_
      obtain ⟨r4, k_3, hf⟩ := bn_s hf
      refine z_calli (z_runVN (As := [.int (σ.1 22 (x3).toNatClampNeg)]) (rest := []) ⟨hx, hb, hml, hown, htt⟩ gT (ct_X2_severityOf l D A ad cA rs tr σ (σ.1 22 (x3).toNatClampNeg) k_3) md_X2_severityOf hnw lm_X0_79 rfl rfl ⟨Nat.le_of_ble_eq_true rfl, Nat.le_of_ble_eq_true rfl⟩ (z_preV gN hnw hZ rfl (q0 := 2) (ci := 2) rfl) rfl rfl hl.1 rfl (lv_room (Nat.le_of_ble_eq_true rfl)) dX0_worst_62 ⟨Nat.le_of_ble_eq_true rfl, Nat.le_of_ble_eq_true rfl⟩) hZ (fun H locs hZ => ?_)
      refine lv_iload_n hx hb dX0_worst_65 rfl (lv_at hl 1 rfl) ?_
      refine lv_icmp_ne (tgt := 72) hx hb dX0_worst_66 (by decide) (fun c_5 => ?_) (fun c_5 => ?_)
      · have hf := ite_f c_5 hf
        obtain ⟨v6, e_v6⟩ : ∃ y : Int32, y = x3 + 1 := ⟨_, rfl⟩
        have hf := lt_n e_v6 hf
        refine lv_iinc (v := v6) (lv' := [(3, .int v6), (0, .ref (ad 0)), (1, .int x1), (2, .int x2)]) hx hb dX0_worst_72 hl (k := 3) rfl (by rw [e_v6]; rfl) (by decide) rfl (fun ls hl => ?_)
        refine lv_goto (tgt := 38) hx hb dX0_worst_75 (by decide) ?_
        exact ih σ x1 x2 v6 _ _ _ hZ (lv_sub hl [1, 2, 3, 0] rfl) hf
      · have hf := ite_t c_5 hf
        obtain ⟨v7, e_v7⟩ : ∃ y : Int32, y = x2 + 1 := ⟨_, rfl⟩
        have hf := lt_n e_v7 hf
        refine lv_iinc (v := v7) (lv' := [(2, .int v7), (0, .ref (ad 0)), (1, .int x1), (3, .int x3)]) hx hb dX0_worst_69 hl (k := 2) rfl (by rw [e_v7]; rfl) (by decide) rfl (fun ls hl => ?_)
        obtain ⟨v8, e_v8⟩ : ∃ y : Int32, y = x3 + 1 := ⟨_, rfl⟩
        have hf := lt_n e_v8 hf
        refine lv_iinc (v := v8) (lv' := [(3, .int v8), (2, .int v7), (0, .ref (ad 0)), (1, .int x1)]) hx hb dX0_worst_72 hl (k := 3) rfl (by rw [e_v8]; rfl) (by decide) rfl (fun ls hl => ?_)
        refine lv_goto (tgt := 38) hx hb dX0_worst_75 (by decide) ?_
        exact ih σ x1 v7 v8 _ _ _ hZ (lv_sub hl [2, 3, 1, 0] rfl) hf
set_option maxHeartbeats 4000000 in
set_option maxRecDepth 100000 in
theorem ct_X0_worst (l : Launch) (D : va_G) (A : Nat → Prop) (ad : Nat → Nat) (cA : Nat → ClassId) (rs : va_W) (tr : List (ClassId × FieldType)) (σ : S2) (x1 : Int32) {res : Int32 × S2} (hf : fn_X0_worst σ x1 = some res) : Met l yX0_worst (.code yX0_worst cX0_worst 4 (some .int) :: tb) rm_X0_worst (va_Pc [.ref (ad 0), .int x1] (zN D vwCl (tyC cA tr) A (wC ad cA rs) nl σ)) (va_Qi (fun r' u' => r' = res.1 ∧ u' = res.2) (zB D vwCl (tyC cA tr) A (wC ad cA rs)) A) 0 0 A := by
  refine Met.ofW (cc := cX0_worst) (maxL := 4) (ret := (some .int)) (by decide) rfl ?_
  intro p e s m args below meth c s₁ B hml hv
  obtain ⟨rfl, hB, hnw0⟩ := hv
  have htt : ∀ w ∈ tb, w.before (([.ref (ad 0), .int x1] : List Value).toArray) s = true := fun w h => atoms_spec (ws := (.code yX0_worst cX0_worst 4 (some .int) :: tb)) B.pre w (List.mem_cons_of_mem _ h)
  have C0 : cx p m meth c cX0_worst (some .int) 4 s (([.ref (ad 0), .int x1] : List Value).toArray) tb nl RX0 := ⟨B.exec, B.bytes, B.returns, hml, findClass_of_methodNamed B.named, htt, B.notSynchronized, hnw0⟩
  obtain ⟨hx, hb, hr, hml, hown, htt, hlocks, hnw⟩ := id C0
  have hZ := z_start hB
  have hl := lv_entry ([.ref (ad 0), .int x1]) (n := 4) (Nat.le_of_ble_eq_true rfl)
  rw [lg_entry_eq]
  generalize (lg_sl ([.ref (ad 0), .int x1]) ++ List.replicate (4 - (lg_sl ([.ref (ad 0), .int x1])).length) Slot.unset).toArray = ls at hl ⊢
  have hl : lv_has ls 4 [(0, .ref (ad 0)), (1, .int x1)] := hl
  unfold fn_X0_worst at hf
  refine lv_iload_n hx hb dX0_worst_0 rfl (lv_at hl 1 rfl) ?_
  refine lv_iconst (v := 0) hx hb dX0_worst_1 (by decide) ?_
  refine lv_iconst (v := 2) hx hb dX0_worst_2 (by decide) ?_
  refine z_pcalli (z_runS (As := [.int x1, .int 0, .int 2]) (rest := []) ⟨hx, hb, hml, hown, htt⟩ gT (ct_X0_isBetween l x1 0 2 rfl) md_X0_isBetween lm_X0_76 rfl rfl ⟨Nat.le_of_ble_eq_true rfl, Nat.le_of_ble_eq_true rfl⟩ z_preP rfl rfl hl.1 rfl (lv_room (Nat.le_of_ble_eq_true rfl)) dX0_worst_3 ⟨Nat.le_of_ble_eq_true rfl, Nat.le_of_ble_eq_true rfl⟩) ?_
  refine lv_topi (fun r1 e_r1 => ?_)
  have hf := lt_n e_r1 hf
  refine lv_if_ne (tgt := 11) hx hb dX0_worst_6 (by decide) (fun c_2 => ?_) (fun c_2 => ?_)
  · have hf := ite_f c_2 hf
    refine lv_aload_n hx hb dX0_worst_11 rfl (lv_at hl 0 rfl) ?_
    refine z_get hx hb htt iw_X0 hown hZ 0 rfl rfl 4 (by decide) lf_X0_42 rfl dX0_worst_12 ?_
    obtain ⟨σ4, k_3, hf⟩ := bn_s hf
    refine z_callv (u := σ4) (z_runVN (As := []) (rest := []) ⟨hx, hb, hml, hown, htt⟩ gT (ct_X5_workOut l D A ad cA rs tr σ  k_3) md_X5_workOut hnw lm_X0_113 rfl rfl ⟨Nat.le_of_ble_eq_true rfl, Nat.le_of_ble_eq_true rfl⟩ (z_preV gN hnw hZ rfl (q0 := 5) (ci := 5) rfl) rfl rfl hl.1 rfl (lv_room (Nat.le_of_ble_eq_true rfl)) dX0_worst_15 ⟨Nat.le_of_ble_eq_true rfl, Nat.le_of_ble_eq_true rfl⟩) hZ (fun H locs hZ => ?_)
    refine lv_aload_n hx hb dX0_worst_18 rfl (lv_at hl 0 rfl) ?_
    refine z_get hx hb htt iw_X0 hown hZ 0 rfl rfl 4 (by decide) lf_X0_42 rfl dX0_worst_19 ?_
    refine z_getN hx hb gN hnw htt iw_X5 hown hZ 5 rfl rfl 11 (by decide) lf_X0_116 rfl dX0_worst_22 ?_
    refine lv_sipush (v := 250) hx hb dX0_worst_25 (by decide) ?_
    refine lv_icmp_le (tgt := 34) hx hb dX0_worst_28 (by decide) (fun c_5 => ?_) (fun c_5 => ?_)
    · have hf := ite_t c_5 hf
      refine lv_iconst (v := 0) hx hb dX0_worst_34 (by decide) ?_
      refine lv_istore_n (lv' := [(2, .int 0), (0, .ref (ad 0)), (1, .int x1)]) hx hb dX0_worst_35 rfl hl (by decide) rfl (fun ls hl => ?_)
      refine lv_iconst (v := 0) hx hb dX0_worst_36 (by decide) ?_
      refine lv_istore_n (lv' := [(3, .int 0), (2, .int 0), (0, .ref (ad 0)), (1, .int x1)]) hx hb dX0_worst_37 rfl hl (by decide) rfl (fun ls hl => ?_)
      exact wk_X0_worst_38 C0  fu σ4 x1 0 0 _ _ _ hZ (lv_sub hl [2, 3, 1, 0] rfl) hf
    · have hf := ite_f c_5 hf
      refine lv_bipush (v := (-4)) hx hb dX0_worst_31 (by decide) ?_
      exact z_iret hx hb hr hlocks hZ (sp_1 hf) (sp_2 hf) dX0_worst_33
  · have hf := ite_t c_2 hf
    refine lv_iconst (v := (-1)) hx hb dX0_worst_9 (by decide) ?_
    exact z_iret hx hb hr hlocks hZ (sp_1 hf) (sp_2 hf) dX0_worst_10
abbrev rm_X0_fits : Room := { frames := 6, cells := 0, slots := 0, locals := 140 }
def fn_X0_fits (σ : S2) (x1 : Int32) (x2 : Int32) : Option (Int32 × S2) := lt (fn_X0_isTerm x1) (fun r1 => if r1 = 0 then some ((-1), σ) else lt (fn_X2_has σ x2) (fun r3 => if r3 = 0 then some ((-1), σ) else bn (fn_X5_workOut σ) (fun σ6 => bn (fn_X5_fittingTerms σ6 x2) (fun r8 => lt (fn_X0_holdsBit r8 x1) (fun r9 => if r9 = 0 then some (0, σ6) else some (1, σ6))))))
set_option maxHeartbeats 4000000 in
set_option maxRecDepth 100000 in
theorem ct_X0_fits (l : Launch) (D : va_G) (A : Nat → Prop) (ad : Nat → Nat) (cA : Nat → ClassId) (rs : va_W) (tr : List (ClassId × FieldType)) (σ : S2) (x1 : Int32) (x2 : Int32) {res : Int32 × S2} (hf : fn_X0_fits σ x1 x2 = some res) : Met l yX0_fits (.code yX0_fits cX0_fits 3 (some .int) :: tb) rm_X0_fits (va_Pc [.ref (ad 0), .int x1, .int x2] (zN D vwCl (tyC cA tr) A (wC ad cA rs) nl σ)) (va_Qi (fun r' u' => r' = res.1 ∧ u' = res.2) (zB D vwCl (tyC cA tr) A (wC ad cA rs)) A) 0 0 A := by
  refine Met.ofW (cc := cX0_fits) (maxL := 3) (ret := (some .int)) (by decide) rfl ?_
  intro p e s m args below meth c s₁ B hml hv
  obtain ⟨rfl, hB, hnw0⟩ := hv
  have htt : ∀ w ∈ tb, w.before (([.ref (ad 0), .int x1, .int x2] : List Value).toArray) s = true := fun w h => atoms_spec (ws := (.code yX0_fits cX0_fits 3 (some .int) :: tb)) B.pre w (List.mem_cons_of_mem _ h)
  have C0 : cx p m meth c cX0_fits (some .int) 3 s (([.ref (ad 0), .int x1, .int x2] : List Value).toArray) tb nl RX0 := ⟨B.exec, B.bytes, B.returns, hml, findClass_of_methodNamed B.named, htt, B.notSynchronized, hnw0⟩
  obtain ⟨hx, hb, hr, hml, hown, htt, hlocks, hnw⟩ := id C0
  have hZ := z_start hB
  have hl := lv_entry ([.ref (ad 0), .int x1, .int x2]) (n := 3) (Nat.le_of_ble_eq_true rfl)
  rw [lg_entry_eq]
  generalize (lg_sl ([.ref (ad 0), .int x1, .int x2]) ++ List.replicate (3 - (lg_sl ([.ref (ad 0), .int x1, .int x2])).length) Slot.unset).toArray = ls at hl ⊢
  have hl : lv_has ls 3 [(0, .ref (ad 0)), (1, .int x1), (2, .int x2)] := hl
  unfold fn_X0_fits at hf
  refine lv_iload_n hx hb dX0_fits_0 rfl (lv_at hl 1 rfl) ?_
  refine z_pcalli (z_runS (As := [.int x1]) (rest := []) ⟨hx, hb, hml, hown, htt⟩ gT (ct_X0_isTerm l x1 rfl) md_X0_isTerm lm_X0_129 rfl rfl ⟨Nat.le_of_ble_eq_true rfl, Nat.le_of_ble_eq_true rfl⟩ z_preP rfl rfl hl.1 rfl (lv_room (Nat.le_of_ble_eq_true rfl)) dX0_fits_1 ⟨Nat.le_of_ble_eq_true rfl, Nat.le_of_ble_eq_true rfl⟩) ?_
  refine lv_topi (fun r1 e_r1 => ?_)
  have hf := lt_n e_r1 hf
  refine lv_if_eq (tgt := 18) hx hb dX0_fits_4 (by decide) (fun c_2 => ?_) (fun c_2 => ?_)
  · have hf := ite_t c_2 hf
    refine lv_iconst (v := (-1)) hx hb dX0_fits_18 (by decide) ?_
    exact z_iret hx hb hr hlocks hZ (sp_1 hf) (sp_2 hf) dX0_fits_19
  · have hf := ite_f c_2 hf
    refine lv_aload_n hx hb dX0_fits_7 rfl (lv_at hl 0 rfl) ?_
    refine z_get hx hb htt iw_X0 hown hZ 0 rfl rfl 1 (by decide) lf_X0_19 rfl dX0_fits_8 ?_
    refine lv_iload_n hx hb dX0_fits_11 rfl (lv_at hl 2 rfl) ?_
    refine z_calli (z_runVN (As := [.int x2]) (rest := []) ⟨hx, hb, hml, hown, htt⟩ gT (ct_X2_has l D A ad cA rs tr σ x2 rfl) md_X2_has hnw lm_X0_73 rfl rfl ⟨Nat.le_of_ble_eq_true rfl, Nat.le_of_ble_eq_true rfl⟩ (z_preV gN hnw hZ rfl (q0 := 2) (ci := 2) rfl) rfl rfl hl.1 rfl (lv_room (Nat.le_of_ble_eq_true rfl)) dX0_fits_12 ⟨Nat.le_of_ble_eq_true rfl, Nat.le_of_ble_eq_true rfl⟩) hZ (fun H locs hZ => ?_)
    refine lv_topi (fun r3 e_r3 => ?_)
    have hf := lt_n e_r3 hf
    refine lv_if_ne (tgt := 20) hx hb dX0_fits_15 (by decide) (fun c_4 => ?_) (fun c_4 => ?_)
    · have hf := ite_f c_4 hf
      refine lv_aload_n hx hb dX0_fits_20 rfl (lv_at hl 0 rfl) ?_
      refine z_get hx hb htt iw_X0 hown hZ 0 rfl rfl 4 (by decide) lf_X0_42 rfl dX0_fits_21 ?_
      obtain ⟨σ6, k_5, hf⟩ := bn_s hf
      refine z_callv (u := σ6) (z_runVN (As := []) (rest := []) ⟨hx, hb, hml, hown, htt⟩ gT (ct_X5_workOut l D A ad cA rs tr σ  k_5) md_X5_workOut hnw lm_X0_113 rfl rfl ⟨Nat.le_of_ble_eq_true rfl, Nat.le_of_ble_eq_true rfl⟩ (z_preV gN hnw hZ rfl (q0 := 5) (ci := 5) rfl) rfl rfl hl.1 rfl (lv_room (Nat.le_of_ble_eq_true rfl)) dX0_fits_24 ⟨Nat.le_of_ble_eq_true rfl, Nat.le_of_ble_eq_true rfl⟩) hZ (fun H locs hZ => ?_)
      refine lv_aload_n hx hb dX0_fits_27 rfl (lv_at hl 0 rfl) ?_
      refine z_get hx hb htt iw_X0 hown hZ 0 rfl rfl 4 (by decide) lf_X0_42 rfl dX0_fits_28 ?_
      refine lv_iload_n hx hb dX0_fits_31 rfl (lv_at hl 2 rfl) ?_
      obtain ⟨r8, k_7, hf⟩ := bn_s hf
      refine z_calli (z_runVN (As := [.int x2]) (rest := []) ⟨hx, hb, hml, hown, htt⟩ gT (ct_X5_fittingTerms l D A ad cA rs tr σ6 x2 k_7) md_X5_fittingTerms hnw lm_X0_132 rfl rfl ⟨Nat.le_of_ble_eq_true rfl, Nat.le_of_ble_eq_true rfl⟩ (z_preV gN hnw hZ rfl (q0 := 5) (ci := 5) rfl) rfl rfl hl.1 rfl (lv_room (Nat.le_of_ble_eq_true rfl)) dX0_fits_32 ⟨Nat.le_of_ble_eq_true rfl, Nat.le_of_ble_eq_true rfl⟩) hZ (fun H locs hZ => ?_)
      refine lv_iload_n hx hb dX0_fits_35 rfl (lv_at hl 1 rfl) ?_
      refine z_pcalli (z_runS (As := [.int r8, .int x1]) (rest := []) ⟨hx, hb, hml, hown, htt⟩ gT (ct_X0_holdsBit l r8 x1 rfl) md_X0_holdsBit lm_X0_135 rfl rfl ⟨Nat.le_of_ble_eq_true rfl, Nat.le_of_ble_eq_true rfl⟩ z_preP rfl rfl hl.1 rfl (lv_room (Nat.le_of_ble_eq_true rfl)) dX0_fits_36 ⟨Nat.le_of_ble_eq_true rfl, Nat.le_of_ble_eq_true rfl⟩) ?_
      refine lv_topi (fun r9 e_r9 => ?_)
      have hf := lt_n e_r9 hf
      refine lv_if_eq (tgt := 46) hx hb dX0_fits_39 (by decide) (fun c_10 => ?_) (fun c_10 => ?_)
      · have hf := ite_t c_10 hf
        refine lv_iconst (v := 0) hx hb dX0_fits_46 (by decide) ?_
        exact z_iret hx hb hr hlocks hZ (sp_1 hf) (sp_2 hf) dX0_fits_47
      · have hf := ite_f c_10 hf
        refine lv_iconst (v := 1) hx hb dX0_fits_42 (by decide) ?_
        refine lv_goto (tgt := 47) hx hb dX0_fits_43 (by decide) ?_
        exact z_iret hx hb hr hlocks hZ (sp_1 hf) (sp_2 hf) dX0_fits_47
    · have hf := ite_t c_4 hf
      refine lv_iconst (v := (-1)) hx hb dX0_fits_18 (by decide) ?_
      exact z_iret hx hb hr hlocks hZ (sp_1 hf) (sp_2 hf) dX0_fits_19
abbrev rm_X0_termAt : Room := { frames := 1, cells := 0, slots := 0, locals := 21 }
def fn_X0_termAt_4 : Nat → Int32 → Int32 → Int32 → Option (Int32)
  | 0, _, _, _ => none
  | n + 1, x0, x2, x3 => if 32 ≤ x3 then some (-2) else lt (fn_X0_holdsBit x0 x3) (fun r2 => if r2 = 0 then lt (x3 + 1) (fun v4 => fn_X0_termAt_4 n x0 x2 v4) else if x2 = 0 then some x3 else lt (x2 + (-1)) (fun v6 => lt (x3 + 1) (fun v7 => fn_X0_termAt_4 n x0 v6 v7)))
def fn_X0_termAt (x0 : Int32) (x1 : Int32) : Option (Int32) := fn_X0_termAt_4 fu x0 x1 0
set_option maxHeartbeats 4000000 in
set_option maxRecDepth 100000 in
theorem wk_X0_termAt_4 {p : Program} {l : Launch} {e : Env} {s : State} {m : MethodId} {args : Array Value} {below : List Frame} {meth : Method} {c : Code} {res : Int32} (C0 : cx p m meth c cX0_termAt (some .int) 4 s args tb [] RX0) : ∀ (n : Nat) (x0 : Int32) (x2 : Int32) (x3 : Int32), ∀ (ls : Array Slot), lv_has ls 4 [(0, .int x0), (2, .int x2), (3, .int x3)] → fn_X0_termAt_4 n x0 x2 x3 = some res → W p l e rm_X0_termAt s m args below meth c s.heap [] 0 0 (MQ below (vp_Si (fun r' => r' = res)) args s 0 0 (fun _ => False)) (F0 m 4 ls []) := by
  obtain ⟨hx, hb, hr, hml, hown, htt, hlocks, hnw⟩ := id C0
  intro n
  induction n with
  | zero => intro x0 x2 x3 ls hl hf; exact no_some hf
  | succ n ih =>
    intro x0 x2 x3 ls hl hf
    rw [fn_X0_termAt_4] at hf
    refine lv_iload_n hx hb dX0_termAt_4 rfl (lv_at hl 2 rfl) ?_
    refine lv_bipush (v := 32) hx hb dX0_termAt_5 (by decide) ?_
    refine lv_icmp_ge (tgt := 33) hx hb dX0_termAt_7 (by decide) (fun c_1 => ?_) (fun c_1 => ?_)
    · have hf := ite_t c_1 hf
      refine lv_bipush (v := (-2)) hx hb dX0_termAt_33 (by decide) ?_
      exact z_piret hx hb hr hlocks (Option.some.inj hf) dX0_termAt_35
    · have hf := ite_f c_1 hf
      refine lv_iload_n hx hb dX0_termAt_10 rfl (lv_at hl 0 rfl) ?_
      refine lv_iload_n hx hb dX0_termAt_11 rfl (lv_at hl 2 rfl) ?_
      refine z_pcalli (z_runS (As := [.int x0, .int x3]) (rest := []) ⟨hx, hb, hml, hown, htt⟩ gT (ct_X0_holdsBit l x0 x3 rfl) md_X0_holdsBit lm_X0_135 rfl rfl ⟨Nat.le_of_ble_eq_true rfl, Nat.le_of_ble_eq_true rfl⟩ z_preP rfl rfl hl.1 rfl (lv_room (Nat.le_of_ble_eq_true rfl)) dX0_termAt_12 ⟨Nat.le_of_ble_eq_true rfl, Nat.le_of_ble_eq_true rfl⟩) ?_
      refine lv_topi (fun r2 e_r2 => ?_)
      have hf := lt_n e_r2 hf
      refine lv_if_eq (tgt := 27) hx hb dX0_termAt_15 (by decide) (fun c_3 => ?_) (fun c_3 => ?_)
      · have hf := ite_t c_3 hf
        obtain ⟨v4, e_v4⟩ : ∃ y : Int32, y = x3 + 1 := ⟨_, rfl⟩
        have hf := lt_n e_v4 hf
        refine lv_iinc (v := v4) (lv' := [(3, .int v4), (0, .int x0), (2, .int x2)]) hx hb dX0_termAt_27 hl (k := 2) rfl (by rw [e_v4]; rfl) (by decide) rfl (fun ls hl => ?_)
        refine lv_goto (tgt := 4) hx hb dX0_termAt_30 (by decide) ?_
        exact ih x0 x2 v4 _ (lv_sub hl [1, 2, 0] rfl) hf
      · have hf := ite_f c_3 hf
        refine lv_iload_n hx hb dX0_termAt_18 rfl (lv_at hl 1 rfl) ?_
        refine lv_if_ne (tgt := 24) hx hb dX0_termAt_19 (by decide) (fun c_5 => ?_) (fun c_5 => ?_)
        · have hf := ite_f c_5 hf
          obtain ⟨v6, e_v6⟩ : ∃ y : Int32, y = x2 + (-1) := ⟨_, rfl⟩
          have hf := lt_n e_v6 hf
          refine lv_iinc (v := v6) (lv' := [(2, .int v6), (0, .int x0), (3, .int x3)]) hx hb dX0_termAt_24 hl (k := 1) rfl (by rw [e_v6]; rfl) (by decide) rfl (fun ls hl => ?_)
          obtain ⟨v7, e_v7⟩ : ∃ y : Int32, y = x3 + 1 := ⟨_, rfl⟩
          have hf := lt_n e_v7 hf
          refine lv_iinc (v := v7) (lv' := [(3, .int v7), (2, .int v6), (0, .int x0)]) hx hb dX0_termAt_27 hl (k := 2) rfl (by rw [e_v7]; rfl) (by decide) rfl (fun ls hl => ?_)
          refine lv_goto (tgt := 4) hx hb dX0_termAt_30 (by decide) ?_
          exact ih x0 v6 v7 _ (lv_sub hl [2, 1, 0] rfl) hf
        · have hf := ite_t c_5 hf
          refine lv_iload_n hx hb dX0_termAt_22 rfl (lv_at hl 2 rfl) ?_
          exact z_piret hx hb hr hlocks (Option.some.inj hf) dX0_termAt_23
set_option maxHeartbeats 4000000 in
set_option maxRecDepth 100000 in
theorem ct_X0_termAt (l : Launch) (x0 : Int32) (x1 : Int32) {res : Int32} (hf : fn_X0_termAt x0 x1 = some res) : Met l yX0_termAt (.code yX0_termAt cX0_termAt 4 (some .int) :: tb) rm_X0_termAt (va_Pc [.int x0, .int x1] (fun _ => True)) (vp_Si (fun r' => r' = res)) 0 0 (fun _ => False) := by
  refine Met.ofW (cc := cX0_termAt) (maxL := 4) (ret := (some .int)) (by decide) rfl ?_
  intro p e s m args below meth c s₁ B hml hv
  obtain ⟨rfl, hB⟩ := hv
  have htt : ∀ w ∈ tb, w.before (([.int x0, .int x1] : List Value).toArray) s = true := fun w h => atoms_spec (ws := (.code yX0_termAt cX0_termAt 4 (some .int) :: tb)) B.pre w (List.mem_cons_of_mem _ h)
  have C0 : cx p m meth c cX0_termAt (some .int) 4 s (([.int x0, .int x1] : List Value).toArray) tb [] RX0 := ⟨B.exec, B.bytes, B.returns, hml, findClass_of_methodNamed B.named, htt, B.notSynchronized, fun _ h => absurd h List.not_mem_nil⟩
  obtain ⟨hx, hb, hr, hml, hown, htt, hlocks, hnw⟩ := id C0
  have hl := lv_entry ([.int x0, .int x1]) (n := 4) (Nat.le_of_ble_eq_true rfl)
  rw [lg_entry_eq]
  generalize (lg_sl ([.int x0, .int x1]) ++ List.replicate (4 - (lg_sl ([.int x0, .int x1])).length) Slot.unset).toArray = ls at hl ⊢
  have hl : lv_has ls 4 [(0, .int x0), (1, .int x1)] := hl
  unfold fn_X0_termAt at hf
  refine lv_iload_n hx hb dX0_termAt_0 rfl (lv_at hl 1 rfl) ?_
  refine lv_istore_n (lv' := [(2, .int x1), (0, .int x0), (1, .int x1)]) hx hb dX0_termAt_1 rfl hl (by decide) rfl (fun ls hl => ?_)
  refine lv_iconst (v := 0) hx hb dX0_termAt_2 (by decide) ?_
  refine lv_istore_n (lv' := [(3, .int 0), (2, .int x1), (0, .int x0), (1, .int x1)]) hx hb dX0_termAt_3 rfl hl (by decide) rfl (fun ls hl => ?_)
  exact wk_X0_termAt_4 C0  fu x0 x1 0 _ (lv_sub hl [2, 1, 0] rfl) hf
abbrev rm_X0_focus : Room := { frames := 4, cells := 0, slots := 0, locals := 94 }
def fn_X0_focus (σ : S2) (x1 : Int32) (x2 : Int32) : Option (Int32) := lt (fn_X2_has σ x1) (fun r1 => if r1 = 0 then some (-1) else bn (fn_X3_termsOf σ x1) (fun r4 => bn (fn_X0_termAt r4 x2) (fun r6 => some r6)))
set_option maxHeartbeats 4000000 in
set_option maxRecDepth 100000 in
theorem ct_X0_focus (l : Launch) (D : va_G) (A : Nat → Prop) (ad : Nat → Nat) (cA : Nat → ClassId) (rs : va_W) (tr : List (ClassId × FieldType)) (σ : S2) (x1 : Int32) (x2 : Int32) {res : Int32} (hf : fn_X0_focus σ x1 x2 = some res) : Met l yX0_focus (.code yX0_focus cX0_focus 3 (some .int) :: tb) rm_X0_focus (va_Pc [.ref (ad 0), .int x1, .int x2] (zN D vwCl (tyC cA tr) A (wC ad cA rs) nl σ)) (va_Qi (fun r' u' => r' = res ∧ u' = σ) (zB D vwCl (tyC cA tr) A (wC ad cA rs)) A) 0 0 A := by
  refine Met.ofW (cc := cX0_focus) (maxL := 3) (ret := (some .int)) (by decide) rfl ?_
  intro p e s m args below meth c s₁ B hml hv
  obtain ⟨rfl, hB, hnw0⟩ := hv
  have htt : ∀ w ∈ tb, w.before (([.ref (ad 0), .int x1, .int x2] : List Value).toArray) s = true := fun w h => atoms_spec (ws := (.code yX0_focus cX0_focus 3 (some .int) :: tb)) B.pre w (List.mem_cons_of_mem _ h)
  have C0 : cx p m meth c cX0_focus (some .int) 3 s (([.ref (ad 0), .int x1, .int x2] : List Value).toArray) tb nl RX0 := ⟨B.exec, B.bytes, B.returns, hml, findClass_of_methodNamed B.named, htt, B.notSynchronized, hnw0⟩
  obtain ⟨hx, hb, hr, hml, hown, htt, hlocks, hnw⟩ := id C0
  have hZ := z_start hB
  have hl := lv_entry ([.ref (ad 0), .int x1, .int x2]) (n := 3) (Nat.le_of_ble_eq_true rfl)
  rw [lg_entry_eq]
  generalize (lg_sl ([.ref (ad 0), .int x1, .int x2]) ++ List.replicate (3 - (lg_sl ([.ref (ad 0), .int x1, .int x2])).length) Slot.unset).toArray = ls at hl ⊢
  have hl : lv_has ls 3 [(0, .ref (ad 0)), (1, .int x1), (2, .int x2)] := hl
  unfold fn_X0_focus at hf
  refine lv_aload_n hx hb dX0_focus_0 rfl (lv_at hl 0 rfl) ?_
  refine z_get hx hb htt iw_X0 hown hZ 0 rfl rfl 1 (by decide) lf_X0_19 rfl dX0_focus_1 ?_
  refine lv_iload_n hx hb dX0_focus_4 rfl (lv_at hl 1 rfl) ?_
  refine z_calli (z_runVN (As := [.int x1]) (rest := []) ⟨hx, hb, hml, hown, htt⟩ gT (ct_X2_has l D A ad cA rs tr σ x1 rfl) md_X2_has hnw lm_X0_73 rfl rfl ⟨Nat.le_of_ble_eq_true rfl, Nat.le_of_ble_eq_true rfl⟩ (z_preV gN hnw hZ rfl (q0 := 2) (ci := 2) rfl) rfl rfl hl.1 rfl (lv_room (Nat.le_of_ble_eq_true rfl)) dX0_focus_5 ⟨Nat.le_of_ble_eq_true rfl, Nat.le_of_ble_eq_true rfl⟩) hZ (fun H locs hZ => ?_)
  refine lv_topi (fun r1 e_r1 => ?_)
  have hf := lt_n e_r1 hf
  refine lv_if_ne (tgt := 13) hx hb dX0_focus_8 (by decide) (fun c_2 => ?_) (fun c_2 => ?_)
  · have hf := ite_f c_2 hf
    refine lv_aload_n hx hb dX0_focus_13 rfl (lv_at hl 0 rfl) ?_
    refine z_get hx hb htt iw_X0 hown hZ 0 rfl rfl 2 (by decide) lf_X0_26 rfl dX0_focus_14 ?_
    refine lv_iload_n hx hb dX0_focus_17 rfl (lv_at hl 1 rfl) ?_
    refine lv_aload_n hx hb dX0_focus_18 rfl (lv_at hl 0 rfl) ?_
    refine z_get hx hb htt iw_X0 hown hZ 0 rfl rfl 0 (by decide) lf_X0_10 rfl dX0_focus_19 ?_
    obtain ⟨r4, k_3, hf⟩ := bn_s hf
    refine z_calli (z_runVN (As := [.int x1, .ref (ad 1)]) (rest := []) ⟨hx, hb, hml, hown, htt⟩ gT (ct_X3_termsOf l D A ad cA rs tr σ x1 k_3) md_X3_termsOf hnw lm_X0_138 rfl rfl ⟨Nat.le_of_ble_eq_true rfl, Nat.le_of_ble_eq_true rfl⟩ (z_preV gN hnw hZ rfl (q0 := 3) (ci := 3) rfl) rfl rfl hl.1 rfl (lv_room (Nat.le_of_ble_eq_true rfl)) dX0_focus_22 ⟨Nat.le_of_ble_eq_true rfl, Nat.le_of_ble_eq_true rfl⟩) hZ (fun H locs hZ => ?_)
    refine lv_iload_n hx hb dX0_focus_25 rfl (lv_at hl 2 rfl) ?_
    obtain ⟨r6, k_5, hf⟩ := bn_s hf
    refine z_pcalli (z_runS (As := [.int r4, .int x2]) (rest := []) ⟨hx, hb, hml, hown, htt⟩ gT (ct_X0_termAt l r4 x2 k_5) md_X0_termAt lm_X0_142 rfl rfl ⟨Nat.le_of_ble_eq_true rfl, Nat.le_of_ble_eq_true rfl⟩ z_preP rfl rfl hl.1 rfl (lv_room (Nat.le_of_ble_eq_true rfl)) dX0_focus_26 ⟨Nat.le_of_ble_eq_true rfl, Nat.le_of_ble_eq_true rfl⟩) ?_
    exact z_iret hx hb hr hlocks hZ (Option.some.inj hf) rfl dX0_focus_29
  · have hf := ite_t c_2 hf
    refine lv_iconst (v := (-1)) hx hb dX0_focus_11 (by decide) ?_
    exact z_iret hx hb hr hlocks hZ (Option.some.inj hf) rfl dX0_focus_12
abbrev rm_X2_pathOf : Room := { frames := 1, cells := 0, slots := 0, locals := 21 }
def fn_X2_pathOf (σ : S2) (x1 : Int32) : Option (Int32) := lt (fn_X2_has σ x1) (fun r1 => if r1 = 0 then some (-1) else ck x1 12 (some (σ.1 8 (x1).toNatClampNeg)))
set_option maxHeartbeats 4000000 in
set_option maxRecDepth 100000 in
theorem ct_X2_pathOf (l : Launch) (D : va_G) (A : Nat → Prop) (ad : Nat → Nat) (cA : Nat → ClassId) (rs : va_W) (tr : List (ClassId × FieldType)) (σ : S2) (x1 : Int32) {res : Int32} (hf : fn_X2_pathOf σ x1 = some res) : Met l yX2_pathOf (.code yX2_pathOf cX2_pathOf 2 (some .int) :: tb) rm_X2_pathOf (va_Pc [.ref (ad 2), .int x1] (zN D vwCl (tyC cA tr) A (wC ad cA rs) nl σ)) (va_Qi (fun r' u' => r' = res ∧ u' = σ) (zB D vwCl (tyC cA tr) A (wC ad cA rs)) A) 0 0 A := by
  refine Met.ofW (cc := cX2_pathOf) (maxL := 2) (ret := (some .int)) (by decide) rfl ?_
  intro p e s m args below meth c s₁ B hml hv
  obtain ⟨rfl, hB, hnw0⟩ := hv
  have htt : ∀ w ∈ tb, w.before (([.ref (ad 2), .int x1] : List Value).toArray) s = true := fun w h => atoms_spec (ws := (.code yX2_pathOf cX2_pathOf 2 (some .int) :: tb)) B.pre w (List.mem_cons_of_mem _ h)
  have C0 : cx p m meth c cX2_pathOf (some .int) 2 s (([.ref (ad 2), .int x1] : List Value).toArray) tb nl RX2 := ⟨B.exec, B.bytes, B.returns, hml, findClass_of_methodNamed B.named, htt, B.notSynchronized, hnw0⟩
  obtain ⟨hx, hb, hr, hml, hown, htt, hlocks, hnw⟩ := id C0
  have hZ := z_start hB
  have hl := lv_entry ([.ref (ad 2), .int x1]) (n := 2) (Nat.le_of_ble_eq_true rfl)
  rw [lg_entry_eq]
  generalize (lg_sl ([.ref (ad 2), .int x1]) ++ List.replicate (2 - (lg_sl ([.ref (ad 2), .int x1])).length) Slot.unset).toArray = ls at hl ⊢
  have hl : lv_has ls 2 [(0, .ref (ad 2)), (1, .int x1)] := hl
  unfold fn_X2_pathOf at hf
  refine lv_aload_n hx hb dX2_pathOf_0 rfl (lv_at hl 0 rfl) ?_
  refine lv_iload_n hx hb dX2_pathOf_1 rfl (lv_at hl 1 rfl) ?_
  refine z_calli (z_runV (As := [.int x1]) (rest := []) ⟨hx, hb, hml, hown, htt⟩ gT (ct_X2_has l D A ad cA rs tr σ x1 rfl) md_X2_has lm_X2_25 rfl rfl ⟨Nat.le_of_ble_eq_true rfl, Nat.le_of_ble_eq_true rfl⟩ (z_preV gN hnw hZ rfl (q0 := 2) (ci := 2) rfl) rfl rfl hl.1 rfl (lv_room (Nat.le_of_ble_eq_true rfl)) dX2_pathOf_2 ⟨Nat.le_of_ble_eq_true rfl, Nat.le_of_ble_eq_true rfl⟩) hZ (fun H locs hZ => ?_)
  refine lv_topi (fun r1 e_r1 => ?_)
  have hf := lt_n e_r1 hf
  refine lv_if_eq (tgt := 17) hx hb dX2_pathOf_5 (by decide) (fun c_2 => ?_) (fun c_2 => ?_)
  · have hf := ite_t c_2 hf
    refine lv_iconst (v := (-1)) hx hb dX2_pathOf_17 (by decide) ?_
    exact z_iret hx hb hr hlocks hZ (Option.some.inj hf) rfl dX2_pathOf_18
  · have hf := ite_f c_2 hf
    refine lv_aload_n hx hb dX2_pathOf_8 rfl (lv_at hl 0 rfl) ?_
    refine z_get hx hb htt iw_X2 hown hZ 2 rfl rfl 0 (by decide) lf_X2_9 rfl dX2_pathOf_9 ?_
    refine lv_iload_n hx hb dX2_pathOf_12 rfl (lv_at hl 1 rfl) ?_
    obtain ⟨h_3, hf⟩ := ck_s hf
    refine z_ild hx hb hZ 8 2 rfl rfl h_3 dX2_pathOf_13 ?_
    refine lv_goto (tgt := 18) hx hb dX2_pathOf_14 (by decide) ?_
    exact z_iret hx hb hr hlocks hZ (Option.some.inj hf) rfl dX2_pathOf_18
abbrev rm_X0_value : Room := { frames := 3, cells := 0, slots := 0, locals := 64 }
def fn_X0_value (σ : S2) (x1 : Int32) (x2 : Int32) (x3 : Int32) : Option (Int32) := lt (fn_X0_isTerm x1) (fun r1 => if r1 = 0 then some (-1) else lt (fn_X2_has σ x2) (fun r3 => if r3 = 0 then some (-1) else bn (fn_X2_pathOf σ x2) (fun r6 => bn (fn_X1_byPath σ x1 r6) (fun r8 => bn (fn_X0_termAt r8 x3) (fun r10 => some r10)))))
set_option maxHeartbeats 4000000 in
set_option maxRecDepth 100000 in
theorem ct_X0_value (l : Launch) (D : va_G) (A : Nat → Prop) (ad : Nat → Nat) (cA : Nat → ClassId) (rs : va_W) (tr : List (ClassId × FieldType)) (σ : S2) (x1 : Int32) (x2 : Int32) (x3 : Int32) {res : Int32} (hf : fn_X0_value σ x1 x2 x3 = some res) : Met l yX0_value (.code yX0_value cX0_value 4 (some .int) :: tb) rm_X0_value (va_Pc [.ref (ad 0), .int x1, .int x2, .int x3] (zN D vwCl (tyC cA tr) A (wC ad cA rs) nl σ)) (va_Qi (fun r' u' => r' = res ∧ u' = σ) (zB D vwCl (tyC cA tr) A (wC ad cA rs)) A) 0 0 A := by
  refine Met.ofW (cc := cX0_value) (maxL := 4) (ret := (some .int)) (by decide) rfl ?_
  intro p e s m args below meth c s₁ B hml hv
  obtain ⟨rfl, hB, hnw0⟩ := hv
  have htt : ∀ w ∈ tb, w.before (([.ref (ad 0), .int x1, .int x2, .int x3] : List Value).toArray) s = true := fun w h => atoms_spec (ws := (.code yX0_value cX0_value 4 (some .int) :: tb)) B.pre w (List.mem_cons_of_mem _ h)
  have C0 : cx p m meth c cX0_value (some .int) 4 s (([.ref (ad 0), .int x1, .int x2, .int x3] : List Value).toArray) tb nl RX0 := ⟨B.exec, B.bytes, B.returns, hml, findClass_of_methodNamed B.named, htt, B.notSynchronized, hnw0⟩
  obtain ⟨hx, hb, hr, hml, hown, htt, hlocks, hnw⟩ := id C0
  have hZ := z_start hB
  have hl := lv_entry ([.ref (ad 0), .int x1, .int x2, .int x3]) (n := 4) (Nat.le_of_ble_eq_true rfl)
  rw [lg_entry_eq]
  generalize (lg_sl ([.ref (ad 0), .int x1, .int x2, .int x3]) ++ List.replicate (4 - (lg_sl ([.ref (ad 0), .int x1, .int x2, .int x3])).length) Slot.unset).toArray = ls at hl ⊢
  have hl : lv_has ls 4 [(0, .ref (ad 0)), (1, .int x1), (2, .int x2), (3, .int x3)] := hl
  unfold fn_X0_value at hf
  refine lv_iload_n hx hb dX0_value_0 rfl (lv_at hl 1 rfl) ?_
  refine z_pcalli (z_runS (As := [.int x1]) (rest := []) ⟨hx, hb, hml, hown, htt⟩ gT (ct_X0_isTerm l x1 rfl) md_X0_isTerm lm_X0_129 rfl rfl ⟨Nat.le_of_ble_eq_true rfl, Nat.le_of_ble_eq_true rfl⟩ z_preP rfl rfl hl.1 rfl (lv_room (Nat.le_of_ble_eq_true rfl)) dX0_value_1 ⟨Nat.le_of_ble_eq_true rfl, Nat.le_of_ble_eq_true rfl⟩) ?_
  refine lv_topi (fun r1 e_r1 => ?_)
  have hf := lt_n e_r1 hf
  refine lv_if_eq (tgt := 18) hx hb dX0_value_4 (by decide) (fun c_2 => ?_) (fun c_2 => ?_)
  · have hf := ite_t c_2 hf
    refine lv_iconst (v := (-1)) hx hb dX0_value_18 (by decide) ?_
    exact z_iret hx hb hr hlocks hZ (Option.some.inj hf) rfl dX0_value_19
  · have hf := ite_f c_2 hf
    refine lv_aload_n hx hb dX0_value_7 rfl (lv_at hl 0 rfl) ?_
    refine z_get hx hb htt iw_X0 hown hZ 0 rfl rfl 1 (by decide) lf_X0_19 rfl dX0_value_8 ?_
    refine lv_iload_n hx hb dX0_value_11 rfl (lv_at hl 2 rfl) ?_
    refine z_calli (z_runVN (As := [.int x2]) (rest := []) ⟨hx, hb, hml, hown, htt⟩ gT (ct_X2_has l D A ad cA rs tr σ x2 rfl) md_X2_has hnw lm_X0_73 rfl rfl ⟨Nat.le_of_ble_eq_true rfl, Nat.le_of_ble_eq_true rfl⟩ (z_preV gN hnw hZ rfl (q0 := 2) (ci := 2) rfl) rfl rfl hl.1 rfl (lv_room (Nat.le_of_ble_eq_true rfl)) dX0_value_12 ⟨Nat.le_of_ble_eq_true rfl, Nat.le_of_ble_eq_true rfl⟩) hZ (fun H locs hZ => ?_)
    refine lv_topi (fun r3 e_r3 => ?_)
    have hf := lt_n e_r3 hf
    refine lv_if_ne (tgt := 20) hx hb dX0_value_15 (by decide) (fun c_4 => ?_) (fun c_4 => ?_)
    · have hf := ite_f c_4 hf
      refine lv_aload_n hx hb dX0_value_20 rfl (lv_at hl 0 rfl) ?_
      refine z_get hx hb htt iw_X0 hown hZ 0 rfl rfl 0 (by decide) lf_X0_10 rfl dX0_value_21 ?_
      refine lv_iload_n hx hb dX0_value_24 rfl (lv_at hl 1 rfl) ?_
      refine lv_aload_n hx hb dX0_value_25 rfl (lv_at hl 0 rfl) ?_
      refine z_get hx hb htt iw_X0 hown hZ 0 rfl rfl 1 (by decide) lf_X0_19 rfl dX0_value_26 ?_
      refine lv_iload_n hx hb dX0_value_29 rfl (lv_at hl 2 rfl) ?_
      obtain ⟨r6, k_5, hf⟩ := bn_s hf
      refine z_calli (z_runVN (As := [.int x2]) (rest := [.int x1, .ref (ad 1)]) ⟨hx, hb, hml, hown, htt⟩ gT (ct_X2_pathOf l D A ad cA rs tr σ x2 k_5) md_X2_pathOf hnw lm_X0_146 rfl rfl ⟨Nat.le_of_ble_eq_true rfl, Nat.le_of_ble_eq_true rfl⟩ (z_preV gN hnw hZ rfl (q0 := 2) (ci := 2) rfl) rfl rfl hl.1 rfl (lv_room (Nat.le_of_ble_eq_true rfl)) dX0_value_30 ⟨Nat.le_of_ble_eq_true rfl, Nat.le_of_ble_eq_true rfl⟩) hZ (fun H locs hZ => ?_)
      obtain ⟨r8, k_7, hf⟩ := bn_s hf
      refine z_calli (z_runVN (As := [.int x1, .int r6]) (rest := []) ⟨hx, hb, hml, hown, htt⟩ gT (ct_X1_byPath l D A ad cA rs tr σ x1 r6 k_7) md_X1_byPath hnw lm_X0_149 rfl rfl ⟨Nat.le_of_ble_eq_true rfl, Nat.le_of_ble_eq_true rfl⟩ (z_preV gN hnw hZ rfl (q0 := 1) (ci := 1) rfl) rfl rfl hl.1 rfl (lv_room (Nat.le_of_ble_eq_true rfl)) dX0_value_33 ⟨Nat.le_of_ble_eq_true rfl, Nat.le_of_ble_eq_true rfl⟩) hZ (fun H locs hZ => ?_)
      refine lv_iload_n hx hb dX0_value_36 rfl (lv_at hl 3 rfl) ?_
      obtain ⟨r10, k_9, hf⟩ := bn_s hf
      refine z_pcalli (z_runS (As := [.int r8, .int x3]) (rest := []) ⟨hx, hb, hml, hown, htt⟩ gT (ct_X0_termAt l r8 x3 k_9) md_X0_termAt lm_X0_142 rfl rfl ⟨Nat.le_of_ble_eq_true rfl, Nat.le_of_ble_eq_true rfl⟩ z_preP rfl rfl hl.1 rfl (lv_room (Nat.le_of_ble_eq_true rfl)) dX0_value_37 ⟨Nat.le_of_ble_eq_true rfl, Nat.le_of_ble_eq_true rfl⟩) ?_
      exact z_iret hx hb hr hlocks hZ (Option.some.inj hf) rfl dX0_value_40
    · have hf := ite_t c_4 hf
      refine lv_iconst (v := (-1)) hx hb dX0_value_18 (by decide) ?_
      exact z_iret hx hb hr hlocks hZ (Option.some.inj hf) rfl dX0_value_19
abbrev rm_X0_isOf : Room := { frames := 2, cells := 0, slots := 0, locals := 48 }
def fn_X0_isOf (σ : S2) (x1 : Int32) (x2 : Int32) : Option (Int32) := lt (fn_X0_isTerm x1) (fun r1 => if r1 = 0 then some (-1) else lt (fn_X0_isNode x2) (fun r3 => if r3 = 0 then some (-1) else bn (fn_X1_ofClass σ x2) (fun r6 => lt (fn_X0_holdsBit r6 x1) (fun r7 => if r7 = 0 then some 0 else some 1))))
set_option maxHeartbeats 4000000 in
set_option maxRecDepth 100000 in
theorem ct_X0_isOf (l : Launch) (D : va_G) (A : Nat → Prop) (ad : Nat → Nat) (cA : Nat → ClassId) (rs : va_W) (tr : List (ClassId × FieldType)) (σ : S2) (x1 : Int32) (x2 : Int32) {res : Int32} (hf : fn_X0_isOf σ x1 x2 = some res) : Met l yX0_isOf (.code yX0_isOf cX0_isOf 3 (some .int) :: tb) rm_X0_isOf (va_Pc [.ref (ad 0), .int x1, .int x2] (zN D vwCl (tyC cA tr) A (wC ad cA rs) nl σ)) (va_Qi (fun r' u' => r' = res ∧ u' = σ) (zB D vwCl (tyC cA tr) A (wC ad cA rs)) A) 0 0 A := by
  refine Met.ofW (cc := cX0_isOf) (maxL := 3) (ret := (some .int)) (by decide) rfl ?_
  intro p e s m args below meth c s₁ B hml hv
  obtain ⟨rfl, hB, hnw0⟩ := hv
  have htt : ∀ w ∈ tb, w.before (([.ref (ad 0), .int x1, .int x2] : List Value).toArray) s = true := fun w h => atoms_spec (ws := (.code yX0_isOf cX0_isOf 3 (some .int) :: tb)) B.pre w (List.mem_cons_of_mem _ h)
  have C0 : cx p m meth c cX0_isOf (some .int) 3 s (([.ref (ad 0), .int x1, .int x2] : List Value).toArray) tb nl RX0 := ⟨B.exec, B.bytes, B.returns, hml, findClass_of_methodNamed B.named, htt, B.notSynchronized, hnw0⟩
  obtain ⟨hx, hb, hr, hml, hown, htt, hlocks, hnw⟩ := id C0
  have hZ := z_start hB
  have hl := lv_entry ([.ref (ad 0), .int x1, .int x2]) (n := 3) (Nat.le_of_ble_eq_true rfl)
  rw [lg_entry_eq]
  generalize (lg_sl ([.ref (ad 0), .int x1, .int x2]) ++ List.replicate (3 - (lg_sl ([.ref (ad 0), .int x1, .int x2])).length) Slot.unset).toArray = ls at hl ⊢
  have hl : lv_has ls 3 [(0, .ref (ad 0)), (1, .int x1), (2, .int x2)] := hl
  unfold fn_X0_isOf at hf
  refine lv_iload_n hx hb dX0_isOf_0 rfl (lv_at hl 1 rfl) ?_
  refine z_pcalli (z_runS (As := [.int x1]) (rest := []) ⟨hx, hb, hml, hown, htt⟩ gT (ct_X0_isTerm l x1 rfl) md_X0_isTerm lm_X0_129 rfl rfl ⟨Nat.le_of_ble_eq_true rfl, Nat.le_of_ble_eq_true rfl⟩ z_preP rfl rfl hl.1 rfl (lv_room (Nat.le_of_ble_eq_true rfl)) dX0_isOf_1 ⟨Nat.le_of_ble_eq_true rfl, Nat.le_of_ble_eq_true rfl⟩) ?_
  refine lv_topi (fun r1 e_r1 => ?_)
  have hf := lt_n e_r1 hf
  refine lv_if_eq (tgt := 14) hx hb dX0_isOf_4 (by decide) (fun c_2 => ?_) (fun c_2 => ?_)
  · have hf := ite_t c_2 hf
    refine lv_iconst (v := (-1)) hx hb dX0_isOf_14 (by decide) ?_
    exact z_iret hx hb hr hlocks hZ (Option.some.inj hf) rfl dX0_isOf_15
  · have hf := ite_f c_2 hf
    refine lv_iload_n hx hb dX0_isOf_7 rfl (lv_at hl 2 rfl) ?_
    refine z_pcalli (z_runS (As := [.int x2]) (rest := []) ⟨hx, hb, hml, hown, htt⟩ gT (ct_X0_isNode l x2 rfl) md_X0_isNode lm_X0_152 rfl rfl ⟨Nat.le_of_ble_eq_true rfl, Nat.le_of_ble_eq_true rfl⟩ z_preP rfl rfl hl.1 rfl (lv_room (Nat.le_of_ble_eq_true rfl)) dX0_isOf_8 ⟨Nat.le_of_ble_eq_true rfl, Nat.le_of_ble_eq_true rfl⟩) ?_
    refine lv_topi (fun r3 e_r3 => ?_)
    have hf := lt_n e_r3 hf
    refine lv_if_ne (tgt := 16) hx hb dX0_isOf_11 (by decide) (fun c_4 => ?_) (fun c_4 => ?_)
    · have hf := ite_f c_4 hf
      refine lv_aload_n hx hb dX0_isOf_16 rfl (lv_at hl 0 rfl) ?_
      refine z_get hx hb htt iw_X0 hown hZ 0 rfl rfl 0 (by decide) lf_X0_10 rfl dX0_isOf_17 ?_
      refine lv_iload_n hx hb dX0_isOf_20 rfl (lv_at hl 2 rfl) ?_
      obtain ⟨r6, k_5, hf⟩ := bn_s hf
      refine z_calli (z_runVN (As := [.int x2]) (rest := []) ⟨hx, hb, hml, hown, htt⟩ gT (ct_X1_ofClass l D A ad cA rs tr σ x2 k_5) md_X1_ofClass hnw lm_X0_155 rfl rfl ⟨Nat.le_of_ble_eq_true rfl, Nat.le_of_ble_eq_true rfl⟩ (z_preV gN hnw hZ rfl (q0 := 1) (ci := 1) rfl) rfl rfl hl.1 rfl (lv_room (Nat.le_of_ble_eq_true rfl)) dX0_isOf_21 ⟨Nat.le_of_ble_eq_true rfl, Nat.le_of_ble_eq_true rfl⟩) hZ (fun H locs hZ => ?_)
      refine lv_iload_n hx hb dX0_isOf_24 rfl (lv_at hl 1 rfl) ?_
      refine z_pcalli (z_runS (As := [.int r6, .int x1]) (rest := []) ⟨hx, hb, hml, hown, htt⟩ gT (ct_X0_holdsBit l r6 x1 rfl) md_X0_holdsBit lm_X0_135 rfl rfl ⟨Nat.le_of_ble_eq_true rfl, Nat.le_of_ble_eq_true rfl⟩ z_preP rfl rfl hl.1 rfl (lv_room (Nat.le_of_ble_eq_true rfl)) dX0_isOf_25 ⟨Nat.le_of_ble_eq_true rfl, Nat.le_of_ble_eq_true rfl⟩) ?_
      refine lv_topi (fun r7 e_r7 => ?_)
      have hf := lt_n e_r7 hf
      refine lv_if_eq (tgt := 35) hx hb dX0_isOf_28 (by decide) (fun c_8 => ?_) (fun c_8 => ?_)
      · have hf := ite_t c_8 hf
        refine lv_iconst (v := 0) hx hb dX0_isOf_35 (by decide) ?_
        exact z_iret hx hb hr hlocks hZ (Option.some.inj hf) rfl dX0_isOf_36
      · have hf := ite_f c_8 hf
        refine lv_iconst (v := 1) hx hb dX0_isOf_31 (by decide) ?_
        refine lv_goto (tgt := 36) hx hb dX0_isOf_32 (by decide) ?_
        exact z_iret hx hb hr hlocks hZ (Option.some.inj hf) rfl dX0_isOf_36
    · have hf := ite_t c_4 hf
      refine lv_iconst (v := (-1)) hx hb dX0_isOf_14 (by decide) ?_
      exact z_iret hx hb hr hlocks hZ (Option.some.inj hf) rfl dX0_isOf_15
abbrev rm_X0_count : Room := { frames := 0, cells := 0, slots := 0, locals := 0 }
def fn_X0_count (σ : S2) (x1 : Int32) : Int32 := if x1 = 0 then (σ.1 1 0) else if x1 = 1 then (σ.1 2 0) else if x1 = 2 then (σ.1 3 0) else if x1 = 3 then (σ.1 4 0) else (-1)
set_option maxHeartbeats 4000000 in
set_option maxRecDepth 100000 in
theorem ct_X0_count (l : Launch) (D : va_G) (A : Nat → Prop) (ad : Nat → Nat) (cA : Nat → ClassId) (rs : va_W) (tr : List (ClassId × FieldType)) (σ : S2) (x1 : Int32) {res : Int32} (hf : fn_X0_count σ x1 = res) : Met l yX0_count (.code yX0_count cX0_count 2 (some .int) :: tb) rm_X0_count (va_Pc [.ref (ad 0), .int x1] (zN D vwCl (tyC cA tr) A (wC ad cA rs) nl σ)) (va_Qi (fun r' u' => r' = res ∧ u' = σ) (zB D vwCl (tyC cA tr) A (wC ad cA rs)) A) 0 0 A := by
  refine Met.ofW (cc := cX0_count) (maxL := 2) (ret := (some .int)) (by decide) rfl ?_
  intro p e s m args below meth c s₁ B hml hv
  obtain ⟨rfl, hB, hnw0⟩ := hv
  have htt : ∀ w ∈ tb, w.before (([.ref (ad 0), .int x1] : List Value).toArray) s = true := fun w h => atoms_spec (ws := (.code yX0_count cX0_count 2 (some .int) :: tb)) B.pre w (List.mem_cons_of_mem _ h)
  have C0 : cx p m meth c cX0_count (some .int) 2 s (([.ref (ad 0), .int x1] : List Value).toArray) tb nl RX0 := ⟨B.exec, B.bytes, B.returns, hml, findClass_of_methodNamed B.named, htt, B.notSynchronized, hnw0⟩
  obtain ⟨hx, hb, hr, hml, hown, htt, hlocks, hnw⟩ := id C0
  have hZ := z_start hB
  have hl := lv_entry ([.ref (ad 0), .int x1]) (n := 2) (Nat.le_of_ble_eq_true rfl)
  rw [lg_entry_eq]
  generalize (lg_sl ([.ref (ad 0), .int x1]) ++ List.replicate (2 - (lg_sl ([.ref (ad 0), .int x1])).length) Slot.unset).toArray = ls at hl ⊢
  have hl : lv_has ls 2 [(0, .ref (ad 0)), (1, .int x1)] := hl
  unfold fn_X0_count at hf
  refine lv_iload_n hx hb dX0_count_0 rfl (lv_at hl 1 rfl) ?_
  by_cases c_1 : x1 = 0
  · have hf := ite_t c_1 hf
    refine lv_tableIn (tgt := 32) hx hb dX0_count_1 (by rw [c_1]; decide) (by rw [c_1]; decide) (by rw [c_1]; rfl) (by decide) ?_
    refine lv_aload_n hx hb dX0_count_32 rfl (lv_at hl 0 rfl) ?_
    refine z_get hx hb htt iw_X0 hown hZ 0 rfl rfl 0 (by decide) lf_X0_10 rfl dX0_count_33 ?_
    refine z_getN hx hb gN hnw htt iw_X1 hown hZ 1 rfl rfl 2 (by decide) lf_X0_53 rfl dX0_count_36 ?_
    exact z_iret hx hb hr hlocks hZ hf rfl dX0_count_39
  have hf := ite_f c_1 hf
  by_cases c_2 : x1 = 1
  · have hf := ite_t c_2 hf
    refine lv_tableIn (tgt := 40) hx hb dX0_count_1 (by rw [c_2]; decide) (by rw [c_2]; decide) (by rw [c_2]; rfl) (by decide) ?_
    refine lv_aload_n hx hb dX0_count_40 rfl (lv_at hl 0 rfl) ?_
    refine z_get hx hb htt iw_X0 hown hZ 0 rfl rfl 1 (by decide) lf_X0_19 rfl dX0_count_41 ?_
    refine z_getN hx hb gN hnw htt iw_X2 hown hZ 2 rfl rfl 3 (by decide) lf_X0_68 rfl dX0_count_44 ?_
    exact z_iret hx hb hr hlocks hZ hf rfl dX0_count_47
  have hf := ite_f c_2 hf
  by_cases c_3 : x1 = 2
  · have hf := ite_t c_3 hf
    refine lv_tableIn (tgt := 48) hx hb dX0_count_1 (by rw [c_3]; decide) (by rw [c_3]; decide) (by rw [c_3]; rfl) (by decide) ?_
    refine lv_aload_n hx hb dX0_count_48 rfl (lv_at hl 0 rfl) ?_
    refine z_get hx hb htt iw_X0 hown hZ 0 rfl rfl 2 (by decide) lf_X0_26 rfl dX0_count_49 ?_
    refine z_getN hx hb gN hnw htt iw_X3 hown hZ 3 rfl rfl 3 (by decide) lf_X0_90 rfl dX0_count_52 ?_
    exact z_iret hx hb hr hlocks hZ hf rfl dX0_count_55
  have hf := ite_f c_3 hf
  by_cases c_4 : x1 = 3
  · have hf := ite_t c_4 hf
    refine lv_tableIn (tgt := 56) hx hb dX0_count_1 (by rw [c_4]; decide) (by rw [c_4]; decide) (by rw [c_4]; rfl) (by decide) ?_
    refine lv_aload_n hx hb dX0_count_56 rfl (lv_at hl 0 rfl) ?_
    refine z_get hx hb htt iw_X0 hown hZ 0 rfl rfl 3 (by decide) lf_X0_33 rfl dX0_count_57 ?_
    refine z_getN hx hb gN hnw htt iw_X4 hown hZ 4 rfl rfl 4 (by decide) lf_X0_105 rfl dX0_count_60 ?_
    exact z_iret hx hb hr hlocks hZ hf rfl dX0_count_63
  have hf := ite_f c_4 hf
  have nc_1 := lv_neT c_1 (show (0 : Int32).toInt = 0 from by decide)
  have nc_2 := lv_neT c_2 (show (1 : Int32).toInt = 1 from by decide)
  have nc_3 := lv_neT c_3 (show (2 : Int32).toInt = 2 from by decide)
  have nc_4 := lv_neT c_4 (show (3 : Int32).toInt = 3 from by decide)
  have h_5 : (x1).toInt < 0 ∨ 3 < (x1).toInt := by omega
  refine z_tdef (tgt := 64) hx hb dX0_count_1 (by
    rcases h_5 with h_5 | h_5
    · exact Or.inl h_5
    · exact Or.inr (Or.inl h_5)) (by decide) ?_
  refine lv_iconst (v := (-1)) hx hb dX0_count_64 (by decide) ?_
  exact z_iret hx hb hr hlocks hZ hf rfl dX0_count_65
