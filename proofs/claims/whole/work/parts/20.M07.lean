abbrev rm_X6_fits : Room := { frames := 6, cells := 0, slots := 0, locals := 147 }
def fn_X6_fits (σ : S2) (x1 : Int32) (x2 : Int32) : Option (Int32 × S2) := lt (fn_X6_in x1 0 31) (fun r1 => if r1 = 0 then some ((-1), σ) else lt (fn_X6_isShape σ x2) (fun r3 => if r3 = 0 then some ((-1), σ) else bn (fn_X6_make σ) (fun σ6 => ck ((32 * x2) + x1) 384 (if (σ6.1 11 (((32 * x2) + x1)).toNatClampNeg) = 0 then some (0, σ6) else some (1, σ6)))))
set_option maxHeartbeats 4000000 in
set_option maxRecDepth 100000 in
theorem ct_X6_fits (l : Launch) (D : va_G) (A : Nat → Prop) (ad : Nat → Nat) (cA : Nat → ClassId) (rs : va_W) (tr : List (ClassId × FieldType)) (σ : S2) (x1 : Int32) (x2 : Int32) {res : Int32 × S2} (hf : fn_X6_fits σ x1 x2 = some res) : Met l yX6_fits (.code yX6_fits cX6_fits 3 (some .int) :: tb) rm_X6_fits (va_Pc [.ref (ad 0), .int x1, .int x2] (zN D vwCl (tyM cA tr) A (wM ad cA rs) nl σ)) (va_Qi (fun r' u' => r' = res.1 ∧ u' = res.2) (zB D vwCl (tyM cA tr) A (wM ad cA rs)) A) 0 0 A := by
  refine Met.ofW (cc := cX6_fits) (maxL := 3) (ret := (some .int)) (by decide) rfl ?_
  intro p e s m args below meth c s₁ B hml hv
  obtain ⟨rfl, hB, hnw0⟩ := hv
  have htt : ∀ w ∈ tb, w.before (([.ref (ad 0), .int x1, .int x2] : List Value).toArray) s = true := fun w h => atoms_spec (ws := (.code yX6_fits cX6_fits 3 (some .int) :: tb)) B.pre w (List.mem_cons_of_mem _ h)
  have C0 : cx p m meth c cX6_fits (some .int) 3 s (([.ref (ad 0), .int x1, .int x2] : List Value).toArray) tb nl RX6 := ⟨B.exec, B.bytes, B.returns, hml, findClass_of_methodNamed B.named, htt, B.notSynchronized, hnw0⟩
  obtain ⟨hx, hb, hr, hml, hown, htt, hlocks, hnw⟩ := id C0
  have hZ := z_start hB
  have hl := lv_entry ([.ref (ad 0), .int x1, .int x2]) (n := 3) (Nat.le_of_ble_eq_true rfl)
  rw [lg_entry_eq]
  generalize (lg_sl ([.ref (ad 0), .int x1, .int x2]) ++ List.replicate (3 - (lg_sl ([.ref (ad 0), .int x1, .int x2])).length) Slot.unset).toArray = ls at hl ⊢
  have hl : lv_has ls 3 [(0, .ref (ad 0)), (1, .int x1), (2, .int x2)] := hl
  unfold fn_X6_fits at hf
  refine lv_iload_n hx hb dX6_fits_0 rfl (lv_at hl 1 rfl) ?_
  refine lv_iconst (v := 0) hx hb dX6_fits_1 (by decide) ?_
  refine lv_bipush (v := 31) hx hb dX6_fits_2 (by decide) ?_
  refine z_pcalli (z_runS (As := [.int x1, .int 0, .int 31]) (rest := []) ⟨hx, hb, hml, hown, htt⟩ gT (ct_X6_in l x1 0 31 rfl) md_X6_in lm_X6_66 rfl rfl ⟨Nat.le_of_ble_eq_true rfl, Nat.le_of_ble_eq_true rfl⟩ z_preP rfl rfl hl.1 rfl (lv_room (Nat.le_of_ble_eq_true rfl)) dX6_fits_4 ⟨Nat.le_of_ble_eq_true rfl, Nat.le_of_ble_eq_true rfl⟩) ?_
  refine lv_topi (fun r1 e_r1 => ?_)
  have hf := lt_n e_r1 hf
  refine lv_if_eq (tgt := 18) hx hb dX6_fits_7 (by decide) (fun c_2 => ?_) (fun c_2 => ?_)
  · have hf := ite_t c_2 hf
    refine lv_iconst (v := (-1)) hx hb dX6_fits_18 (by decide) ?_
    exact z_iret hx hb hr hlocks hZ (sp_1 hf) (sp_2 hf) dX6_fits_19
  · have hf := ite_f c_2 hf
    refine lv_aload_n hx hb dX6_fits_10 rfl (lv_at hl 0 rfl) ?_
    refine lv_iload_n hx hb dX6_fits_11 rfl (lv_at hl 2 rfl) ?_
    refine z_calli (z_runV (As := [.int x2]) (rest := []) ⟨hx, hb, hml, hown, htt⟩ gT (ct_X6_isShape l D A ad cA rs tr σ x2 rfl) md_X6_isShape lm_X6_83 rfl rfl ⟨Nat.le_of_ble_eq_true rfl, Nat.le_of_ble_eq_true rfl⟩ (z_preV gN hnw hZ rfl (q0 := 0) (ci := 6) rfl) rfl rfl hl.1 rfl (lv_room (Nat.le_of_ble_eq_true rfl)) dX6_fits_12 ⟨Nat.le_of_ble_eq_true rfl, Nat.le_of_ble_eq_true rfl⟩) hZ (fun H locs hZ => ?_)
    refine lv_topi (fun r3 e_r3 => ?_)
    have hf := lt_n e_r3 hf
    refine lv_if_ne (tgt := 20) hx hb dX6_fits_15 (by decide) (fun c_4 => ?_) (fun c_4 => ?_)
    · have hf := ite_f c_4 hf
      refine lv_aload_n hx hb dX6_fits_20 rfl (lv_at hl 0 rfl) ?_
      obtain ⟨σ6, k_5, hf⟩ := bn_s hf
      refine z_callv (u := σ6) (z_runV (As := []) (rest := []) ⟨hx, hb, hml, hown, htt⟩ gT (ct_X6_make l D A ad cA rs tr σ  k_5) md_X6_make lm_X6_163 rfl rfl ⟨Nat.le_of_ble_eq_true rfl, Nat.le_of_ble_eq_true rfl⟩ (z_preV gN hnw hZ rfl (q0 := 0) (ci := 6) rfl) rfl rfl hl.1 rfl (lv_room (Nat.le_of_ble_eq_true rfl)) dX6_fits_21 ⟨Nat.le_of_ble_eq_true rfl, Nat.le_of_ble_eq_true rfl⟩) hZ (fun H locs hZ => ?_)
      refine lv_aload_n hx hb dX6_fits_24 rfl (lv_at hl 0 rfl) ?_
      refine z_get hx hb htt iw_X6 hown hZ 0 rfl rfl 14 (by decide) lf_X6_41 rfl dX6_fits_25 ?_
      refine lv_bipush (v := 32) hx hb dX6_fits_28 (by decide) ?_
      refine lv_iload_n hx hb dX6_fits_30 rfl (lv_at hl 2 rfl) ?_
      refine lv_imul hx hb dX6_fits_31 ?_
      refine lv_iload_n hx hb dX6_fits_32 rfl (lv_at hl 1 rfl) ?_
      refine lv_iadd hx hb dX6_fits_33 ?_
      obtain ⟨h_7, hf⟩ := ck_s hf
      refine z_zld hx hb hZ 11 10 rfl rfl h_7 dX6_fits_34 ?_
      refine lv_if_eq (tgt := 42) hx hb dX6_fits_35 (by decide) (fun c_8 => ?_) (fun c_8 => ?_)
      · have hf := ite_t c_8 hf
        refine lv_iconst (v := 0) hx hb dX6_fits_42 (by decide) ?_
        exact z_iret hx hb hr hlocks hZ (sp_1 hf) (sp_2 hf) dX6_fits_43
      · have hf := ite_f c_8 hf
        refine lv_iconst (v := 1) hx hb dX6_fits_38 (by decide) ?_
        refine lv_goto (tgt := 43) hx hb dX6_fits_39 (by decide) ?_
        exact z_iret hx hb hr hlocks hZ (sp_1 hf) (sp_2 hf) dX6_fits_43
    · have hf := ite_t c_4 hf
      refine lv_iconst (v := (-1)) hx hb dX6_fits_18 (by decide) ?_
      exact z_iret hx hb hr hlocks hZ (sp_1 hf) (sp_2 hf) dX6_fits_19
abbrev rm_X6_focus : Room := { frames := 3, cells := 0, slots := 0, locals := 75 }
def fn_X6_focus_47 (K15 : S2 → Int32 → Int32 → Int32 → Int32 → Option (Int32 × S2)) (σ : S2) (x1 : Int32) (x2 : Int32) (x3 : Int32) (x4 : Int32) (x5 : Int32) : Option (Int32 × S2) := if x5 = 0 then lt ((x3 - 0)) (fun v2 => lt (x4 + 1) (fun v3 => K15 σ x1 x2 v2 v3)) else lt ((x3 - 1)) (fun v4 => lt (x4 + 1) (fun v5 => K15 σ x1 x2 v4 v5))
def fn_X6_focus_15 : Nat → S2 → Int32 → Int32 → Int32 → Int32 → Option (Int32 × S2)
  | 0, _, _, _, _, _ => none
  | n + 1, σ, x1, x2, x3, x4 => if 32 ≤ x4 then some ((-2), σ) else if x2 < 0 then some ((-2), σ) else bn2 (fn_X6_isFor σ x1 x4) (fun r5 σ4 => if r5 = 0 then fn_X6_focus_47 (fn_X6_focus_15 n) σ4 x1 x2 x3 x4 r5 else if x3 = 0 then some (x4, σ4) else fn_X6_focus_47 (fn_X6_focus_15 n) σ4 x1 x2 x3 x4 r5)
def fn_X6_focus (σ : S2) (x1 : Int32) (x2 : Int32) : Option (Int32 × S2) := lt (fn_X6_isShape σ x1) (fun r1 => if r1 = 0 then some ((-1), σ) else fn_X6_focus_15 fu σ x1 x2 x2 0)
set_option maxHeartbeats 4000000 in
set_option maxRecDepth 100000 in
theorem wk_X6_focus_47 {p : Program} {l : Launch} {e : Env} {s : State} {m : MethodId} {args : Array Value} {below : List Frame} {meth : Method} {c : Code} {D : va_G} {A : Nat → Prop} {ad : Nat → Nat} {cA : Nat → ClassId} {rs : va_W} {tr : List (ClassId × FieldType)} {res : Int32 × S2} (C0 : cx p m meth c cX6_focus (some .int) 6 s args tb nl RX6) (K15 : S2 → Int32 → Int32 → Int32 → Int32 → Option (Int32 × S2)) (hK15 : ∀ (σ : S2) (x1 : Int32) (x2 : Int32) (x3 : Int32) (x4 : Int32), ∀ (H : Heap) (locs : List Loc) (ls : Array Slot), zz D vwCl (tyM cA tr) A (wM ad cA rs) s s.heap H locs σ → lv_has ls 6 [(0, .ref (ad 0)), (1, .int x1), (2, .int x2), (3, .int x3), (4, .int x4)] → K15 σ x1 x2 x3 x4 = some res → W p l e rm_X6_focus s m args below meth c H locs 0 0 (MQ below (va_Qi (fun r' u' => r' = res.1 ∧ u' = res.2) (zB D vwCl (tyM cA tr) A (wM ad cA rs)) A) args s 0 0 A) (F0 m 15 ls [])) : ∀ (σ : S2) (x1 : Int32) (x2 : Int32) (x3 : Int32) (x4 : Int32) (x5 : Int32), ∀ (H : Heap) (locs : List Loc) (ls : Array Slot), zz D vwCl (tyM cA tr) A (wM ad cA rs) s s.heap H locs σ → lv_has ls 6 [(0, .ref (ad 0)), (1, .int x1), (2, .int x2), (3, .int x3), (4, .int x4), (5, .int x5)] → fn_X6_focus_47 K15 σ x1 x2 x3 x4 x5 = some res → W p l e rm_X6_focus s m args below meth c H locs 0 0 (MQ below (va_Qi (fun r' u' => r' = res.1 ∧ u' = res.2) (zB D vwCl (tyM cA tr) A (wM ad cA rs)) A) args s 0 0 A) (F0 m 47 ls []) := by
  obtain ⟨hx, hb, hr, hml, hown, htt, hlocks, hnw⟩ := id C0
  intro σ x1 x2 x3 x4 x5 H locs ls hZ hl hf
  unfold fn_X6_focus_47 at hf
  refine lv_iload_n hx hb dX6_focus_47 rfl (lv_at hl 3 rfl) ?_
  refine lv_iload hx hb dX6_focus_48 (lv_at hl 5 rfl) ?_
  refine lv_if_eq (tgt := 57) hx hb dX6_focus_50 (by decide) (fun c_1 => ?_) (fun c_1 => ?_)
  · have hf := ite_t c_1 hf
    refine lv_iconst (v := 0) hx hb dX6_focus_57 (by decide) ?_
    refine lv_isub hx hb dX6_focus_58 ?_
    refine lv_topi (fun v2 e_v2 => ?_)
    have hf := lt_n e_v2 hf
    refine lv_istore_n (lv' := [(3, .int v2), (0, .ref (ad 0)), (1, .int x1), (2, .int x2), (4, .int x4), (5, .int x5)]) hx hb dX6_focus_59 rfl hl (by decide) rfl (fun ls hl => ?_)
    obtain ⟨v3, e_v3⟩ : ∃ y : Int32, y = x4 + 1 := ⟨_, rfl⟩
    have hf := lt_n e_v3 hf
    refine lv_iinc (v := v3) (lv' := [(4, .int v3), (3, .int v2), (0, .ref (ad 0)), (1, .int x1), (2, .int x2), (5, .int x5)]) hx hb dX6_focus_60 hl (k := 4) rfl (by rw [e_v3]; rfl) (by decide) rfl (fun ls hl => ?_)
    refine lv_goto (tgt := 15) hx hb dX6_focus_63 (by decide) ?_
    exact hK15 σ x1 x2 v2 v3 _ _ _ hZ (lv_sub hl [2, 3, 4, 1, 0] rfl) hf
  · have hf := ite_f c_1 hf
    refine lv_iconst (v := 1) hx hb dX6_focus_53 (by decide) ?_
    refine lv_goto (tgt := 58) hx hb dX6_focus_54 (by decide) ?_
    refine lv_isub hx hb dX6_focus_58 ?_
    refine lv_topi (fun v4 e_v4 => ?_)
    have hf := lt_n e_v4 hf
    refine lv_istore_n (lv' := [(3, .int v4), (0, .ref (ad 0)), (1, .int x1), (2, .int x2), (4, .int x4), (5, .int x5)]) hx hb dX6_focus_59 rfl hl (by decide) rfl (fun ls hl => ?_)
    obtain ⟨v5, e_v5⟩ : ∃ y : Int32, y = x4 + 1 := ⟨_, rfl⟩
    have hf := lt_n e_v5 hf
    refine lv_iinc (v := v5) (lv' := [(4, .int v5), (3, .int v4), (0, .ref (ad 0)), (1, .int x1), (2, .int x2), (5, .int x5)]) hx hb dX6_focus_60 hl (k := 4) rfl (by rw [e_v5]; rfl) (by decide) rfl (fun ls hl => ?_)
    refine lv_goto (tgt := 15) hx hb dX6_focus_63 (by decide) ?_
    exact hK15 σ x1 x2 v4 v5 _ _ _ hZ (lv_sub hl [2, 3, 4, 1, 0] rfl) hf
set_option maxHeartbeats 4000000 in
set_option maxRecDepth 100000 in
theorem wk_X6_focus_15 {p : Program} {l : Launch} {e : Env} {s : State} {m : MethodId} {args : Array Value} {below : List Frame} {meth : Method} {c : Code} {D : va_G} {A : Nat → Prop} {ad : Nat → Nat} {cA : Nat → ClassId} {rs : va_W} {tr : List (ClassId × FieldType)} {res : Int32 × S2} (C0 : cx p m meth c cX6_focus (some .int) 6 s args tb nl RX6) : ∀ (n : Nat) (σ : S2) (x1 : Int32) (x2 : Int32) (x3 : Int32) (x4 : Int32), ∀ (H : Heap) (locs : List Loc) (ls : Array Slot), zz D vwCl (tyM cA tr) A (wM ad cA rs) s s.heap H locs σ → lv_has ls 6 [(0, .ref (ad 0)), (1, .int x1), (2, .int x2), (3, .int x3), (4, .int x4)] → fn_X6_focus_15 n σ x1 x2 x3 x4 = some res → W p l e rm_X6_focus s m args below meth c H locs 0 0 (MQ below (va_Qi (fun r' u' => r' = res.1 ∧ u' = res.2) (zB D vwCl (tyM cA tr) A (wM ad cA rs)) A) args s 0 0 A) (F0 m 15 ls []) := by
  obtain ⟨hx, hb, hr, hml, hown, htt, hlocks, hnw⟩ := id C0
  intro n
  induction n with
  | zero => intro σ x1 x2 x3 x4 H locs ls hZ hl hf; exact no_some hf
  | succ n ih =>
    intro σ x1 x2 x3 x4 H locs ls hZ hl hf
    rw [fn_X6_focus_15] at hf
    refine lv_iload hx hb dX6_focus_15 (lv_at hl 4 rfl) ?_
    refine lv_bipush (v := 32) hx hb dX6_focus_17 (by decide) ?_
    refine lv_icmp_ge (tgt := 66) hx hb dX6_focus_19 (by decide) (fun c_1 => ?_) (fun c_1 => ?_)
    · have hf := ite_t c_1 hf
      refine lv_bipush (v := (-2)) hx hb dX6_focus_66 (by decide) ?_
      exact z_iret hx hb hr hlocks hZ (sp_1 hf) (sp_2 hf) dX6_focus_68
    · have hf := ite_f c_1 hf
      refine lv_iload_n hx hb dX6_focus_22 rfl (lv_at hl 2 rfl) ?_
      refine lv_if_lt (tgt := 66) hx hb dX6_focus_23 (by decide) (fun c_2 => ?_) (fun c_2 => ?_)
      · have hf := ite_t c_2 hf
        refine lv_bipush (v := (-2)) hx hb dX6_focus_66 (by decide) ?_
        exact z_iret hx hb hr hlocks hZ (sp_1 hf) (sp_2 hf) dX6_focus_68
      · have hf := ite_f c_2 hf
        refine lv_aload_n hx hb dX6_focus_26 rfl (lv_at hl 0 rfl) ?_
        refine lv_iload_n hx hb dX6_focus_27 rfl (lv_at hl 1 rfl) ?_
        refine lv_iload hx hb dX6_focus_28 (lv_at hl 4 rfl) ?_
        obtain ⟨r5, σ4, k_3, hf⟩ := bn2_s hf
        refine z_calli (r := r5) (u := σ4) (z_runV (As := [.int x1, .int x4]) (rest := []) ⟨hx, hb, hml, hown, htt⟩ gT (ct_X6_isFor l D A ad cA rs tr σ x1 x4 k_3) md_X6_isFor lm_X6_150 rfl rfl ⟨Nat.le_of_ble_eq_true rfl, Nat.le_of_ble_eq_true rfl⟩ (z_preV gN hnw hZ rfl (q0 := 0) (ci := 6) rfl) rfl rfl hl.1 rfl (lv_room (Nat.le_of_ble_eq_true rfl)) dX6_focus_30 ⟨Nat.le_of_ble_eq_true rfl, Nat.le_of_ble_eq_true rfl⟩) hZ (fun H locs hZ => ?_)
        refine lv_istore (lv' := [(5, .int r5), (0, .ref (ad 0)), (1, .int x1), (2, .int x2), (3, .int x3), (4, .int x4)]) hx hb dX6_focus_33 hl (by decide) rfl (fun ls hl => ?_)
        refine lv_iload hx hb dX6_focus_35 (lv_at hl 0 rfl) ?_
        refine lv_if_eq (tgt := 47) hx hb dX6_focus_37 (by decide) (fun c_6 => ?_) (fun c_6 => ?_)
        · have hf := ite_t c_6 hf
          exact wk_X6_focus_47 C0 (fn_X6_focus_15 n) ih σ4 x1 x2 x3 x4 r5 _ _ _ hZ (lv_sub hl [1, 2, 3, 4, 5, 0] rfl) hf
        · have hf := ite_f c_6 hf
          refine lv_iload_n hx hb dX6_focus_40 rfl (lv_at hl 4 rfl) ?_
          refine lv_if_ne (tgt := 47) hx hb dX6_focus_41 (by decide) (fun c_7 => ?_) (fun c_7 => ?_)
          · have hf := ite_f c_7 hf
            exact wk_X6_focus_47 C0 (fn_X6_focus_15 n) ih σ4 x1 x2 x3 x4 r5 _ _ _ hZ (lv_sub hl [1, 2, 3, 4, 5, 0] rfl) hf
          · have hf := ite_t c_7 hf
            refine lv_iload hx hb dX6_focus_44 (lv_at hl 5 rfl) ?_
            exact z_iret hx hb hr hlocks hZ (sp_1 hf) (sp_2 hf) dX6_focus_46
set_option maxHeartbeats 4000000 in
set_option maxRecDepth 100000 in
theorem ct_X6_focus (l : Launch) (D : va_G) (A : Nat → Prop) (ad : Nat → Nat) (cA : Nat → ClassId) (rs : va_W) (tr : List (ClassId × FieldType)) (σ : S2) (x1 : Int32) (x2 : Int32) {res : Int32 × S2} (hf : fn_X6_focus σ x1 x2 = some res) : Met l yX6_focus (.code yX6_focus cX6_focus 6 (some .int) :: tb) rm_X6_focus (va_Pc [.ref (ad 0), .int x1, .int x2] (zN D vwCl (tyM cA tr) A (wM ad cA rs) nl σ)) (va_Qi (fun r' u' => r' = res.1 ∧ u' = res.2) (zB D vwCl (tyM cA tr) A (wM ad cA rs)) A) 0 0 A := by
  refine Met.ofW (cc := cX6_focus) (maxL := 6) (ret := (some .int)) (by decide) rfl ?_
  intro p e s m args below meth c s₁ B hml hv
  obtain ⟨rfl, hB, hnw0⟩ := hv
  have htt : ∀ w ∈ tb, w.before (([.ref (ad 0), .int x1, .int x2] : List Value).toArray) s = true := fun w h => atoms_spec (ws := (.code yX6_focus cX6_focus 6 (some .int) :: tb)) B.pre w (List.mem_cons_of_mem _ h)
  have C0 : cx p m meth c cX6_focus (some .int) 6 s (([.ref (ad 0), .int x1, .int x2] : List Value).toArray) tb nl RX6 := ⟨B.exec, B.bytes, B.returns, hml, findClass_of_methodNamed B.named, htt, B.notSynchronized, hnw0⟩
  obtain ⟨hx, hb, hr, hml, hown, htt, hlocks, hnw⟩ := id C0
  have hZ := z_start hB
  have hl := lv_entry ([.ref (ad 0), .int x1, .int x2]) (n := 6) (Nat.le_of_ble_eq_true rfl)
  rw [lg_entry_eq]
  generalize (lg_sl ([.ref (ad 0), .int x1, .int x2]) ++ List.replicate (6 - (lg_sl ([.ref (ad 0), .int x1, .int x2])).length) Slot.unset).toArray = ls at hl ⊢
  have hl : lv_has ls 6 [(0, .ref (ad 0)), (1, .int x1), (2, .int x2)] := hl
  unfold fn_X6_focus at hf
  refine lv_aload_n hx hb dX6_focus_0 rfl (lv_at hl 0 rfl) ?_
  refine lv_iload_n hx hb dX6_focus_1 rfl (lv_at hl 1 rfl) ?_
  refine z_calli (z_runV (As := [.int x1]) (rest := []) ⟨hx, hb, hml, hown, htt⟩ gT (ct_X6_isShape l D A ad cA rs tr σ x1 rfl) md_X6_isShape lm_X6_83 rfl rfl ⟨Nat.le_of_ble_eq_true rfl, Nat.le_of_ble_eq_true rfl⟩ (z_preV gN hnw hZ rfl (q0 := 0) (ci := 6) rfl) rfl rfl hl.1 rfl (lv_room (Nat.le_of_ble_eq_true rfl)) dX6_focus_2 ⟨Nat.le_of_ble_eq_true rfl, Nat.le_of_ble_eq_true rfl⟩) hZ (fun H locs hZ => ?_)
  refine lv_topi (fun r1 e_r1 => ?_)
  have hf := lt_n e_r1 hf
  refine lv_if_ne (tgt := 10) hx hb dX6_focus_5 (by decide) (fun c_2 => ?_) (fun c_2 => ?_)
  · have hf := ite_f c_2 hf
    refine lv_iload_n hx hb dX6_focus_10 rfl (lv_at hl 2 rfl) ?_
    refine lv_istore_n (lv' := [(3, .int x2), (0, .ref (ad 0)), (1, .int x1), (2, .int x2)]) hx hb dX6_focus_11 rfl hl (by decide) rfl (fun ls hl => ?_)
    refine lv_iconst (v := 0) hx hb dX6_focus_12 (by decide) ?_
    refine lv_istore (lv' := [(4, .int 0), (3, .int x2), (0, .ref (ad 0)), (1, .int x1), (2, .int x2)]) hx hb dX6_focus_13 hl (by decide) rfl (fun ls hl => ?_)
    exact wk_X6_focus_15 C0  fu σ x1 x2 x2 0 _ _ _ hZ (lv_sub hl [2, 3, 4, 1, 0] rfl) hf
  · have hf := ite_t c_2 hf
    refine lv_iconst (v := (-1)) hx hb dX6_focus_8 (by decide) ?_
    exact z_iret hx hb hr hlocks hZ (sp_1 hf) (sp_2 hf) dX6_focus_9
abbrev rm_X6_value : Room := { frames := 2, cells := 0, slots := 0, locals := 47 }
def fn_X6_value_60 (K26 : S2 → Int32 → Int32 → Int32 → Int32 → Int32 → Option (Int32)) (σ : S2) (x1 : Int32) (x2 : Int32) (x3 : Int32) (x4 : Int32) (x5 : Int32) (x6 : Int32) : Option (Int32) := if x6 = 0 then lt ((x4 - 0)) (fun v2 => lt (x5 + 1) (fun v3 => K26 σ x1 x2 x3 v2 v3)) else lt ((x4 - 1)) (fun v4 => lt (x5 + 1) (fun v5 => K26 σ x1 x2 x3 v4 v5))
def fn_X6_value_26 : Nat → S2 → Int32 → Int32 → Int32 → Int32 → Int32 → Option (Int32)
  | 0, _, _, _, _, _, _ => none
  | n + 1, σ, x1, x2, x3, x4, x5 => if 32 ≤ x5 then some (-2) else if x3 < 0 then some (-2) else bn (fn_X6_isValue σ x1 x2 x5) (fun r4 => if r4 = 0 then fn_X6_value_60 (fn_X6_value_26 n) σ x1 x2 x3 x4 x5 r4 else if x4 = 0 then some x5 else fn_X6_value_60 (fn_X6_value_26 n) σ x1 x2 x3 x4 x5 r4)
def fn_X6_value (σ : S2) (x1 : Int32) (x2 : Int32) (x3 : Int32) : Option (Int32) := lt (fn_X6_in x1 0 31) (fun r1 => if r1 = 0 then some (-1) else lt (fn_X6_isShape σ x2) (fun r3 => if r3 = 0 then some (-1) else fn_X6_value_26 fu σ x1 x2 x3 x3 0))
set_option maxHeartbeats 4000000 in
set_option maxRecDepth 100000 in
theorem wk_X6_value_60 {p : Program} {l : Launch} {e : Env} {s : State} {m : MethodId} {args : Array Value} {below : List Frame} {meth : Method} {c : Code} {D : va_G} {A : Nat → Prop} {ad : Nat → Nat} {cA : Nat → ClassId} {rs : va_W} {tr : List (ClassId × FieldType)} {σ : S2} {res : Int32} (C0 : cx p m meth c cX6_value (some .int) 7 s args tb nl RX6) (K26 : S2 → Int32 → Int32 → Int32 → Int32 → Int32 → Option (Int32)) (hK26 : ∀ (x1 : Int32) (x2 : Int32) (x3 : Int32) (x4 : Int32) (x5 : Int32), ∀ (H : Heap) (locs : List Loc) (ls : Array Slot), zz D vwCl (tyM cA tr) A (wM ad cA rs) s s.heap H locs σ → lv_has ls 7 [(0, .ref (ad 0)), (1, .int x1), (2, .int x2), (3, .int x3), (4, .int x4), (5, .int x5)] → K26 σ x1 x2 x3 x4 x5 = some res → W p l e rm_X6_value s m args below meth c H locs 0 0 (MQ below (va_Qi (fun r' u' => r' = res ∧ u' = σ) (zB D vwCl (tyM cA tr) A (wM ad cA rs)) A) args s 0 0 A) (F0 m 26 ls [])) : ∀ (x1 : Int32) (x2 : Int32) (x3 : Int32) (x4 : Int32) (x5 : Int32) (x6 : Int32), ∀ (H : Heap) (locs : List Loc) (ls : Array Slot), zz D vwCl (tyM cA tr) A (wM ad cA rs) s s.heap H locs σ → lv_has ls 7 [(0, .ref (ad 0)), (1, .int x1), (2, .int x2), (3, .int x3), (4, .int x4), (5, .int x5), (6, .int x6)] → fn_X6_value_60 K26 σ x1 x2 x3 x4 x5 x6 = some res → W p l e rm_X6_value s m args below meth c H locs 0 0 (MQ below (va_Qi (fun r' u' => r' = res ∧ u' = σ) (zB D vwCl (tyM cA tr) A (wM ad cA rs)) A) args s 0 0 A) (F0 m 60 ls []) := by
  obtain ⟨hx, hb, hr, hml, hown, htt, hlocks, hnw⟩ := id C0
  intro x1 x2 x3 x4 x5 x6 H locs ls hZ hl hf
  unfold fn_X6_value_60 at hf
  refine lv_iload hx hb dX6_value_60 (lv_at hl 4 rfl) ?_
  refine lv_iload hx hb dX6_value_62 (lv_at hl 6 rfl) ?_
  refine lv_if_eq (tgt := 71) hx hb dX6_value_64 (by decide) (fun c_1 => ?_) (fun c_1 => ?_)
  · have hf := ite_t c_1 hf
    refine lv_iconst (v := 0) hx hb dX6_value_71 (by decide) ?_
    refine lv_isub hx hb dX6_value_72 ?_
    refine lv_topi (fun v2 e_v2 => ?_)
    have hf := lt_n e_v2 hf
    refine lv_istore (lv' := [(4, .int v2), (0, .ref (ad 0)), (1, .int x1), (2, .int x2), (3, .int x3), (5, .int x5), (6, .int x6)]) hx hb dX6_value_73 hl (by decide) rfl (fun ls hl => ?_)
    obtain ⟨v3, e_v3⟩ : ∃ y : Int32, y = x5 + 1 := ⟨_, rfl⟩
    have hf := lt_n e_v3 hf
    refine lv_iinc (v := v3) (lv' := [(5, .int v3), (4, .int v2), (0, .ref (ad 0)), (1, .int x1), (2, .int x2), (3, .int x3), (6, .int x6)]) hx hb dX6_value_75 hl (k := 5) rfl (by rw [e_v3]; rfl) (by decide) rfl (fun ls hl => ?_)
    refine lv_goto (tgt := 26) hx hb dX6_value_78 (by decide) ?_
    exact hK26 x1 x2 x3 v2 v3 _ _ _ hZ (lv_sub hl [2, 3, 4, 5, 1, 0] rfl) hf
  · have hf := ite_f c_1 hf
    refine lv_iconst (v := 1) hx hb dX6_value_67 (by decide) ?_
    refine lv_goto (tgt := 72) hx hb dX6_value_68 (by decide) ?_
    refine lv_isub hx hb dX6_value_72 ?_
    refine lv_topi (fun v4 e_v4 => ?_)
    have hf := lt_n e_v4 hf
    refine lv_istore (lv' := [(4, .int v4), (0, .ref (ad 0)), (1, .int x1), (2, .int x2), (3, .int x3), (5, .int x5), (6, .int x6)]) hx hb dX6_value_73 hl (by decide) rfl (fun ls hl => ?_)
    obtain ⟨v5, e_v5⟩ : ∃ y : Int32, y = x5 + 1 := ⟨_, rfl⟩
    have hf := lt_n e_v5 hf
    refine lv_iinc (v := v5) (lv' := [(5, .int v5), (4, .int v4), (0, .ref (ad 0)), (1, .int x1), (2, .int x2), (3, .int x3), (6, .int x6)]) hx hb dX6_value_75 hl (k := 5) rfl (by rw [e_v5]; rfl) (by decide) rfl (fun ls hl => ?_)
    refine lv_goto (tgt := 26) hx hb dX6_value_78 (by decide) ?_
    exact hK26 x1 x2 x3 v4 v5 _ _ _ hZ (lv_sub hl [2, 3, 4, 5, 1, 0] rfl) hf
set_option maxHeartbeats 4000000 in
set_option maxRecDepth 100000 in
theorem wk_X6_value_26 {p : Program} {l : Launch} {e : Env} {s : State} {m : MethodId} {args : Array Value} {below : List Frame} {meth : Method} {c : Code} {D : va_G} {A : Nat → Prop} {ad : Nat → Nat} {cA : Nat → ClassId} {rs : va_W} {tr : List (ClassId × FieldType)} {σ : S2} {res : Int32} (C0 : cx p m meth c cX6_value (some .int) 7 s args tb nl RX6) : ∀ (n : Nat) (x1 : Int32) (x2 : Int32) (x3 : Int32) (x4 : Int32) (x5 : Int32), ∀ (H : Heap) (locs : List Loc) (ls : Array Slot), zz D vwCl (tyM cA tr) A (wM ad cA rs) s s.heap H locs σ → lv_has ls 7 [(0, .ref (ad 0)), (1, .int x1), (2, .int x2), (3, .int x3), (4, .int x4), (5, .int x5)] → fn_X6_value_26 n σ x1 x2 x3 x4 x5 = some res → W p l e rm_X6_value s m args below meth c H locs 0 0 (MQ below (va_Qi (fun r' u' => r' = res ∧ u' = σ) (zB D vwCl (tyM cA tr) A (wM ad cA rs)) A) args s 0 0 A) (F0 m 26 ls []) := by
  obtain ⟨hx, hb, hr, hml, hown, htt, hlocks, hnw⟩ := id C0
  intro n
  induction n with
  | zero => intro x1 x2 x3 x4 x5 H locs ls hZ hl hf; exact no_some hf
  | succ n ih =>
    intro x1 x2 x3 x4 x5 H locs ls hZ hl hf
    rw [fn_X6_value_26] at hf
    refine lv_iload hx hb dX6_value_26 (lv_at hl 5 rfl) ?_
    refine lv_bipush (v := 32) hx hb dX6_value_28 (by decide) ?_
    refine lv_icmp_ge (tgt := 81) hx hb dX6_value_30 (by decide) (fun c_1 => ?_) (fun c_1 => ?_)
    · have hf := ite_t c_1 hf
      refine lv_bipush (v := (-2)) hx hb dX6_value_81 (by decide) ?_
      exact z_iret hx hb hr hlocks hZ (Option.some.inj hf) rfl dX6_value_83
    · have hf := ite_f c_1 hf
      refine lv_iload_n hx hb dX6_value_33 rfl (lv_at hl 3 rfl) ?_
      refine lv_if_lt (tgt := 81) hx hb dX6_value_34 (by decide) (fun c_2 => ?_) (fun c_2 => ?_)
      · have hf := ite_t c_2 hf
        refine lv_bipush (v := (-2)) hx hb dX6_value_81 (by decide) ?_
        exact z_iret hx hb hr hlocks hZ (Option.some.inj hf) rfl dX6_value_83
      · have hf := ite_f c_2 hf
        refine lv_aload_n hx hb dX6_value_37 rfl (lv_at hl 0 rfl) ?_
        refine lv_iload_n hx hb dX6_value_38 rfl (lv_at hl 1 rfl) ?_
        refine lv_iload_n hx hb dX6_value_39 rfl (lv_at hl 2 rfl) ?_
        refine lv_iload hx hb dX6_value_40 (lv_at hl 5 rfl) ?_
        obtain ⟨r4, k_3, hf⟩ := bn_s hf
        refine z_calli (z_runV (As := [.int x1, .int x2, .int x5]) (rest := []) ⟨hx, hb, hml, hown, htt⟩ gT (ct_X6_isValue l D A ad cA rs tr σ x1 x2 x5 k_3) md_X6_isValue lm_X6_122 rfl rfl ⟨Nat.le_of_ble_eq_true rfl, Nat.le_of_ble_eq_true rfl⟩ (z_preV gN hnw hZ rfl (q0 := 0) (ci := 6) rfl) rfl rfl hl.1 rfl (lv_room (Nat.le_of_ble_eq_true rfl)) dX6_value_42 ⟨Nat.le_of_ble_eq_true rfl, Nat.le_of_ble_eq_true rfl⟩) hZ (fun H locs hZ => ?_)
        refine lv_istore (lv' := [(6, .int r4), (0, .ref (ad 0)), (1, .int x1), (2, .int x2), (3, .int x3), (4, .int x4), (5, .int x5)]) hx hb dX6_value_45 hl (by decide) rfl (fun ls hl => ?_)
        refine lv_iload hx hb dX6_value_47 (lv_at hl 0 rfl) ?_
        refine lv_if_eq (tgt := 60) hx hb dX6_value_49 (by decide) (fun c_5 => ?_) (fun c_5 => ?_)
        · have hf := ite_t c_5 hf
          exact wk_X6_value_60 C0 (fn_X6_value_26 n) ih x1 x2 x3 x4 x5 r4 _ _ _ hZ (lv_sub hl [1, 2, 3, 4, 5, 6, 0] rfl) hf
        · have hf := ite_f c_5 hf
          refine lv_iload hx hb dX6_value_52 (lv_at hl 5 rfl) ?_
          refine lv_if_ne (tgt := 60) hx hb dX6_value_54 (by decide) (fun c_6 => ?_) (fun c_6 => ?_)
          · have hf := ite_f c_6 hf
            exact wk_X6_value_60 C0 (fn_X6_value_26 n) ih x1 x2 x3 x4 x5 r4 _ _ _ hZ (lv_sub hl [1, 2, 3, 4, 5, 6, 0] rfl) hf
          · have hf := ite_t c_6 hf
            refine lv_iload hx hb dX6_value_57 (lv_at hl 6 rfl) ?_
            exact z_iret hx hb hr hlocks hZ (Option.some.inj hf) rfl dX6_value_59
set_option maxHeartbeats 4000000 in
set_option maxRecDepth 100000 in
theorem ct_X6_value (l : Launch) (D : va_G) (A : Nat → Prop) (ad : Nat → Nat) (cA : Nat → ClassId) (rs : va_W) (tr : List (ClassId × FieldType)) (σ : S2) (x1 : Int32) (x2 : Int32) (x3 : Int32) {res : Int32} (hf : fn_X6_value σ x1 x2 x3 = some res) : Met l yX6_value (.code yX6_value cX6_value 7 (some .int) :: tb) rm_X6_value (va_Pc [.ref (ad 0), .int x1, .int x2, .int x3] (zN D vwCl (tyM cA tr) A (wM ad cA rs) nl σ)) (va_Qi (fun r' u' => r' = res ∧ u' = σ) (zB D vwCl (tyM cA tr) A (wM ad cA rs)) A) 0 0 A := by
  refine Met.ofW (cc := cX6_value) (maxL := 7) (ret := (some .int)) (by decide) rfl ?_
  intro p e s m args below meth c s₁ B hml hv
  obtain ⟨rfl, hB, hnw0⟩ := hv
  have htt : ∀ w ∈ tb, w.before (([.ref (ad 0), .int x1, .int x2, .int x3] : List Value).toArray) s = true := fun w h => atoms_spec (ws := (.code yX6_value cX6_value 7 (some .int) :: tb)) B.pre w (List.mem_cons_of_mem _ h)
  have C0 : cx p m meth c cX6_value (some .int) 7 s (([.ref (ad 0), .int x1, .int x2, .int x3] : List Value).toArray) tb nl RX6 := ⟨B.exec, B.bytes, B.returns, hml, findClass_of_methodNamed B.named, htt, B.notSynchronized, hnw0⟩
  obtain ⟨hx, hb, hr, hml, hown, htt, hlocks, hnw⟩ := id C0
  have hZ := z_start hB
  have hl := lv_entry ([.ref (ad 0), .int x1, .int x2, .int x3]) (n := 7) (Nat.le_of_ble_eq_true rfl)
  rw [lg_entry_eq]
  generalize (lg_sl ([.ref (ad 0), .int x1, .int x2, .int x3]) ++ List.replicate (7 - (lg_sl ([.ref (ad 0), .int x1, .int x2, .int x3])).length) Slot.unset).toArray = ls at hl ⊢
  have hl : lv_has ls 7 [(0, .ref (ad 0)), (1, .int x1), (2, .int x2), (3, .int x3)] := hl
  unfold fn_X6_value at hf
  refine lv_iload_n hx hb dX6_value_0 rfl (lv_at hl 1 rfl) ?_
  refine lv_iconst (v := 0) hx hb dX6_value_1 (by decide) ?_
  refine lv_bipush (v := 31) hx hb dX6_value_2 (by decide) ?_
  refine z_pcalli (z_runS (As := [.int x1, .int 0, .int 31]) (rest := []) ⟨hx, hb, hml, hown, htt⟩ gT (ct_X6_in l x1 0 31 rfl) md_X6_in lm_X6_66 rfl rfl ⟨Nat.le_of_ble_eq_true rfl, Nat.le_of_ble_eq_true rfl⟩ z_preP rfl rfl hl.1 rfl (lv_room (Nat.le_of_ble_eq_true rfl)) dX6_value_4 ⟨Nat.le_of_ble_eq_true rfl, Nat.le_of_ble_eq_true rfl⟩) ?_
  refine lv_topi (fun r1 e_r1 => ?_)
  have hf := lt_n e_r1 hf
  refine lv_if_eq (tgt := 18) hx hb dX6_value_7 (by decide) (fun c_2 => ?_) (fun c_2 => ?_)
  · have hf := ite_t c_2 hf
    refine lv_iconst (v := (-1)) hx hb dX6_value_18 (by decide) ?_
    exact z_iret hx hb hr hlocks hZ (Option.some.inj hf) rfl dX6_value_19
  · have hf := ite_f c_2 hf
    refine lv_aload_n hx hb dX6_value_10 rfl (lv_at hl 0 rfl) ?_
    refine lv_iload_n hx hb dX6_value_11 rfl (lv_at hl 2 rfl) ?_
    refine z_calli (z_runV (As := [.int x2]) (rest := []) ⟨hx, hb, hml, hown, htt⟩ gT (ct_X6_isShape l D A ad cA rs tr σ x2 rfl) md_X6_isShape lm_X6_83 rfl rfl ⟨Nat.le_of_ble_eq_true rfl, Nat.le_of_ble_eq_true rfl⟩ (z_preV gN hnw hZ rfl (q0 := 0) (ci := 6) rfl) rfl rfl hl.1 rfl (lv_room (Nat.le_of_ble_eq_true rfl)) dX6_value_12 ⟨Nat.le_of_ble_eq_true rfl, Nat.le_of_ble_eq_true rfl⟩) hZ (fun H locs hZ => ?_)
    refine lv_topi (fun r3 e_r3 => ?_)
    have hf := lt_n e_r3 hf
    refine lv_if_ne (tgt := 20) hx hb dX6_value_15 (by decide) (fun c_4 => ?_) (fun c_4 => ?_)
    · have hf := ite_f c_4 hf
      refine lv_iload_n hx hb dX6_value_20 rfl (lv_at hl 3 rfl) ?_
      refine lv_istore (lv' := [(4, .int x3), (0, .ref (ad 0)), (1, .int x1), (2, .int x2), (3, .int x3)]) hx hb dX6_value_21 hl (by decide) rfl (fun ls hl => ?_)
      refine lv_iconst (v := 0) hx hb dX6_value_23 (by decide) ?_
      refine lv_istore (lv' := [(5, .int 0), (4, .int x3), (0, .ref (ad 0)), (1, .int x1), (2, .int x2), (3, .int x3)]) hx hb dX6_value_24 hl (by decide) rfl (fun ls hl => ?_)
      exact wk_X6_value_26 C0  fu x1 x2 x3 x3 0 _ _ _ hZ (lv_sub hl [2, 3, 4, 5, 1, 0] rfl) hf
    · have hf := ite_t c_4 hf
      refine lv_iconst (v := (-1)) hx hb dX6_value_18 (by decide) ?_
      exact z_iret hx hb hr hlocks hZ (Option.some.inj hf) rfl dX6_value_19
abbrev rm_X6_isOf : Room := { frames := 2, cells := 0, slots := 0, locals := 48 }
def fn_X6_isOf (σ : S2) (x1 : Int32) (x2 : Int32) : Option (Int32 × S2) := lt (fn_X6_in x1 0 31) (fun r1 => if r1 = 0 then some ((-1), σ) else lt (fn_X6_in x2 0 19) (fun r3 => if r3 = 0 then some ((-1), σ) else bn2 (fn_X6_isOfClass σ x1 x2) (fun r7 σ6 => if r7 = 0 then some (0, σ6) else some (1, σ6))))
set_option maxHeartbeats 4000000 in
set_option maxRecDepth 100000 in
theorem ct_X6_isOf (l : Launch) (D : va_G) (A : Nat → Prop) (ad : Nat → Nat) (cA : Nat → ClassId) (rs : va_W) (tr : List (ClassId × FieldType)) (σ : S2) (x1 : Int32) (x2 : Int32) {res : Int32 × S2} (hf : fn_X6_isOf σ x1 x2 = some res) : Met l yX6_isOf (.code yX6_isOf cX6_isOf 3 (some .int) :: tb) rm_X6_isOf (va_Pc [.ref (ad 0), .int x1, .int x2] (zN D vwCl (tyM cA tr) A (wM ad cA rs) nl σ)) (va_Qi (fun r' u' => r' = res.1 ∧ u' = res.2) (zB D vwCl (tyM cA tr) A (wM ad cA rs)) A) 0 0 A := by
  refine Met.ofW (cc := cX6_isOf) (maxL := 3) (ret := (some .int)) (by decide) rfl ?_
  intro p e s m args below meth c s₁ B hml hv
  obtain ⟨rfl, hB, hnw0⟩ := hv
  have htt : ∀ w ∈ tb, w.before (([.ref (ad 0), .int x1, .int x2] : List Value).toArray) s = true := fun w h => atoms_spec (ws := (.code yX6_isOf cX6_isOf 3 (some .int) :: tb)) B.pre w (List.mem_cons_of_mem _ h)
  have C0 : cx p m meth c cX6_isOf (some .int) 3 s (([.ref (ad 0), .int x1, .int x2] : List Value).toArray) tb nl RX6 := ⟨B.exec, B.bytes, B.returns, hml, findClass_of_methodNamed B.named, htt, B.notSynchronized, hnw0⟩
  obtain ⟨hx, hb, hr, hml, hown, htt, hlocks, hnw⟩ := id C0
  have hZ := z_start hB
  have hl := lv_entry ([.ref (ad 0), .int x1, .int x2]) (n := 3) (Nat.le_of_ble_eq_true rfl)
  rw [lg_entry_eq]
  generalize (lg_sl ([.ref (ad 0), .int x1, .int x2]) ++ List.replicate (3 - (lg_sl ([.ref (ad 0), .int x1, .int x2])).length) Slot.unset).toArray = ls at hl ⊢
  have hl : lv_has ls 3 [(0, .ref (ad 0)), (1, .int x1), (2, .int x2)] := hl
  unfold fn_X6_isOf at hf
  refine lv_iload_n hx hb dX6_isOf_0 rfl (lv_at hl 1 rfl) ?_
  refine lv_iconst (v := 0) hx hb dX6_isOf_1 (by decide) ?_
  refine lv_bipush (v := 31) hx hb dX6_isOf_2 (by decide) ?_
  refine z_pcalli (z_runS (As := [.int x1, .int 0, .int 31]) (rest := []) ⟨hx, hb, hml, hown, htt⟩ gT (ct_X6_in l x1 0 31 rfl) md_X6_in lm_X6_66 rfl rfl ⟨Nat.le_of_ble_eq_true rfl, Nat.le_of_ble_eq_true rfl⟩ z_preP rfl rfl hl.1 rfl (lv_room (Nat.le_of_ble_eq_true rfl)) dX6_isOf_4 ⟨Nat.le_of_ble_eq_true rfl, Nat.le_of_ble_eq_true rfl⟩) ?_
  refine lv_topi (fun r1 e_r1 => ?_)
  have hf := lt_n e_r1 hf
  refine lv_if_eq (tgt := 20) hx hb dX6_isOf_7 (by decide) (fun c_2 => ?_) (fun c_2 => ?_)
  · have hf := ite_t c_2 hf
    refine lv_iconst (v := (-1)) hx hb dX6_isOf_20 (by decide) ?_
    refine lv_goto (tgt := 38) hx hb dX6_isOf_21 (by decide) ?_
    exact z_iret hx hb hr hlocks hZ (sp_1 hf) (sp_2 hf) dX6_isOf_38
  · have hf := ite_f c_2 hf
    refine lv_iload_n hx hb dX6_isOf_10 rfl (lv_at hl 2 rfl) ?_
    refine lv_iconst (v := 0) hx hb dX6_isOf_11 (by decide) ?_
    refine lv_bipush (v := 19) hx hb dX6_isOf_12 (by decide) ?_
    refine z_pcalli (z_runS (As := [.int x2, .int 0, .int 19]) (rest := []) ⟨hx, hb, hml, hown, htt⟩ gT (ct_X6_in l x2 0 19 rfl) md_X6_in lm_X6_66 rfl rfl ⟨Nat.le_of_ble_eq_true rfl, Nat.le_of_ble_eq_true rfl⟩ z_preP rfl rfl hl.1 rfl (lv_room (Nat.le_of_ble_eq_true rfl)) dX6_isOf_14 ⟨Nat.le_of_ble_eq_true rfl, Nat.le_of_ble_eq_true rfl⟩) ?_
    refine lv_topi (fun r3 e_r3 => ?_)
    have hf := lt_n e_r3 hf
    refine lv_if_ne (tgt := 24) hx hb dX6_isOf_17 (by decide) (fun c_4 => ?_) (fun c_4 => ?_)
    · have hf := ite_f c_4 hf
      refine lv_aload_n hx hb dX6_isOf_24 rfl (lv_at hl 0 rfl) ?_
      refine lv_iload_n hx hb dX6_isOf_25 rfl (lv_at hl 1 rfl) ?_
      refine lv_iload_n hx hb dX6_isOf_26 rfl (lv_at hl 2 rfl) ?_
      obtain ⟨r7, σ6, k_5, hf⟩ := bn2_s hf
      refine z_calli (r := r7) (u := σ6) (z_runV (As := [.int x1, .int x2]) (rest := []) ⟨hx, hb, hml, hown, htt⟩ gT (ct_X6_isOfClass l D A ad cA rs tr σ x1 x2 k_5) md_X6_isOfClass lm_X6_106 rfl rfl ⟨Nat.le_of_ble_eq_true rfl, Nat.le_of_ble_eq_true rfl⟩ (z_preV gN hnw hZ rfl (q0 := 0) (ci := 6) rfl) rfl rfl hl.1 rfl (lv_room (Nat.le_of_ble_eq_true rfl)) dX6_isOf_27 ⟨Nat.le_of_ble_eq_true rfl, Nat.le_of_ble_eq_true rfl⟩) hZ (fun H locs hZ => ?_)
      refine lv_if_eq (tgt := 37) hx hb dX6_isOf_30 (by decide) (fun c_8 => ?_) (fun c_8 => ?_)
      · have hf := ite_t c_8 hf
        refine lv_iconst (v := 0) hx hb dX6_isOf_37 (by decide) ?_
        exact z_iret hx hb hr hlocks hZ (sp_1 hf) (sp_2 hf) dX6_isOf_38
      · have hf := ite_f c_8 hf
        refine lv_iconst (v := 1) hx hb dX6_isOf_33 (by decide) ?_
        refine lv_goto (tgt := 38) hx hb dX6_isOf_34 (by decide) ?_
        exact z_iret hx hb hr hlocks hZ (sp_1 hf) (sp_2 hf) dX6_isOf_38
    · have hf := ite_t c_4 hf
      refine lv_iconst (v := (-1)) hx hb dX6_isOf_20 (by decide) ?_
      refine lv_goto (tgt := 38) hx hb dX6_isOf_21 (by decide) ?_
      exact z_iret hx hb hr hlocks hZ (sp_1 hf) (sp_2 hf) dX6_isOf_38
abbrev rm_X6_count : Room := { frames := 0, cells := 0, slots := 0, locals := 0 }
def fn_X6_count (σ : S2) (x1 : Int32) : Int32 := if x1 = 0 then (σ.1 20 0) else if x1 = 1 then (σ.1 21 0) else if x1 = 2 then (σ.1 22 0) else if x1 = 3 then (σ.1 23 0) else (-1)
set_option maxHeartbeats 4000000 in
set_option maxRecDepth 100000 in
theorem ct_X6_count (l : Launch) (D : va_G) (A : Nat → Prop) (ad : Nat → Nat) (cA : Nat → ClassId) (rs : va_W) (tr : List (ClassId × FieldType)) (σ : S2) (x1 : Int32) {res : Int32} (hf : fn_X6_count σ x1 = res) : Met l yX6_count (.code yX6_count cX6_count 2 (some .int) :: tb) rm_X6_count (va_Pc [.ref (ad 0), .int x1] (zN D vwCl (tyM cA tr) A (wM ad cA rs) nl σ)) (va_Qi (fun r' u' => r' = res ∧ u' = σ) (zB D vwCl (tyM cA tr) A (wM ad cA rs)) A) 0 0 A := by
  refine Met.ofW (cc := cX6_count) (maxL := 2) (ret := (some .int)) (by decide) rfl ?_
  intro p e s m args below meth c s₁ B hml hv
  obtain ⟨rfl, hB, hnw0⟩ := hv
  have htt : ∀ w ∈ tb, w.before (([.ref (ad 0), .int x1] : List Value).toArray) s = true := fun w h => atoms_spec (ws := (.code yX6_count cX6_count 2 (some .int) :: tb)) B.pre w (List.mem_cons_of_mem _ h)
  have C0 : cx p m meth c cX6_count (some .int) 2 s (([.ref (ad 0), .int x1] : List Value).toArray) tb nl RX6 := ⟨B.exec, B.bytes, B.returns, hml, findClass_of_methodNamed B.named, htt, B.notSynchronized, hnw0⟩
  obtain ⟨hx, hb, hr, hml, hown, htt, hlocks, hnw⟩ := id C0
  have hZ := z_start hB
  have hl := lv_entry ([.ref (ad 0), .int x1]) (n := 2) (Nat.le_of_ble_eq_true rfl)
  rw [lg_entry_eq]
  generalize (lg_sl ([.ref (ad 0), .int x1]) ++ List.replicate (2 - (lg_sl ([.ref (ad 0), .int x1])).length) Slot.unset).toArray = ls at hl ⊢
  have hl : lv_has ls 2 [(0, .ref (ad 0)), (1, .int x1)] := hl
  unfold fn_X6_count at hf
  refine lv_iload_n hx hb dX6_count_0 rfl (lv_at hl 1 rfl) ?_
  by_cases c_1 : x1 = 0
  · have hf := ite_t c_1 hf
    refine lv_tableIn (tgt := 32) hx hb dX6_count_1 (by rw [c_1]; decide) (by rw [c_1]; decide) (by rw [c_1]; rfl) (by decide) ?_
    refine lv_aload_n hx hb dX6_count_32 rfl (lv_at hl 0 rfl) ?_
    refine z_get hx hb htt iw_X6 hown hZ 0 rfl rfl 1 (by decide) lf_X6_80 rfl dX6_count_33 ?_
    exact z_iret hx hb hr hlocks hZ hf rfl dX6_count_36
  have hf := ite_f c_1 hf
  by_cases c_2 : x1 = 1
  · have hf := ite_t c_2 hf
    refine lv_tableIn (tgt := 37) hx hb dX6_count_1 (by rw [c_2]; decide) (by rw [c_2]; decide) (by rw [c_2]; rfl) (by decide) ?_
    refine lv_aload_n hx hb dX6_count_37 rfl (lv_at hl 0 rfl) ?_
    refine z_get hx hb htt iw_X6 hown hZ 0 rfl rfl 2 (by decide) lf_X6_70 rfl dX6_count_38 ?_
    exact z_iret hx hb hr hlocks hZ hf rfl dX6_count_41
  have hf := ite_f c_2 hf
  by_cases c_3 : x1 = 2
  · have hf := ite_t c_3 hf
    refine lv_tableIn (tgt := 42) hx hb dX6_count_1 (by rw [c_3]; decide) (by rw [c_3]; decide) (by rw [c_3]; rfl) (by decide) ?_
    refine lv_aload_n hx hb dX6_count_42 rfl (lv_at hl 0 rfl) ?_
    refine z_get hx hb htt iw_X6 hown hZ 0 rfl rfl 5 (by decide) lf_X6_87 rfl dX6_count_43 ?_
    exact z_iret hx hb hr hlocks hZ hf rfl dX6_count_46
  have hf := ite_f c_3 hf
  by_cases c_4 : x1 = 3
  · have hf := ite_t c_4 hf
    refine lv_tableIn (tgt := 47) hx hb dX6_count_1 (by rw [c_4]; decide) (by rw [c_4]; decide) (by rw [c_4]; rfl) (by decide) ?_
    refine lv_aload_n hx hb dX6_count_47 rfl (lv_at hl 0 rfl) ?_
    refine z_get hx hb htt iw_X6 hown hZ 0 rfl rfl 9 (by decide) lf_X6_90 rfl dX6_count_48 ?_
    exact z_iret hx hb hr hlocks hZ hf rfl dX6_count_51
  have hf := ite_f c_4 hf
  have nc_1 := lv_neT c_1 (show (0 : Int32).toInt = 0 from by decide)
  have nc_2 := lv_neT c_2 (show (1 : Int32).toInt = 1 from by decide)
  have nc_3 := lv_neT c_3 (show (2 : Int32).toInt = 2 from by decide)
  have nc_4 := lv_neT c_4 (show (3 : Int32).toInt = 3 from by decide)
  have h_5 : (x1).toInt < 0 ∨ 3 < (x1).toInt := by omega
  refine z_tdef (tgt := 52) hx hb dX6_count_1 (by
    rcases h_5 with h_5 | h_5
    · exact Or.inl h_5
    · exact Or.inr (Or.inl h_5)) (by decide) ?_
  refine lv_iconst (v := (-1)) hx hb dX6_count_52 (by decide) ?_
  exact z_iret hx hb hr hlocks hZ hf rfl dX6_count_53
