abbrev rm_X5_handOn : Room := { frames := 1, cells := 0, slots := 0, locals := 21 }
def fn_X5_handOn_46 : Nat → S2 → Int32 → Int32 → Int32 → Int32 → Option (S2)
  | 0, _, _, _, _, _ => none
  | n + 1, σ, x1, x2, x3, x4 => if 32 ≤ x4 then some σ else ck x2 12 (lt (fn_X0_holdsBit (σ.1 20 (x2).toNatClampNeg) x4) (fun r3 => if r3 = 0 then lt (x4 + 1) (fun v5 => fn_X5_handOn_46 n σ x1 x2 x3 v5) else ck x3 12 (ck ((x4 * 40) + x1) 1280 (ck x3 12 (lt (st σ 20 (x3).toNatClampNeg ((σ.1 20 (x3).toNatClampNeg) ||| ((ushL (σ.2 18 (((x4 * 40) + x1)).toNatClampNeg) 1)).toInt32)) (fun σ9 => lt (x4 + 1) (fun v10 => fn_X5_handOn_46 n σ9 x1 x2 x3 v10)))))))
def fn_X5_handOn (σ : S2) (x1 : Int32) : Option (S2) := ck x1 40 (lt ((σ.1 14 (x1).toNatClampNeg)) (fun v2 => ck x1 40 (lt ((σ.1 16 (x1).toNatClampNeg)) (fun v4 => lt (fn_X2_has σ v2) (fun r5 => if r5 = 0 then some σ else lt (fn_X2_has σ v4) (fun r7 => if r7 = 0 then some σ else fn_X5_handOn_46 fu σ x1 v2 v4 0))))))
set_option maxHeartbeats 4000000 in
set_option maxRecDepth 100000 in
theorem wk_X5_handOn_46 {p : Program} {l : Launch} {e : Env} {s : State} {m : MethodId} {args : Array Value} {below : List Frame} {meth : Method} {c : Code} {D : va_G} {A : Nat → Prop} {ad : Nat → Nat} {cA : Nat → ClassId} {rs : va_W} {tr : List (ClassId × FieldType)} {res : S2} (C0 : cx p m meth c cX5_handOn none 5 s args tb nl RX5) : ∀ (n : Nat) (σ : S2) (x1 : Int32) (x2 : Int32) (x3 : Int32) (x4 : Int32), ∀ (H : Heap) (locs : List Loc) (ls : Array Slot), zz D vwCl (tyC cA tr) A (wC ad cA rs) s s.heap H locs σ → lv_has ls 5 [(0, .ref (ad 5)), (1, .int x1), (2, .int x2), (3, .int x3), (4, .int x4)] → fn_X5_handOn_46 n σ x1 x2 x3 x4 = some res → W p l e rm_X5_handOn s m args below meth c H locs 0 0 (MQ below (va_Qv (fun u' => u' = res) (zB D vwCl (tyC cA tr) A (wC ad cA rs)) A) args s 0 0 A) (F0 m 46 ls []) := by
  obtain ⟨hx, hb, hr, hml, hown, htt, hlocks, hnw⟩ := id C0
  intro n
  induction n with
  | zero => intro σ x1 x2 x3 x4 H locs ls hZ hl hf; exact no_some hf
  | succ n ih =>
    intro σ x1 x2 x3 x4 H locs ls hZ hl hf
    rw [fn_X5_handOn_46] at hf
    refine lv_iload hx hb dX5_handOn_46 (lv_at hl 4 rfl) ?_
    refine lv_bipush (v := 32) hx hb dX5_handOn_48 (by decide) ?_
    refine lv_icmp_ge (tgt := 97) hx hb dX5_handOn_50 (by decide) (fun c_1 => ?_) (fun c_1 => ?_)
    · have hf := ite_t c_1 hf
      exact z_vret hx hb hr hlocks hZ (Option.some.inj hf) dX5_handOn_97
    · have hf := ite_f c_1 hf
      refine lv_aload_n hx hb dX5_handOn_53 rfl (lv_at hl 0 rfl) ?_
      refine z_get hx hb htt iw_X5 hown hZ 5 rfl rfl 6 (by decide) lf_X5_19 rfl dX5_handOn_54 ?_
      refine lv_iload_n hx hb dX5_handOn_57 rfl (lv_at hl 2 rfl) ?_
      obtain ⟨h_2, hf⟩ := ck_s hf
      refine z_ild hx hb hZ 20 14 rfl rfl h_2 dX5_handOn_58 ?_
      refine lv_iload hx hb dX5_handOn_59 (lv_at hl 4 rfl) ?_
      refine z_pcalli (z_runSN (As := [.int (σ.1 20 (x2).toNatClampNeg), .int x4]) (rest := []) ⟨hx, hb, hml, hown, htt⟩ gT (ct_X0_holdsBit l (σ.1 20 (x2).toNatClampNeg) x4 rfl) md_X0_holdsBit hnw lm_X5_135 rfl rfl ⟨Nat.le_of_ble_eq_true rfl, Nat.le_of_ble_eq_true rfl⟩ z_preP rfl rfl hl.1 rfl (lv_room (Nat.le_of_ble_eq_true rfl)) dX5_handOn_61 ⟨Nat.le_of_ble_eq_true rfl, Nat.le_of_ble_eq_true rfl⟩) ?_
      refine lv_topi (fun r3 e_r3 => ?_)
      have hf := lt_n e_r3 hf
      refine lv_if_eq (tgt := 91) hx hb dX5_handOn_64 (by decide) (fun c_4 => ?_) (fun c_4 => ?_)
      · have hf := ite_t c_4 hf
        obtain ⟨v5, e_v5⟩ : ∃ y : Int32, y = x4 + 1 := ⟨_, rfl⟩
        have hf := lt_n e_v5 hf
        refine lv_iinc (v := v5) (lv' := [(4, .int v5), (0, .ref (ad 5)), (1, .int x1), (2, .int x2), (3, .int x3)]) hx hb dX5_handOn_91 hl (k := 4) rfl (by rw [e_v5]; rfl) (by decide) rfl (fun ls hl => ?_)
        refine lv_goto (tgt := 46) hx hb dX5_handOn_94 (by decide) ?_
        exact ih σ x1 x2 x3 v5 _ _ _ hZ (lv_sub hl [1, 2, 3, 4, 0] rfl) hf
      · have hf := ite_f c_4 hf
        refine lv_aload_n hx hb dX5_handOn_67 rfl (lv_at hl 0 rfl) ?_
        refine z_get hx hb htt iw_X5 hown hZ 5 rfl rfl 6 (by decide) lf_X5_19 rfl dX5_handOn_68 ?_
        refine lv_iload_n hx hb dX5_handOn_71 rfl (lv_at hl 3 rfl) ?_
        refine lv_dup2_11 hx hb dX5_handOn_72 rfl rfl ?_
        obtain ⟨h_6, hf⟩ := ck_s hf
        refine z_ild hx hb hZ 20 14 rfl rfl h_6 dX5_handOn_73 ?_
        refine lv_aload_n hx hb dX5_handOn_74 rfl (lv_at hl 0 rfl) ?_
        refine z_get hx hb htt iw_X5 hown hZ 5 rfl rfl 4 (by decide) lf_X5_9 rfl dX5_handOn_75 ?_
        refine lv_iload hx hb dX5_handOn_78 (lv_at hl 4 rfl) ?_
        refine lv_bipush (v := 40) hx hb dX5_handOn_80 (by decide) ?_
        refine lv_imul hx hb dX5_handOn_82 ?_
        refine lv_iload_n hx hb dX5_handOn_83 rfl (lv_at hl 1 rfl) ?_
        refine lv_iadd hx hb dX5_handOn_84 ?_
        obtain ⟨h_7, hf⟩ := ck_s hf
        refine z_lld hx hb hZ 18 12 rfl rfl h_7 dX5_handOn_85 ?_
        refine lv_iconst (v := 1) hx hb dX5_handOn_86 (by decide) ?_
        refine lv_lushr (v := ushL (σ.2 18 (((x4 * 40) + x1)).toNatClampNeg) 1) hx hb dX5_handOn_87 rfl ?_
        refine lv_l2i hx hb dX5_handOn_88 rfl ?_
        refine lv_ior hx hb dX5_handOn_89 ?_
        obtain ⟨h_8, hf⟩ := ck_s hf
        refine z_ist (σ' := st σ 20 (x3).toNatClampNeg ((σ.1 20 (x3).toNatClampNeg) ||| ((ushL (σ.2 18 (((x4 * 40) + x1)).toNatClampNeg) 1)).toInt32)) hx hb hZ 20 14 rfl rfl h_8 dX5_handOn_90 rfl (fun σ9 H locs e_σ9 hZ => ?_)
        have hf := lt_n e_σ9 hf
        obtain ⟨v10, e_v10⟩ : ∃ y : Int32, y = x4 + 1 := ⟨_, rfl⟩
        have hf := lt_n e_v10 hf
        refine lv_iinc (v := v10) (lv' := [(4, .int v10), (0, .ref (ad 5)), (1, .int x1), (2, .int x2), (3, .int x3)]) hx hb dX5_handOn_91 hl (k := 4) rfl (by rw [e_v10]; rfl) (by decide) rfl (fun ls hl => ?_)
        refine lv_goto (tgt := 46) hx hb dX5_handOn_94 (by decide) ?_
        exact ih σ9 x1 x2 x3 v10 _ _ _ hZ (lv_sub hl [1, 2, 3, 4, 0] rfl) hf
set_option maxHeartbeats 4000000 in
set_option maxRecDepth 100000 in
theorem ct_X5_handOn (l : Launch) (D : va_G) (A : Nat → Prop) (ad : Nat → Nat) (cA : Nat → ClassId) (rs : va_W) (tr : List (ClassId × FieldType)) (σ : S2) (x1 : Int32) {res : S2} (hf : fn_X5_handOn σ x1 = some res) : Met l yX5_handOn (.code yX5_handOn cX5_handOn 5 none :: tb) rm_X5_handOn (va_Pc [.ref (ad 5), .int x1] (zN D vwCl (tyC cA tr) A (wC ad cA rs) nl σ)) (va_Qv (fun u' => u' = res) (zB D vwCl (tyC cA tr) A (wC ad cA rs)) A) 0 0 A := by
  refine Met.ofW (cc := cX5_handOn) (maxL := 5) (ret := none) (by decide) rfl ?_
  intro p e s m args below meth c s₁ B hml hv
  obtain ⟨rfl, hB, hnw0⟩ := hv
  have htt : ∀ w ∈ tb, w.before (([.ref (ad 5), .int x1] : List Value).toArray) s = true := fun w h => atoms_spec (ws := (.code yX5_handOn cX5_handOn 5 none :: tb)) B.pre w (List.mem_cons_of_mem _ h)
  have C0 : cx p m meth c cX5_handOn none 5 s (([.ref (ad 5), .int x1] : List Value).toArray) tb nl RX5 := ⟨B.exec, B.bytes, B.returns, hml, findClass_of_methodNamed B.named, htt, B.notSynchronized, hnw0⟩
  obtain ⟨hx, hb, hr, hml, hown, htt, hlocks, hnw⟩ := id C0
  have hZ := z_start hB
  have hl := lv_entry ([.ref (ad 5), .int x1]) (n := 5) (Nat.le_of_ble_eq_true rfl)
  rw [lg_entry_eq]
  generalize (lg_sl ([.ref (ad 5), .int x1]) ++ List.replicate (5 - (lg_sl ([.ref (ad 5), .int x1])).length) Slot.unset).toArray = ls at hl ⊢
  have hl : lv_has ls 5 [(0, .ref (ad 5)), (1, .int x1)] := hl
  unfold fn_X5_handOn at hf
  refine lv_aload_n hx hb dX5_handOn_0 rfl (lv_at hl 0 rfl) ?_
  refine z_get hx hb htt iw_X5 hown hZ 5 rfl rfl 3 (by decide) lf_X5_46 rfl dX5_handOn_1 ?_
  refine z_getN hx hb gN hnw htt iw_X4 hown hZ 4 rfl rfl 0 (by decide) lf_X5_72 rfl dX5_handOn_4 ?_
  refine lv_iload_n hx hb dX5_handOn_7 rfl (lv_at hl 1 rfl) ?_
  obtain ⟨h_1, hf⟩ := ck_s hf
  refine z_ild hx hb hZ 14 8 rfl rfl h_1 dX5_handOn_8 ?_
  refine lv_topi (fun v2 e_v2 => ?_)
  have hf := lt_n e_v2 hf
  refine lv_istore_n (lv' := [(2, .int v2), (0, .ref (ad 5)), (1, .int x1)]) hx hb dX5_handOn_9 rfl hl (by decide) rfl (fun ls hl => ?_)
  refine lv_aload_n hx hb dX5_handOn_10 rfl (lv_at hl 1 rfl) ?_
  refine z_get hx hb htt iw_X5 hown hZ 5 rfl rfl 3 (by decide) lf_X5_46 rfl dX5_handOn_11 ?_
  refine z_getN hx hb gN hnw htt iw_X4 hown hZ 4 rfl rfl 2 (by decide) lf_X5_101 rfl dX5_handOn_14 ?_
  refine lv_iload_n hx hb dX5_handOn_17 rfl (lv_at hl 2 rfl) ?_
  obtain ⟨h_3, hf⟩ := ck_s hf
  refine z_ild hx hb hZ 16 10 rfl rfl h_3 dX5_handOn_18 ?_
  refine lv_topi (fun v4 e_v4 => ?_)
  have hf := lt_n e_v4 hf
  refine lv_istore_n (lv' := [(3, .int v4), (2, .int v2), (0, .ref (ad 5)), (1, .int x1)]) hx hb dX5_handOn_19 rfl hl (by decide) rfl (fun ls hl => ?_)
  refine lv_aload_n hx hb dX5_handOn_20 rfl (lv_at hl 2 rfl) ?_
  refine z_get hx hb htt iw_X5 hown hZ 5 rfl rfl 1 (by decide) lf_X5_38 rfl dX5_handOn_21 ?_
  refine lv_iload_n hx hb dX5_handOn_24 rfl (lv_at hl 1 rfl) ?_
  refine z_calli (z_runVN (As := [.int v2]) (rest := []) ⟨hx, hb, hml, hown, htt⟩ gT (ct_X2_has l D A ad cA rs tr σ v2 rfl) md_X2_has hnw lm_X5_81 rfl rfl ⟨Nat.le_of_ble_eq_true rfl, Nat.le_of_ble_eq_true rfl⟩ (z_preV gN hnw hZ rfl (q0 := 2) (ci := 2) rfl) rfl rfl hl.1 rfl (lv_room (Nat.le_of_ble_eq_true rfl)) dX5_handOn_25 ⟨Nat.le_of_ble_eq_true rfl, Nat.le_of_ble_eq_true rfl⟩) hZ (fun H locs hZ => ?_)
  refine lv_topi (fun r5 e_r5 => ?_)
  have hf := lt_n e_r5 hf
  refine lv_if_eq (tgt := 42) hx hb dX5_handOn_28 (by decide) (fun c_6 => ?_) (fun c_6 => ?_)
  · have hf := ite_t c_6 hf
    exact z_vret hx hb hr hlocks hZ (Option.some.inj hf) dX5_handOn_42
  · have hf := ite_f c_6 hf
    refine lv_aload_n hx hb dX5_handOn_31 rfl (lv_at hl 2 rfl) ?_
    refine z_get hx hb htt iw_X5 hown hZ 5 rfl rfl 1 (by decide) lf_X5_38 rfl dX5_handOn_32 ?_
    refine lv_iload_n hx hb dX5_handOn_35 rfl (lv_at hl 0 rfl) ?_
    refine z_calli (z_runVN (As := [.int v4]) (rest := []) ⟨hx, hb, hml, hown, htt⟩ gT (ct_X2_has l D A ad cA rs tr σ v4 rfl) md_X2_has hnw lm_X5_81 rfl rfl ⟨Nat.le_of_ble_eq_true rfl, Nat.le_of_ble_eq_true rfl⟩ (z_preV gN hnw hZ rfl (q0 := 2) (ci := 2) rfl) rfl rfl hl.1 rfl (lv_room (Nat.le_of_ble_eq_true rfl)) dX5_handOn_36 ⟨Nat.le_of_ble_eq_true rfl, Nat.le_of_ble_eq_true rfl⟩) hZ (fun H locs hZ => ?_)
    refine lv_topi (fun r7 e_r7 => ?_)
    have hf := lt_n e_r7 hf
    refine lv_if_ne (tgt := 43) hx hb dX5_handOn_39 (by decide) (fun c_8 => ?_) (fun c_8 => ?_)
    · have hf := ite_f c_8 hf
      refine lv_iconst (v := 0) hx hb dX5_handOn_43 (by decide) ?_
      refine lv_istore (lv' := [(4, .int 0), (3, .int v4), (2, .int v2), (0, .ref (ad 5)), (1, .int x1)]) hx hb dX5_handOn_44 hl (by decide) rfl (fun ls hl => ?_)
      exact wk_X5_handOn_46 C0  fu σ x1 v2 v4 0 _ _ _ hZ (lv_sub hl [3, 4, 2, 1, 0] rfl) hf
    · have hf := ite_t c_8 hf
      exact z_vret hx hb hr hlocks hZ (Option.some.inj hf) dX5_handOn_42
abbrev rm_X5_askAll : Room := { frames := 4, cells := 0, slots := 0, locals := 94 }
def fn_X5_askAll_46 (K40 : S2 → Int32 → Option (S2)) : Nat → S2 → Int32 → Int32 → Option (S2)
  | 0, _, _, _ => none
  | n + 1, σ, x1, x2 => if (σ.1 4 0) ≤ x2 then lt (x1 + (-1)) (fun v2 => K40 σ v2) else ck x2 40 (if (σ.1 15 (x2).toNatClampNeg) = 16 then ck x2 40 (bn (fn_X2_height σ (σ.1 14 (x2).toNatClampNeg)) (fun r8 => if r8 = x1 then bn (fn_X5_handOn σ x2) (fun σ12 => lt (x2 + 1) (fun v13 => fn_X5_askAll_46 K40 n σ12 x1 v13)) else lt (x2 + 1) (fun v10 => fn_X5_askAll_46 K40 n σ x1 v10))) else lt (x2 + 1) (fun v5 => fn_X5_askAll_46 K40 n σ x1 v5))
def fn_X5_askAll_40 : Nat → S2 → Int32 → Option (S2)
  | 0, _, _ => none
  | n + 1, σ, x1 => if x1 < 0 then some σ else fn_X5_askAll_46 (fn_X5_askAll_40 n) fu σ x1 0
def fn_X5_askAll_2 : Nat → S2 → Int32 → Option (S2)
  | 0, _, _ => none
  | n + 1, σ, x1 => if (σ.1 2 0) ≤ x1 then fn_X5_askAll_40 fu σ 11 else bn (fn_X3_termsOf σ x1) (fun r3 => ck x1 12 (lt (st σ 20 (x1).toNatClampNeg r3) (fun σ5 => lt (x1 + 1) (fun v6 => fn_X5_askAll_2 n σ5 v6))))
def fn_X5_askAll (σ : S2) : Option (S2) := fn_X5_askAll_2 fu σ 0
set_option maxHeartbeats 4000000 in
set_option maxRecDepth 100000 in
theorem wk_X5_askAll_46 {p : Program} {l : Launch} {e : Env} {s : State} {m : MethodId} {args : Array Value} {below : List Frame} {meth : Method} {c : Code} {D : va_G} {A : Nat → Prop} {ad : Nat → Nat} {cA : Nat → ClassId} {rs : va_W} {tr : List (ClassId × FieldType)} {res : S2} (C0 : cx p m meth c cX5_askAll none 3 s args tb nl RX5) (K40 : S2 → Int32 → Option (S2)) (hK40 : ∀ (σ : S2) (x1 : Int32), ∀ (H : Heap) (locs : List Loc) (ls : Array Slot), zz D vwCl (tyC cA tr) A (wC ad cA rs) s s.heap H locs σ → lv_has ls 3 [(0, .ref (ad 5)), (1, .int x1)] → K40 σ x1 = some res → W p l e rm_X5_askAll s m args below meth c H locs 0 0 (MQ below (va_Qv (fun u' => u' = res) (zB D vwCl (tyC cA tr) A (wC ad cA rs)) A) args s 0 0 A) (F0 m 40 ls [])) : ∀ (n : Nat) (σ : S2) (x1 : Int32) (x2 : Int32), ∀ (H : Heap) (locs : List Loc) (ls : Array Slot), zz D vwCl (tyC cA tr) A (wC ad cA rs) s s.heap H locs σ → lv_has ls 3 [(0, .ref (ad 5)), (1, .int x1), (2, .int x2)] → fn_X5_askAll_46 K40 n σ x1 x2 = some res → W p l e rm_X5_askAll s m args below meth c H locs 0 0 (MQ below (va_Qv (fun u' => u' = res) (zB D vwCl (tyC cA tr) A (wC ad cA rs)) A) args s 0 0 A) (F0 m 46 ls []) := by
  obtain ⟨hx, hb, hr, hml, hown, htt, hlocks, hnw⟩ := id C0
  intro n
  induction n with
  | zero => intro σ x1 x2 H locs ls hZ hl hf; exact no_some hf
  | succ n ih =>
    intro σ x1 x2 H locs ls hZ hl hf
    rw [fn_X5_askAll_46] at hf
    refine lv_iload_n hx hb dX5_askAll_46 rfl (lv_at hl 2 rfl) ?_
    refine lv_aload_n hx hb dX5_askAll_47 rfl (lv_at hl 0 rfl) ?_
    refine z_get hx hb htt iw_X5 hown hZ 5 rfl rfl 3 (by decide) lf_X5_46 rfl dX5_askAll_48 ?_
    refine z_getN hx hb gN hnw htt iw_X4 hown hZ 4 rfl rfl 4 (by decide) lf_X5_69 rfl dX5_askAll_51 ?_
    refine lv_icmp_ge (tgt := 102) hx hb dX5_askAll_54 (by decide) (fun c_1 => ?_) (fun c_1 => ?_)
    · have hf := ite_t c_1 hf
      obtain ⟨v2, e_v2⟩ : ∃ y : Int32, y = x1 + (-1) := ⟨_, rfl⟩
      have hf := lt_n e_v2 hf
      refine lv_iinc (v := v2) (lv' := [(1, .int v2), (0, .ref (ad 5)), (2, .int x2)]) hx hb dX5_askAll_102 hl (k := 1) rfl (by rw [e_v2]; rfl) (by decide) rfl (fun ls hl => ?_)
      refine lv_goto (tgt := 40) hx hb dX5_askAll_105 (by decide) ?_
      exact hK40 σ v2 _ _ _ hZ (lv_sub hl [1, 0] rfl) hf
    · have hf := ite_f c_1 hf
      refine lv_aload_n hx hb dX5_askAll_57 rfl (lv_at hl 0 rfl) ?_
      refine z_get hx hb htt iw_X5 hown hZ 5 rfl rfl 3 (by decide) lf_X5_46 rfl dX5_askAll_58 ?_
      refine z_getN hx hb gN hnw htt iw_X4 hown hZ 4 rfl rfl 1 (by decide) lf_X5_107 rfl dX5_askAll_61 ?_
      refine lv_iload_n hx hb dX5_askAll_64 rfl (lv_at hl 2 rfl) ?_
      obtain ⟨h_3, hf⟩ := ck_s hf
      refine z_ild hx hb hZ 15 9 rfl rfl h_3 dX5_askAll_65 ?_
      refine lv_bipush (v := 16) hx hb dX5_askAll_66 (by decide) ?_
      refine lv_icmp_ne (tgt := 96) hx hb dX5_askAll_68 (by decide) (fun c_4 => ?_) (fun c_4 => ?_)
      · have hf := ite_f c_4 hf
        obtain ⟨v5, e_v5⟩ : ∃ y : Int32, y = x2 + 1 := ⟨_, rfl⟩
        have hf := lt_n e_v5 hf
        refine lv_iinc (v := v5) (lv' := [(2, .int v5), (0, .ref (ad 5)), (1, .int x1)]) hx hb dX5_askAll_96 hl (k := 2) rfl (by rw [e_v5]; rfl) (by decide) rfl (fun ls hl => ?_)
        refine lv_goto (tgt := 46) hx hb dX5_askAll_99 (by decide) ?_
        exact ih σ x1 v5 _ _ _ hZ (lv_sub hl [1, 2, 0] rfl) hf
      · have hf := ite_t c_4 hf
        refine lv_aload_n hx hb dX5_askAll_71 rfl (lv_at hl 0 rfl) ?_
        refine z_get hx hb htt iw_X5 hown hZ 5 rfl rfl 1 (by decide) lf_X5_38 rfl dX5_askAll_72 ?_
        refine lv_aload_n hx hb dX5_askAll_75 rfl (lv_at hl 0 rfl) ?_
        refine z_get hx hb htt iw_X5 hown hZ 5 rfl rfl 3 (by decide) lf_X5_46 rfl dX5_askAll_76 ?_
        refine z_getN hx hb gN hnw htt iw_X4 hown hZ 4 rfl rfl 0 (by decide) lf_X5_72 rfl dX5_askAll_79 ?_
        refine lv_iload_n hx hb dX5_askAll_82 rfl (lv_at hl 2 rfl) ?_
        obtain ⟨h_6, hf⟩ := ck_s hf
        refine z_ild hx hb hZ 14 8 rfl rfl h_6 dX5_askAll_83 ?_
        obtain ⟨r8, k_7, hf⟩ := bn_s hf
        refine z_calli (z_runVN (As := [.int (σ.1 14 (x2).toNatClampNeg)]) (rest := []) ⟨hx, hb, hml, hown, htt⟩ gT (ct_X2_height l D A ad cA rs tr σ (σ.1 14 (x2).toNatClampNeg) k_7) md_X2_height hnw lm_X5_73 rfl rfl ⟨Nat.le_of_ble_eq_true rfl, Nat.le_of_ble_eq_true rfl⟩ (z_preV gN hnw hZ rfl (q0 := 2) (ci := 2) rfl) rfl rfl hl.1 rfl (lv_room (Nat.le_of_ble_eq_true rfl)) dX5_askAll_84 ⟨Nat.le_of_ble_eq_true rfl, Nat.le_of_ble_eq_true rfl⟩) hZ (fun H locs hZ => ?_)
        refine lv_iload_n hx hb dX5_askAll_87 rfl (lv_at hl 1 rfl) ?_
        refine lv_icmp_ne (tgt := 96) hx hb dX5_askAll_88 (by decide) (fun c_9 => ?_) (fun c_9 => ?_)
        · have hf := ite_f c_9 hf
          obtain ⟨v10, e_v10⟩ : ∃ y : Int32, y = x2 + 1 := ⟨_, rfl⟩
          have hf := lt_n e_v10 hf
          refine lv_iinc (v := v10) (lv' := [(2, .int v10), (0, .ref (ad 5)), (1, .int x1)]) hx hb dX5_askAll_96 hl (k := 2) rfl (by rw [e_v10]; rfl) (by decide) rfl (fun ls hl => ?_)
          refine lv_goto (tgt := 46) hx hb dX5_askAll_99 (by decide) ?_
          exact ih σ x1 v10 _ _ _ hZ (lv_sub hl [1, 2, 0] rfl) hf
        · have hf := ite_t c_9 hf
          refine lv_aload_n hx hb dX5_askAll_91 rfl (lv_at hl 0 rfl) ?_
          refine lv_iload_n hx hb dX5_askAll_92 rfl (lv_at hl 2 rfl) ?_
          obtain ⟨σ12, k_11, hf⟩ := bn_s hf
          refine z_callv (u := σ12) (z_runV (As := [.int x2]) (rest := []) ⟨hx, hb, hml, hown, htt⟩ gT (ct_X5_handOn l D A ad cA rs tr σ x2 k_11) md_X5_handOn lm_X5_166 rfl rfl ⟨Nat.le_of_ble_eq_true rfl, Nat.le_of_ble_eq_true rfl⟩ (z_preV gN hnw hZ rfl (q0 := 5) (ci := 5) rfl) rfl rfl hl.1 rfl (lv_room (Nat.le_of_ble_eq_true rfl)) dX5_askAll_93 ⟨Nat.le_of_ble_eq_true rfl, Nat.le_of_ble_eq_true rfl⟩) hZ (fun H locs hZ => ?_)
          obtain ⟨v13, e_v13⟩ : ∃ y : Int32, y = x2 + 1 := ⟨_, rfl⟩
          have hf := lt_n e_v13 hf
          refine lv_iinc (v := v13) (lv' := [(2, .int v13), (0, .ref (ad 5)), (1, .int x1)]) hx hb dX5_askAll_96 hl (k := 2) rfl (by rw [e_v13]; rfl) (by decide) rfl (fun ls hl => ?_)
          refine lv_goto (tgt := 46) hx hb dX5_askAll_99 (by decide) ?_
          exact ih σ12 x1 v13 _ _ _ hZ (lv_sub hl [1, 2, 0] rfl) hf
set_option maxHeartbeats 4000000 in
set_option maxRecDepth 100000 in
theorem wk_X5_askAll_40 {p : Program} {l : Launch} {e : Env} {s : State} {m : MethodId} {args : Array Value} {below : List Frame} {meth : Method} {c : Code} {D : va_G} {A : Nat → Prop} {ad : Nat → Nat} {cA : Nat → ClassId} {rs : va_W} {tr : List (ClassId × FieldType)} {res : S2} (C0 : cx p m meth c cX5_askAll none 3 s args tb nl RX5) : ∀ (n : Nat) (σ : S2) (x1 : Int32), ∀ (H : Heap) (locs : List Loc) (ls : Array Slot), zz D vwCl (tyC cA tr) A (wC ad cA rs) s s.heap H locs σ → lv_has ls 3 [(0, .ref (ad 5)), (1, .int x1)] → fn_X5_askAll_40 n σ x1 = some res → W p l e rm_X5_askAll s m args below meth c H locs 0 0 (MQ below (va_Qv (fun u' => u' = res) (zB D vwCl (tyC cA tr) A (wC ad cA rs)) A) args s 0 0 A) (F0 m 40 ls []) := by
  obtain ⟨hx, hb, hr, hml, hown, htt, hlocks, hnw⟩ := id C0
  intro n
  induction n with
  | zero => intro σ x1 H locs ls hZ hl hf; exact no_some hf
  | succ n ih =>
    intro σ x1 H locs ls hZ hl hf
    rw [fn_X5_askAll_40] at hf
    refine lv_iload_n hx hb dX5_askAll_40 rfl (lv_at hl 1 rfl) ?_
    refine lv_if_lt (tgt := 108) hx hb dX5_askAll_41 (by decide) (fun c_1 => ?_) (fun c_1 => ?_)
    · have hf := ite_t c_1 hf
      exact z_vret hx hb hr hlocks hZ (Option.some.inj hf) dX5_askAll_108
    · have hf := ite_f c_1 hf
      refine lv_iconst (v := 0) hx hb dX5_askAll_44 (by decide) ?_
      refine lv_istore_n (lv' := [(2, .int 0), (0, .ref (ad 5)), (1, .int x1)]) hx hb dX5_askAll_45 rfl hl (by decide) rfl (fun ls hl => ?_)
      exact wk_X5_askAll_46 C0 (fn_X5_askAll_40 n) ih fu σ x1 0 _ _ _ hZ (lv_sub hl [1, 2, 0] rfl) hf
set_option maxHeartbeats 4000000 in
set_option maxRecDepth 100000 in
theorem wk_X5_askAll_2 {p : Program} {l : Launch} {e : Env} {s : State} {m : MethodId} {args : Array Value} {below : List Frame} {meth : Method} {c : Code} {D : va_G} {A : Nat → Prop} {ad : Nat → Nat} {cA : Nat → ClassId} {rs : va_W} {tr : List (ClassId × FieldType)} {res : S2} (C0 : cx p m meth c cX5_askAll none 3 s args tb nl RX5) : ∀ (n : Nat) (σ : S2) (x1 : Int32), ∀ (H : Heap) (locs : List Loc) (ls : Array Slot), zz D vwCl (tyC cA tr) A (wC ad cA rs) s s.heap H locs σ → lv_has ls 3 [(0, .ref (ad 5)), (1, .int x1)] → fn_X5_askAll_2 n σ x1 = some res → W p l e rm_X5_askAll s m args below meth c H locs 0 0 (MQ below (va_Qv (fun u' => u' = res) (zB D vwCl (tyC cA tr) A (wC ad cA rs)) A) args s 0 0 A) (F0 m 2 ls []) := by
  obtain ⟨hx, hb, hr, hml, hown, htt, hlocks, hnw⟩ := id C0
  intro n
  induction n with
  | zero => intro σ x1 H locs ls hZ hl hf; exact no_some hf
  | succ n ih =>
    intro σ x1 H locs ls hZ hl hf
    rw [fn_X5_askAll_2] at hf
    refine lv_iload_n hx hb dX5_askAll_2 rfl (lv_at hl 1 rfl) ?_
    refine lv_aload_n hx hb dX5_askAll_3 rfl (lv_at hl 0 rfl) ?_
    refine z_get hx hb htt iw_X5 hown hZ 5 rfl rfl 1 (by decide) lf_X5_38 rfl dX5_askAll_4 ?_
    refine z_getN hx hb gN hnw htt iw_X2 hown hZ 2 rfl rfl 3 (by decide) lf_X5_63 rfl dX5_askAll_7 ?_
    refine lv_icmp_ge (tgt := 37) hx hb dX5_askAll_10 (by decide) (fun c_1 => ?_) (fun c_1 => ?_)
    · have hf := ite_t c_1 hf
      refine lv_bipush (v := 11) hx hb dX5_askAll_37 (by decide) ?_
      refine lv_istore_n (lv' := [(1, .int 11), (0, .ref (ad 5))]) hx hb dX5_askAll_39 rfl hl (by decide) rfl (fun ls hl => ?_)
      exact wk_X5_askAll_40 C0  fu σ 11 _ _ _ hZ (lv_sub hl [1, 0] rfl) hf
    · have hf := ite_f c_1 hf
      refine lv_aload_n hx hb dX5_askAll_13 rfl (lv_at hl 0 rfl) ?_
      refine z_get hx hb htt iw_X5 hown hZ 5 rfl rfl 6 (by decide) lf_X5_19 rfl dX5_askAll_14 ?_
      refine lv_iload_n hx hb dX5_askAll_17 rfl (lv_at hl 1 rfl) ?_
      refine lv_aload_n hx hb dX5_askAll_18 rfl (lv_at hl 0 rfl) ?_
      refine z_get hx hb htt iw_X5 hown hZ 5 rfl rfl 2 (by decide) lf_X5_42 rfl dX5_askAll_19 ?_
      refine lv_iload_n hx hb dX5_askAll_22 rfl (lv_at hl 1 rfl) ?_
      refine lv_aload_n hx hb dX5_askAll_23 rfl (lv_at hl 0 rfl) ?_
      refine z_get hx hb htt iw_X5 hown hZ 5 rfl rfl 0 (by decide) lf_X5_34 rfl dX5_askAll_24 ?_
      obtain ⟨r3, k_2, hf⟩ := bn_s hf
      refine z_calli (z_runVN (As := [.int x1, .ref (ad 1)]) (rest := [.int x1, .ref (ad 20)]) ⟨hx, hb, hml, hown, htt⟩ gT (ct_X3_termsOf l D A ad cA rs tr σ x1 k_2) md_X3_termsOf hnw lm_X5_160 rfl rfl ⟨Nat.le_of_ble_eq_true rfl, Nat.le_of_ble_eq_true rfl⟩ (z_preV gN hnw hZ rfl (q0 := 3) (ci := 3) rfl) rfl rfl hl.1 rfl (lv_room (Nat.le_of_ble_eq_true rfl)) dX5_askAll_27 ⟨Nat.le_of_ble_eq_true rfl, Nat.le_of_ble_eq_true rfl⟩) hZ (fun H locs hZ => ?_)
      obtain ⟨h_4, hf⟩ := ck_s hf
      refine z_ist (σ' := st σ 20 (x1).toNatClampNeg r3) hx hb hZ 20 14 rfl rfl h_4 dX5_askAll_30 rfl (fun σ5 H locs e_σ5 hZ => ?_)
      have hf := lt_n e_σ5 hf
      obtain ⟨v6, e_v6⟩ : ∃ y : Int32, y = x1 + 1 := ⟨_, rfl⟩
      have hf := lt_n e_v6 hf
      refine lv_iinc (v := v6) (lv' := [(1, .int v6), (0, .ref (ad 5))]) hx hb dX5_askAll_31 hl (k := 1) rfl (by rw [e_v6]; rfl) (by decide) rfl (fun ls hl => ?_)
      refine lv_goto (tgt := 2) hx hb dX5_askAll_34 (by decide) ?_
      exact ih σ5 v6 _ _ _ hZ (lv_sub hl [1, 0] rfl) hf
set_option maxHeartbeats 4000000 in
set_option maxRecDepth 100000 in
theorem ct_X5_askAll (l : Launch) (D : va_G) (A : Nat → Prop) (ad : Nat → Nat) (cA : Nat → ClassId) (rs : va_W) (tr : List (ClassId × FieldType)) (σ : S2) {res : S2} (hf : fn_X5_askAll σ = some res) : Met l yX5_askAll (.code yX5_askAll cX5_askAll 3 none :: tb) rm_X5_askAll (va_Pc [.ref (ad 5)] (zN D vwCl (tyC cA tr) A (wC ad cA rs) nl σ)) (va_Qv (fun u' => u' = res) (zB D vwCl (tyC cA tr) A (wC ad cA rs)) A) 0 0 A := by
  refine Met.ofW (cc := cX5_askAll) (maxL := 3) (ret := none) (by decide) rfl ?_
  intro p e s m args below meth c s₁ B hml hv
  obtain ⟨rfl, hB, hnw0⟩ := hv
  have htt : ∀ w ∈ tb, w.before (([.ref (ad 5)] : List Value).toArray) s = true := fun w h => atoms_spec (ws := (.code yX5_askAll cX5_askAll 3 none :: tb)) B.pre w (List.mem_cons_of_mem _ h)
  have C0 : cx p m meth c cX5_askAll none 3 s (([.ref (ad 5)] : List Value).toArray) tb nl RX5 := ⟨B.exec, B.bytes, B.returns, hml, findClass_of_methodNamed B.named, htt, B.notSynchronized, hnw0⟩
  obtain ⟨hx, hb, hr, hml, hown, htt, hlocks, hnw⟩ := id C0
  have hZ := z_start hB
  have hl := lv_entry ([.ref (ad 5)]) (n := 3) (Nat.le_of_ble_eq_true rfl)
  rw [lg_entry_eq]
  generalize (lg_sl ([.ref (ad 5)]) ++ List.replicate (3 - (lg_sl ([.ref (ad 5)])).length) Slot.unset).toArray = ls at hl ⊢
  have hl : lv_has ls 3 [(0, .ref (ad 5))] := hl
  unfold fn_X5_askAll at hf
  refine lv_iconst (v := 0) hx hb dX5_askAll_0 (by decide) ?_
  refine lv_istore_n (lv' := [(1, .int 0), (0, .ref (ad 5))]) hx hb dX5_askAll_1 rfl hl (by decide) rfl (fun ls hl => ?_)
  exact wk_X5_askAll_2 C0  fu σ 0 _ _ _ hZ (lv_sub hl [1, 0] rfl) hf
abbrev rm_X5_tell : Room := { frames := 0, cells := 0, slots := 0, locals := 0 }
def fn_X5_tell_51 (σ : S2) : Option (S2) := lt (st σ 5 0 ((σ.1 5 0) + 1)) (fun σ1 => some σ1)
def fn_X5_tell (σ : S2) (x1 : Int32) (x2 : Int32) (x3 : Int32) (x4 : Int32) : Option (S2) := if 250 ≤ (σ.1 5 0) then fn_X5_tell_51 σ else ck (σ.1 5 0) 250 (lt (st σ 21 ((σ.1 5 0)).toNatClampNeg x1) (fun σ3 => ck (σ3.1 5 0) 250 (lt (st σ3 22 ((σ3.1 5 0)).toNatClampNeg x2) (fun σ5 => ck (σ5.1 5 0) 250 (lt (st σ5 23 ((σ5.1 5 0)).toNatClampNeg x3) (fun σ7 => ck (σ7.1 5 0) 250 (lt (st σ7 24 ((σ7.1 5 0)).toNatClampNeg x4) (fun σ9 => fn_X5_tell_51 σ9))))))))
set_option maxHeartbeats 4000000 in
set_option maxRecDepth 100000 in
theorem wk_X5_tell_51 {p : Program} {l : Launch} {e : Env} {s : State} {m : MethodId} {args : Array Value} {below : List Frame} {meth : Method} {c : Code} {D : va_G} {A : Nat → Prop} {ad : Nat → Nat} {cA : Nat → ClassId} {rs : va_W} {tr : List (ClassId × FieldType)} {res : S2} (C0 : cx p m meth c cX5_tell none 5 s args tb nl RX5) : ∀ (σ : S2), ∀ (H : Heap) (locs : List Loc) (ls : Array Slot), zz D vwCl (tyC cA tr) A (wC ad cA rs) s s.heap H locs σ → lv_has ls 5 [(0, .ref (ad 5))] → fn_X5_tell_51 σ = some res → W p l e rm_X5_tell s m args below meth c H locs 0 0 (MQ below (va_Qv (fun u' => u' = res) (zB D vwCl (tyC cA tr) A (wC ad cA rs)) A) args s 0 0 A) (F0 m 51 ls []) := by
  obtain ⟨hx, hb, hr, hml, hown, htt, hlocks, hnw⟩ := id C0
  intro σ H locs ls hZ hl hf
  unfold fn_X5_tell_51 at hf
  refine lv_aload_n hx hb dX5_tell_51 rfl (lv_at hl 0 rfl) ?_
  refine lv_dup hx hb dX5_tell_52 rfl ?_
  refine z_get hx hb htt iw_X5 hown hZ 5 rfl rfl 11 (by decide) lf_X5_170 rfl dX5_tell_53 ?_
  refine lv_iconst (v := 1) hx hb dX5_tell_56 (by decide) ?_
  refine lv_iadd hx hb dX5_tell_57 ?_
  refine z_put (σ' := st σ 5 0 ((σ.1 5 0) + 1)) hx hb htt iw_X5 tyX5 to_X5 nm_X5 hown hZ 5 rfl rfl 11 (by decide) lf_X5_170 rfl rfl rfl (Nat.le_of_ble_eq_true rfl) dX5_tell_58 rfl (fun σ1 H locs e_σ1 hZ => ?_)
  have hf := lt_n e_σ1 hf
  exact z_vret hx hb hr hlocks hZ (Option.some.inj hf) dX5_tell_61
set_option maxHeartbeats 4000000 in
set_option maxRecDepth 100000 in
theorem ct_X5_tell (l : Launch) (D : va_G) (A : Nat → Prop) (ad : Nat → Nat) (cA : Nat → ClassId) (rs : va_W) (tr : List (ClassId × FieldType)) (σ : S2) (x1 : Int32) (x2 : Int32) (x3 : Int32) (x4 : Int32) {res : S2} (hf : fn_X5_tell σ x1 x2 x3 x4 = some res) : Met l yX5_tell (.code yX5_tell cX5_tell 5 none :: tb) rm_X5_tell (va_Pc [.ref (ad 5), .int x1, .int x2, .int x3, .int x4] (zN D vwCl (tyC cA tr) A (wC ad cA rs) nl σ)) (va_Qv (fun u' => u' = res) (zB D vwCl (tyC cA tr) A (wC ad cA rs)) A) 0 0 A := by
  refine Met.ofW (cc := cX5_tell) (maxL := 5) (ret := none) (by decide) rfl ?_
  intro p e s m args below meth c s₁ B hml hv
  obtain ⟨rfl, hB, hnw0⟩ := hv
  have htt : ∀ w ∈ tb, w.before (([.ref (ad 5), .int x1, .int x2, .int x3, .int x4] : List Value).toArray) s = true := fun w h => atoms_spec (ws := (.code yX5_tell cX5_tell 5 none :: tb)) B.pre w (List.mem_cons_of_mem _ h)
  have C0 : cx p m meth c cX5_tell none 5 s (([.ref (ad 5), .int x1, .int x2, .int x3, .int x4] : List Value).toArray) tb nl RX5 := ⟨B.exec, B.bytes, B.returns, hml, findClass_of_methodNamed B.named, htt, B.notSynchronized, hnw0⟩
  obtain ⟨hx, hb, hr, hml, hown, htt, hlocks, hnw⟩ := id C0
  have hZ := z_start hB
  have hl := lv_entry ([.ref (ad 5), .int x1, .int x2, .int x3, .int x4]) (n := 5) (Nat.le_of_ble_eq_true rfl)
  rw [lg_entry_eq]
  generalize (lg_sl ([.ref (ad 5), .int x1, .int x2, .int x3, .int x4]) ++ List.replicate (5 - (lg_sl ([.ref (ad 5), .int x1, .int x2, .int x3, .int x4])).length) Slot.unset).toArray = ls at hl ⊢
  have hl : lv_has ls 5 [(0, .ref (ad 5)), (1, .int x1), (2, .int x2), (3, .int x3), (4, .int x4)] := hl
  unfold fn_X5_tell at hf
  refine lv_aload_n hx hb dX5_tell_0 rfl (lv_at hl 0 rfl) ?_
  refine z_get hx hb htt iw_X5 hown hZ 5 rfl rfl 11 (by decide) lf_X5_170 rfl dX5_tell_1 ?_
  refine lv_sipush (v := 250) hx hb dX5_tell_4 (by decide) ?_
  refine lv_icmp_ge (tgt := 51) hx hb dX5_tell_7 (by decide) (fun c_1 => ?_) (fun c_1 => ?_)
  · have hf := ite_t c_1 hf
    exact wk_X5_tell_51 C0  σ _ _ _ hZ (lv_sub hl [0] rfl) hf
  · have hf := ite_f c_1 hf
    refine lv_aload_n hx hb dX5_tell_10 rfl (lv_at hl 0 rfl) ?_
    refine z_get hx hb htt iw_X5 hown hZ 5 rfl rfl 7 (by decide) lf_X5_22 rfl dX5_tell_11 ?_
    refine lv_aload_n hx hb dX5_tell_14 rfl (lv_at hl 0 rfl) ?_
    refine z_get hx hb htt iw_X5 hown hZ 5 rfl rfl 11 (by decide) lf_X5_170 rfl dX5_tell_15 ?_
    refine lv_iload_n hx hb dX5_tell_18 rfl (lv_at hl 1 rfl) ?_
    obtain ⟨h_2, hf⟩ := ck_s hf
    refine z_ist (σ' := st σ 21 ((σ.1 5 0)).toNatClampNeg x1) hx hb hZ 21 15 rfl rfl h_2 dX5_tell_19 rfl (fun σ3 H locs e_σ3 hZ => ?_)
    have hf := lt_n e_σ3 hf
    refine lv_aload_n hx hb dX5_tell_20 rfl (lv_at hl 0 rfl) ?_
    refine z_get hx hb htt iw_X5 hown hZ 5 rfl rfl 8 (by decide) lf_X5_25 rfl dX5_tell_21 ?_
    refine lv_aload_n hx hb dX5_tell_24 rfl (lv_at hl 0 rfl) ?_
    refine z_get hx hb htt iw_X5 hown hZ 5 rfl rfl 11 (by decide) lf_X5_170 rfl dX5_tell_25 ?_
    refine lv_iload_n hx hb dX5_tell_28 rfl (lv_at hl 2 rfl) ?_
    obtain ⟨h_4, hf⟩ := ck_s hf
    refine z_ist (σ' := st σ3 22 ((σ3.1 5 0)).toNatClampNeg x2) hx hb hZ 22 16 rfl rfl h_4 dX5_tell_29 rfl (fun σ5 H locs e_σ5 hZ => ?_)
    have hf := lt_n e_σ5 hf
    refine lv_aload_n hx hb dX5_tell_30 rfl (lv_at hl 0 rfl) ?_
    refine z_get hx hb htt iw_X5 hown hZ 5 rfl rfl 9 (by decide) lf_X5_28 rfl dX5_tell_31 ?_
    refine lv_aload_n hx hb dX5_tell_34 rfl (lv_at hl 0 rfl) ?_
    refine z_get hx hb htt iw_X5 hown hZ 5 rfl rfl 11 (by decide) lf_X5_170 rfl dX5_tell_35 ?_
    refine lv_iload_n hx hb dX5_tell_38 rfl (lv_at hl 3 rfl) ?_
    obtain ⟨h_6, hf⟩ := ck_s hf
    refine z_ist (σ' := st σ5 23 ((σ5.1 5 0)).toNatClampNeg x3) hx hb hZ 23 17 rfl rfl h_6 dX5_tell_39 rfl (fun σ7 H locs e_σ7 hZ => ?_)
    have hf := lt_n e_σ7 hf
    refine lv_aload_n hx hb dX5_tell_40 rfl (lv_at hl 0 rfl) ?_
    refine z_get hx hb htt iw_X5 hown hZ 5 rfl rfl 10 (by decide) lf_X5_31 rfl dX5_tell_41 ?_
    refine lv_aload_n hx hb dX5_tell_44 rfl (lv_at hl 0 rfl) ?_
    refine z_get hx hb htt iw_X5 hown hZ 5 rfl rfl 11 (by decide) lf_X5_170 rfl dX5_tell_45 ?_
    refine lv_iload hx hb dX5_tell_48 (lv_at hl 4 rfl) ?_
    obtain ⟨h_8, hf⟩ := ck_s hf
    refine z_ist (σ' := st σ7 24 ((σ7.1 5 0)).toNatClampNeg x4) hx hb hZ 24 18 rfl rfl h_8 dX5_tell_50 rfl (fun σ9 H locs e_σ9 hZ => ?_)
    have hf := lt_n e_σ9 hf
    exact wk_X5_tell_51 C0  σ9 _ _ _ hZ (lv_sub hl [0] rfl) hf
abbrev rm_X5_tellConstraint : Room := { frames := 1, cells := 0, slots := 0, locals := 24 }
def fn_X5_tellConstraint_24 : Nat → S2 → Int32 → Int32 → Int32 → Int64 → Int32 → Option (S2)
  | 0, _, _, _, _, _, _ => none
  | n + 1, σ, x1, x2, x3, x4, x6 => if 32 ≤ x6 then some σ else if (lg_cmp ((ushL x4 (x6 + 1)) &&& 1) 0) = 0 then lt (x6 + 1) (fun v3 => fn_X5_tellConstraint_24 n σ x1 x2 x3 x4 v3) else bn (fn_X5_tell σ x1 x2 x3 x6) (fun σ5 => lt (x6 + 1) (fun v6 => fn_X5_tellConstraint_24 n σ5 x1 x2 x3 x4 v6))
def fn_X5_tellConstraint (σ : S2) (x1 : Int32) (x2 : Int32) (x3 : Int32) : Option (S2) := ck ((x1 * 40) + x3) 1280 (lt ((σ.2 18 (((x1 * 40) + x3)).toNatClampNeg)) (fun v2 => if (lg_cmp v2 0) = 0 then some σ else fn_X5_tellConstraint_24 fu σ x1 x2 x3 v2 (-1)))
set_option maxHeartbeats 4000000 in
set_option maxRecDepth 100000 in
theorem wk_X5_tellConstraint_24 {p : Program} {l : Launch} {e : Env} {s : State} {m : MethodId} {args : Array Value} {below : List Frame} {meth : Method} {c : Code} {D : va_G} {A : Nat → Prop} {ad : Nat → Nat} {cA : Nat → ClassId} {rs : va_W} {tr : List (ClassId × FieldType)} {res : S2} (C0 : cx p m meth c cX5_tellConstraint none 7 s args tb nl RX5) : ∀ (n : Nat) (σ : S2) (x1 : Int32) (x2 : Int32) (x3 : Int32) (x4 : Int64) (x6 : Int32), ∀ (H : Heap) (locs : List Loc) (ls : Array Slot), zz D vwCl (tyC cA tr) A (wC ad cA rs) s s.heap H locs σ → lv_has ls 7 [(0, .ref (ad 5)), (1, .int x1), (2, .int x2), (3, .int x3), (4, .long x4), (6, .int x6)] → fn_X5_tellConstraint_24 n σ x1 x2 x3 x4 x6 = some res → W p l e rm_X5_tellConstraint s m args below meth c H locs 0 0 (MQ below (va_Qv (fun u' => u' = res) (zB D vwCl (tyC cA tr) A (wC ad cA rs)) A) args s 0 0 A) (F0 m 24 ls []) := by
  obtain ⟨hx, hb, hr, hml, hown, htt, hlocks, hnw⟩ := id C0
  intro n
  induction n with
  | zero => intro σ x1 x2 x3 x4 x6 H locs ls hZ hl hf; exact no_some hf
  | succ n ih =>
    intro σ x1 x2 x3 x4 x6 H locs ls hZ hl hf
    rw [fn_X5_tellConstraint_24] at hf
    refine lv_iload hx hb dX5_tellConstraint_24 (lv_at hl 5 rfl) ?_
    refine lv_bipush (v := 32) hx hb dX5_tellConstraint_26 (by decide) ?_
    refine lv_icmp_ge (tgt := 60) hx hb dX5_tellConstraint_28 (by decide) (fun c_1 => ?_) (fun c_1 => ?_)
    · have hf := ite_t c_1 hf
      exact z_vret hx hb hr hlocks hZ (Option.some.inj hf) dX5_tellConstraint_60
    · have hf := ite_f c_1 hf
      refine lv_lload hx hb dX5_tellConstraint_31 (lv_at hl 4 rfl) ?_
      refine lv_iload hx hb dX5_tellConstraint_33 (lv_at hl 5 rfl) ?_
      refine lv_iconst (v := 1) hx hb dX5_tellConstraint_35 (by decide) ?_
      refine lv_iadd hx hb dX5_tellConstraint_36 ?_
      refine lv_lushr (v := ushL x4 (x6 + 1)) hx hb dX5_tellConstraint_37 rfl ?_
      refine lv_lconst (v := 1) hx hb dX5_tellConstraint_38 (by decide) ?_
      refine lv_land hx hb dX5_tellConstraint_39 ?_
      refine lv_lconst (v := 0) hx hb dX5_tellConstraint_40 (by decide) ?_
      refine W.lcmp hx hb dX5_tellConstraint_41 ?_
      refine lv_if_eq (tgt := 54) hx hb dX5_tellConstraint_42 (by decide) (fun c_2 => ?_) (fun c_2 => ?_)
      · have hf := ite_t c_2 hf
        obtain ⟨v3, e_v3⟩ : ∃ y : Int32, y = x6 + 1 := ⟨_, rfl⟩
        have hf := lt_n e_v3 hf
        refine lv_iinc (v := v3) (lv' := [(6, .int v3), (0, .ref (ad 5)), (1, .int x1), (2, .int x2), (3, .int x3), (4, .long x4)]) hx hb dX5_tellConstraint_54 hl (k := 5) rfl (by rw [e_v3]; rfl) (by decide) rfl (fun ls hl => ?_)
        refine lv_goto (tgt := 24) hx hb dX5_tellConstraint_57 (by decide) ?_
        exact ih σ x1 x2 x3 x4 v3 _ _ _ hZ (lv_sub hl [1, 2, 3, 4, 5, 0] rfl) hf
      · have hf := ite_f c_2 hf
        refine lv_aload_n hx hb dX5_tellConstraint_45 rfl (lv_at hl 0 rfl) ?_
        refine lv_iload_n hx hb dX5_tellConstraint_46 rfl (lv_at hl 1 rfl) ?_
        refine lv_iload_n hx hb dX5_tellConstraint_47 rfl (lv_at hl 2 rfl) ?_
        refine lv_iload_n hx hb dX5_tellConstraint_48 rfl (lv_at hl 3 rfl) ?_
        refine lv_iload hx hb dX5_tellConstraint_49 (lv_at hl 5 rfl) ?_
        obtain ⟨σ5, k_4, hf⟩ := bn_s hf
        refine z_callv (u := σ5) (z_runV (As := [.int x1, .int x2, .int x3, .int x6]) (rest := []) ⟨hx, hb, hml, hown, htt⟩ gT (ct_X5_tell l D A ad cA rs tr σ x1 x2 x3 x6 k_4) md_X5_tell lm_X5_178 rfl rfl ⟨Nat.le_of_ble_eq_true rfl, Nat.le_of_ble_eq_true rfl⟩ (z_preV gN hnw hZ rfl (q0 := 5) (ci := 5) rfl) rfl rfl hl.1 rfl (lv_room (Nat.le_of_ble_eq_true rfl)) dX5_tellConstraint_51 ⟨Nat.le_of_ble_eq_true rfl, Nat.le_of_ble_eq_true rfl⟩) hZ (fun H locs hZ => ?_)
        obtain ⟨v6, e_v6⟩ : ∃ y : Int32, y = x6 + 1 := ⟨_, rfl⟩
        have hf := lt_n e_v6 hf
        refine lv_iinc (v := v6) (lv' := [(6, .int v6), (0, .ref (ad 5)), (1, .int x1), (2, .int x2), (3, .int x3), (4, .long x4)]) hx hb dX5_tellConstraint_54 hl (k := 5) rfl (by rw [e_v6]; rfl) (by decide) rfl (fun ls hl => ?_)
        refine lv_goto (tgt := 24) hx hb dX5_tellConstraint_57 (by decide) ?_
        exact ih σ5 x1 x2 x3 x4 v6 _ _ _ hZ (lv_sub hl [1, 2, 3, 4, 5, 0] rfl) hf
set_option maxHeartbeats 4000000 in
set_option maxRecDepth 100000 in
theorem ct_X5_tellConstraint (l : Launch) (D : va_G) (A : Nat → Prop) (ad : Nat → Nat) (cA : Nat → ClassId) (rs : va_W) (tr : List (ClassId × FieldType)) (σ : S2) (x1 : Int32) (x2 : Int32) (x3 : Int32) {res : S2} (hf : fn_X5_tellConstraint σ x1 x2 x3 = some res) : Met l yX5_tellConstraint (.code yX5_tellConstraint cX5_tellConstraint 7 none :: tb) rm_X5_tellConstraint (va_Pc [.ref (ad 5), .int x1, .int x2, .int x3] (zN D vwCl (tyC cA tr) A (wC ad cA rs) nl σ)) (va_Qv (fun u' => u' = res) (zB D vwCl (tyC cA tr) A (wC ad cA rs)) A) 0 0 A := by
  refine Met.ofW (cc := cX5_tellConstraint) (maxL := 7) (ret := none) (by decide) rfl ?_
  intro p e s m args below meth c s₁ B hml hv
  obtain ⟨rfl, hB, hnw0⟩ := hv
  have htt : ∀ w ∈ tb, w.before (([.ref (ad 5), .int x1, .int x2, .int x3] : List Value).toArray) s = true := fun w h => atoms_spec (ws := (.code yX5_tellConstraint cX5_tellConstraint 7 none :: tb)) B.pre w (List.mem_cons_of_mem _ h)
  have C0 : cx p m meth c cX5_tellConstraint none 7 s (([.ref (ad 5), .int x1, .int x2, .int x3] : List Value).toArray) tb nl RX5 := ⟨B.exec, B.bytes, B.returns, hml, findClass_of_methodNamed B.named, htt, B.notSynchronized, hnw0⟩
  obtain ⟨hx, hb, hr, hml, hown, htt, hlocks, hnw⟩ := id C0
  have hZ := z_start hB
  have hl := lv_entry ([.ref (ad 5), .int x1, .int x2, .int x3]) (n := 7) (Nat.le_of_ble_eq_true rfl)
  rw [lg_entry_eq]
  generalize (lg_sl ([.ref (ad 5), .int x1, .int x2, .int x3]) ++ List.replicate (7 - (lg_sl ([.ref (ad 5), .int x1, .int x2, .int x3])).length) Slot.unset).toArray = ls at hl ⊢
  have hl : lv_has ls 7 [(0, .ref (ad 5)), (1, .int x1), (2, .int x2), (3, .int x3)] := hl
  unfold fn_X5_tellConstraint at hf
  refine lv_aload_n hx hb dX5_tellConstraint_0 rfl (lv_at hl 0 rfl) ?_
  refine z_get hx hb htt iw_X5 hown hZ 5 rfl rfl 4 (by decide) lf_X5_9 rfl dX5_tellConstraint_1 ?_
  refine lv_iload_n hx hb dX5_tellConstraint_4 rfl (lv_at hl 1 rfl) ?_
  refine lv_bipush (v := 40) hx hb dX5_tellConstraint_5 (by decide) ?_
  refine lv_imul hx hb dX5_tellConstraint_7 ?_
  refine lv_iload_n hx hb dX5_tellConstraint_8 rfl (lv_at hl 3 rfl) ?_
  refine lv_iadd hx hb dX5_tellConstraint_9 ?_
  obtain ⟨h_1, hf⟩ := ck_s hf
  refine z_lld hx hb hZ 18 12 rfl rfl h_1 dX5_tellConstraint_10 ?_
  refine lv_topl (fun v2 e_v2 => ?_)
  have hf := lt_n e_v2 hf
  refine lv_lstore (lv' := [(4, .long v2), (0, .ref (ad 5)), (1, .int x1), (2, .int x2), (3, .int x3)]) hx hb dX5_tellConstraint_11 hl (by decide) rfl (fun ls hl => ?_)
  refine lv_lload hx hb dX5_tellConstraint_13 (lv_at hl 0 rfl) ?_
  refine lv_lconst (v := 0) hx hb dX5_tellConstraint_15 (by decide) ?_
  refine W.lcmp hx hb dX5_tellConstraint_16 ?_
  refine lv_if_ne (tgt := 21) hx hb dX5_tellConstraint_17 (by decide) (fun c_3 => ?_) (fun c_3 => ?_)
  · have hf := ite_f c_3 hf
    refine lv_iconst (v := (-1)) hx hb dX5_tellConstraint_21 (by decide) ?_
    refine lv_istore (lv' := [(6, .int (-1)), (4, .long v2), (0, .ref (ad 5)), (1, .int x1), (2, .int x2), (3, .int x3)]) hx hb dX5_tellConstraint_22 hl (by decide) rfl (fun ls hl => ?_)
    exact wk_X5_tellConstraint_24 C0  fu σ x1 x2 x3 v2 (-1) _ _ _ hZ (lv_sub hl [2, 3, 4, 5, 1, 0] rfl) hf
  · have hf := ite_t c_3 hf
    exact z_vret hx hb hr hlocks hZ (Option.some.inj hf) dX5_tellConstraint_20
abbrev rm_X5_tellShape : Room := { frames := 2, cells := 0, slots := 0, locals := 50 }
def fn_X5_tellShape_2 : Nat → S2 → Int32 → Int32 → Int32 → Option (S2)
  | 0, _, _, _, _ => none
  | n + 1, σ, x1, x2, x3 => if (σ.1 4 0) ≤ x3 then some σ else ck x3 40 (if (σ.1 14 (x3).toNatClampNeg) = x2 then ck x3 40 (if (σ.1 15 (x3).toNatClampNeg) = 16 then lt (x3 + 1) (fun v7 => fn_X5_tellShape_2 n σ x1 x2 v7) else bn (fn_X5_tellConstraint σ x1 x2 x3) (fun σ9 => lt (x3 + 1) (fun v10 => fn_X5_tellShape_2 n σ9 x1 x2 v10))) else lt (x3 + 1) (fun v4 => fn_X5_tellShape_2 n σ x1 x2 v4))
def fn_X5_tellShape (σ : S2) (x1 : Int32) (x2 : Int32) : Option (S2) := fn_X5_tellShape_2 fu σ x1 x2 0
set_option maxHeartbeats 4000000 in
set_option maxRecDepth 100000 in
theorem wk_X5_tellShape_2 {p : Program} {l : Launch} {e : Env} {s : State} {m : MethodId} {args : Array Value} {below : List Frame} {meth : Method} {c : Code} {D : va_G} {A : Nat → Prop} {ad : Nat → Nat} {cA : Nat → ClassId} {rs : va_W} {tr : List (ClassId × FieldType)} {res : S2} (C0 : cx p m meth c cX5_tellShape none 4 s args tb nl RX5) : ∀ (n : Nat) (σ : S2) (x1 : Int32) (x2 : Int32) (x3 : Int32), ∀ (H : Heap) (locs : List Loc) (ls : Array Slot), zz D vwCl (tyC cA tr) A (wC ad cA rs) s s.heap H locs σ → lv_has ls 4 [(0, .ref (ad 5)), (1, .int x1), (2, .int x2), (3, .int x3)] → fn_X5_tellShape_2 n σ x1 x2 x3 = some res → W p l e rm_X5_tellShape s m args below meth c H locs 0 0 (MQ below (va_Qv (fun u' => u' = res) (zB D vwCl (tyC cA tr) A (wC ad cA rs)) A) args s 0 0 A) (F0 m 2 ls []) := by
  obtain ⟨hx, hb, hr, hml, hown, htt, hlocks, hnw⟩ := id C0
  intro n
  induction n with
  | zero => intro σ x1 x2 x3 H locs ls hZ hl hf; exact no_some hf
  | succ n ih =>
    intro σ x1 x2 x3 H locs ls hZ hl hf
    rw [fn_X5_tellShape_2] at hf
    refine lv_iload_n hx hb dX5_tellShape_2 rfl (lv_at hl 3 rfl) ?_
    refine lv_aload_n hx hb dX5_tellShape_3 rfl (lv_at hl 0 rfl) ?_
    refine z_get hx hb htt iw_X5 hown hZ 5 rfl rfl 3 (by decide) lf_X5_46 rfl dX5_tellShape_4 ?_
    refine z_getN hx hb gN hnw htt iw_X4 hown hZ 4 rfl rfl 4 (by decide) lf_X5_69 rfl dX5_tellShape_7 ?_
    refine lv_icmp_ge (tgt := 53) hx hb dX5_tellShape_10 (by decide) (fun c_1 => ?_) (fun c_1 => ?_)
    · have hf := ite_t c_1 hf
      exact z_vret hx hb hr hlocks hZ (Option.some.inj hf) dX5_tellShape_53
    · have hf := ite_f c_1 hf
      refine lv_aload_n hx hb dX5_tellShape_13 rfl (lv_at hl 0 rfl) ?_
      refine z_get hx hb htt iw_X5 hown hZ 5 rfl rfl 3 (by decide) lf_X5_46 rfl dX5_tellShape_14 ?_
      refine z_getN hx hb gN hnw htt iw_X4 hown hZ 4 rfl rfl 0 (by decide) lf_X5_72 rfl dX5_tellShape_17 ?_
      refine lv_iload_n hx hb dX5_tellShape_20 rfl (lv_at hl 3 rfl) ?_
      obtain ⟨h_2, hf⟩ := ck_s hf
      refine z_ild hx hb hZ 14 8 rfl rfl h_2 dX5_tellShape_21 ?_
      refine lv_iload_n hx hb dX5_tellShape_22 rfl (lv_at hl 2 rfl) ?_
      refine lv_icmp_ne (tgt := 47) hx hb dX5_tellShape_23 (by decide) (fun c_3 => ?_) (fun c_3 => ?_)
      · have hf := ite_f c_3 hf
        obtain ⟨v4, e_v4⟩ : ∃ y : Int32, y = x3 + 1 := ⟨_, rfl⟩
        have hf := lt_n e_v4 hf
        refine lv_iinc (v := v4) (lv' := [(3, .int v4), (0, .ref (ad 5)), (1, .int x1), (2, .int x2)]) hx hb dX5_tellShape_47 hl (k := 3) rfl (by rw [e_v4]; rfl) (by decide) rfl (fun ls hl => ?_)
        refine lv_goto (tgt := 2) hx hb dX5_tellShape_50 (by decide) ?_
        exact ih σ x1 x2 v4 _ _ _ hZ (lv_sub hl [1, 2, 3, 0] rfl) hf
      · have hf := ite_t c_3 hf
        refine lv_aload_n hx hb dX5_tellShape_26 rfl (lv_at hl 0 rfl) ?_
        refine z_get hx hb htt iw_X5 hown hZ 5 rfl rfl 3 (by decide) lf_X5_46 rfl dX5_tellShape_27 ?_
        refine z_getN hx hb gN hnw htt iw_X4 hown hZ 4 rfl rfl 1 (by decide) lf_X5_107 rfl dX5_tellShape_30 ?_
        refine lv_iload_n hx hb dX5_tellShape_33 rfl (lv_at hl 3 rfl) ?_
        obtain ⟨h_5, hf⟩ := ck_s hf
        refine z_ild hx hb hZ 15 9 rfl rfl h_5 dX5_tellShape_34 ?_
        refine lv_bipush (v := 16) hx hb dX5_tellShape_35 (by decide) ?_
        refine lv_icmp_eq (tgt := 47) hx hb dX5_tellShape_37 (by decide) (fun c_6 => ?_) (fun c_6 => ?_)
        · have hf := ite_t c_6 hf
          obtain ⟨v7, e_v7⟩ : ∃ y : Int32, y = x3 + 1 := ⟨_, rfl⟩
          have hf := lt_n e_v7 hf
          refine lv_iinc (v := v7) (lv' := [(3, .int v7), (0, .ref (ad 5)), (1, .int x1), (2, .int x2)]) hx hb dX5_tellShape_47 hl (k := 3) rfl (by rw [e_v7]; rfl) (by decide) rfl (fun ls hl => ?_)
          refine lv_goto (tgt := 2) hx hb dX5_tellShape_50 (by decide) ?_
          exact ih σ x1 x2 v7 _ _ _ hZ (lv_sub hl [1, 2, 3, 0] rfl) hf
        · have hf := ite_f c_6 hf
          refine lv_aload_n hx hb dX5_tellShape_40 rfl (lv_at hl 0 rfl) ?_
          refine lv_iload_n hx hb dX5_tellShape_41 rfl (lv_at hl 1 rfl) ?_
          refine lv_iload_n hx hb dX5_tellShape_42 rfl (lv_at hl 2 rfl) ?_
          refine lv_iload_n hx hb dX5_tellShape_43 rfl (lv_at hl 3 rfl) ?_
          obtain ⟨σ9, k_8, hf⟩ := bn_s hf
          refine z_callv (u := σ9) (z_runV (As := [.int x1, .int x2, .int x3]) (rest := []) ⟨hx, hb, hml, hown, htt⟩ gT (ct_X5_tellConstraint l D A ad cA rs tr σ x1 x2 x3 k_8) md_X5_tellConstraint lm_X5_174 rfl rfl ⟨Nat.le_of_ble_eq_true rfl, Nat.le_of_ble_eq_true rfl⟩ (z_preV gN hnw hZ rfl (q0 := 5) (ci := 5) rfl) rfl rfl hl.1 rfl (lv_room (Nat.le_of_ble_eq_true rfl)) dX5_tellShape_44 ⟨Nat.le_of_ble_eq_true rfl, Nat.le_of_ble_eq_true rfl⟩) hZ (fun H locs hZ => ?_)
          obtain ⟨v10, e_v10⟩ : ∃ y : Int32, y = x3 + 1 := ⟨_, rfl⟩
          have hf := lt_n e_v10 hf
          refine lv_iinc (v := v10) (lv' := [(3, .int v10), (0, .ref (ad 5)), (1, .int x1), (2, .int x2)]) hx hb dX5_tellShape_47 hl (k := 3) rfl (by rw [e_v10]; rfl) (by decide) rfl (fun ls hl => ?_)
          refine lv_goto (tgt := 2) hx hb dX5_tellShape_50 (by decide) ?_
          exact ih σ9 x1 x2 v10 _ _ _ hZ (lv_sub hl [1, 2, 3, 0] rfl) hf
set_option maxHeartbeats 4000000 in
set_option maxRecDepth 100000 in
theorem ct_X5_tellShape (l : Launch) (D : va_G) (A : Nat → Prop) (ad : Nat → Nat) (cA : Nat → ClassId) (rs : va_W) (tr : List (ClassId × FieldType)) (σ : S2) (x1 : Int32) (x2 : Int32) {res : S2} (hf : fn_X5_tellShape σ x1 x2 = some res) : Met l yX5_tellShape (.code yX5_tellShape cX5_tellShape 4 none :: tb) rm_X5_tellShape (va_Pc [.ref (ad 5), .int x1, .int x2] (zN D vwCl (tyC cA tr) A (wC ad cA rs) nl σ)) (va_Qv (fun u' => u' = res) (zB D vwCl (tyC cA tr) A (wC ad cA rs)) A) 0 0 A := by
  refine Met.ofW (cc := cX5_tellShape) (maxL := 4) (ret := none) (by decide) rfl ?_
  intro p e s m args below meth c s₁ B hml hv
  obtain ⟨rfl, hB, hnw0⟩ := hv
  have htt : ∀ w ∈ tb, w.before (([.ref (ad 5), .int x1, .int x2] : List Value).toArray) s = true := fun w h => atoms_spec (ws := (.code yX5_tellShape cX5_tellShape 4 none :: tb)) B.pre w (List.mem_cons_of_mem _ h)
  have C0 : cx p m meth c cX5_tellShape none 4 s (([.ref (ad 5), .int x1, .int x2] : List Value).toArray) tb nl RX5 := ⟨B.exec, B.bytes, B.returns, hml, findClass_of_methodNamed B.named, htt, B.notSynchronized, hnw0⟩
  obtain ⟨hx, hb, hr, hml, hown, htt, hlocks, hnw⟩ := id C0
  have hZ := z_start hB
  have hl := lv_entry ([.ref (ad 5), .int x1, .int x2]) (n := 4) (Nat.le_of_ble_eq_true rfl)
  rw [lg_entry_eq]
  generalize (lg_sl ([.ref (ad 5), .int x1, .int x2]) ++ List.replicate (4 - (lg_sl ([.ref (ad 5), .int x1, .int x2])).length) Slot.unset).toArray = ls at hl ⊢
  have hl : lv_has ls 4 [(0, .ref (ad 5)), (1, .int x1), (2, .int x2)] := hl
  unfold fn_X5_tellShape at hf
  refine lv_iconst (v := 0) hx hb dX5_tellShape_0 (by decide) ?_
  refine lv_istore_n (lv' := [(3, .int 0), (0, .ref (ad 5)), (1, .int x1), (2, .int x2)]) hx hb dX5_tellShape_1 rfl hl (by decide) rfl (fun ls hl => ?_)
  exact wk_X5_tellShape_2 C0  fu σ x1 x2 0 _ _ _ hZ (lv_sub hl [1, 2, 3, 0] rfl) hf
abbrev rm_X5_tellAll : Room := { frames := 3, cells := 0, slots := 0, locals := 73 }
def fn_X5_tellAll_15 (K7 : S2 → Int32 → Option (S2)) : Nat → S2 → Int32 → Int32 → Option (S2)
  | 0, _, _, _ => none
  | n + 1, σ, x1, x2 => if (σ.1 2 0) ≤ x2 then lt (x1 + 1) (fun v2 => K7 σ v2) else ck x2 12 (lt (fn_X0_holdsBit (σ.1 20 (x2).toNatClampNeg) x1) (fun r4 => if r4 = 0 then lt (x2 + 1) (fun v6 => fn_X5_tellAll_15 K7 n σ x1 v6) else bn (fn_X5_tellShape σ x1 x2) (fun σ8 => lt (x2 + 1) (fun v9 => fn_X5_tellAll_15 K7 n σ8 x1 v9))))
def fn_X5_tellAll_7 : Nat → S2 → Int32 → Option (S2)
  | 0, _, _ => none
  | n + 1, σ, x1 => if 32 ≤ x1 then some σ else fn_X5_tellAll_15 (fn_X5_tellAll_7 n) fu σ x1 0
def fn_X5_tellAll (σ : S2) : Option (S2) := lt (st σ 5 0 0) (fun σ1 => fn_X5_tellAll_7 fu σ1 0)
set_option maxHeartbeats 4000000 in
set_option maxRecDepth 100000 in
theorem wk_X5_tellAll_15 {p : Program} {l : Launch} {e : Env} {s : State} {m : MethodId} {args : Array Value} {below : List Frame} {meth : Method} {c : Code} {D : va_G} {A : Nat → Prop} {ad : Nat → Nat} {cA : Nat → ClassId} {rs : va_W} {tr : List (ClassId × FieldType)} {res : S2} (C0 : cx p m meth c cX5_tellAll none 3 s args tb nl RX5) (K7 : S2 → Int32 → Option (S2)) (hK7 : ∀ (σ : S2) (x1 : Int32), ∀ (H : Heap) (locs : List Loc) (ls : Array Slot), zz D vwCl (tyC cA tr) A (wC ad cA rs) s s.heap H locs σ → lv_has ls 3 [(0, .ref (ad 5)), (1, .int x1)] → K7 σ x1 = some res → W p l e rm_X5_tellAll s m args below meth c H locs 0 0 (MQ below (va_Qv (fun u' => u' = res) (zB D vwCl (tyC cA tr) A (wC ad cA rs)) A) args s 0 0 A) (F0 m 7 ls [])) : ∀ (n : Nat) (σ : S2) (x1 : Int32) (x2 : Int32), ∀ (H : Heap) (locs : List Loc) (ls : Array Slot), zz D vwCl (tyC cA tr) A (wC ad cA rs) s s.heap H locs σ → lv_has ls 3 [(0, .ref (ad 5)), (1, .int x1), (2, .int x2)] → fn_X5_tellAll_15 K7 n σ x1 x2 = some res → W p l e rm_X5_tellAll s m args below meth c H locs 0 0 (MQ below (va_Qv (fun u' => u' = res) (zB D vwCl (tyC cA tr) A (wC ad cA rs)) A) args s 0 0 A) (F0 m 15 ls []) := by
  obtain ⟨hx, hb, hr, hml, hown, htt, hlocks, hnw⟩ := id C0
  intro n
  induction n with
  | zero => intro σ x1 x2 H locs ls hZ hl hf; exact no_some hf
  | succ n ih =>
    intro σ x1 x2 H locs ls hZ hl hf
    rw [fn_X5_tellAll_15] at hf
    refine lv_iload_n hx hb dX5_tellAll_15 rfl (lv_at hl 2 rfl) ?_
    refine lv_aload_n hx hb dX5_tellAll_16 rfl (lv_at hl 0 rfl) ?_
    refine z_get hx hb htt iw_X5 hown hZ 5 rfl rfl 1 (by decide) lf_X5_38 rfl dX5_tellAll_17 ?_
    refine z_getN hx hb gN hnw htt iw_X2 hown hZ 2 rfl rfl 3 (by decide) lf_X5_63 rfl dX5_tellAll_20 ?_
    refine lv_icmp_ge (tgt := 51) hx hb dX5_tellAll_23 (by decide) (fun c_1 => ?_) (fun c_1 => ?_)
    · have hf := ite_t c_1 hf
      obtain ⟨v2, e_v2⟩ : ∃ y : Int32, y = x1 + 1 := ⟨_, rfl⟩
      have hf := lt_n e_v2 hf
      refine lv_iinc (v := v2) (lv' := [(1, .int v2), (0, .ref (ad 5)), (2, .int x2)]) hx hb dX5_tellAll_51 hl (k := 1) rfl (by rw [e_v2]; rfl) (by decide) rfl (fun ls hl => ?_)
      refine lv_goto (tgt := 7) hx hb dX5_tellAll_54 (by decide) ?_
      exact hK7 σ v2 _ _ _ hZ (lv_sub hl [1, 0] rfl) hf
    · have hf := ite_f c_1 hf
      refine lv_aload_n hx hb dX5_tellAll_26 rfl (lv_at hl 0 rfl) ?_
      refine z_get hx hb htt iw_X5 hown hZ 5 rfl rfl 6 (by decide) lf_X5_19 rfl dX5_tellAll_27 ?_
      refine lv_iload_n hx hb dX5_tellAll_30 rfl (lv_at hl 2 rfl) ?_
      obtain ⟨h_3, hf⟩ := ck_s hf
      refine z_ild hx hb hZ 20 14 rfl rfl h_3 dX5_tellAll_31 ?_
      refine lv_iload_n hx hb dX5_tellAll_32 rfl (lv_at hl 1 rfl) ?_
      refine z_pcalli (z_runSN (As := [.int (σ.1 20 (x2).toNatClampNeg), .int x1]) (rest := []) ⟨hx, hb, hml, hown, htt⟩ gT (ct_X0_holdsBit l (σ.1 20 (x2).toNatClampNeg) x1 rfl) md_X0_holdsBit hnw lm_X5_135 rfl rfl ⟨Nat.le_of_ble_eq_true rfl, Nat.le_of_ble_eq_true rfl⟩ z_preP rfl rfl hl.1 rfl (lv_room (Nat.le_of_ble_eq_true rfl)) dX5_tellAll_33 ⟨Nat.le_of_ble_eq_true rfl, Nat.le_of_ble_eq_true rfl⟩) ?_
      refine lv_topi (fun r4 e_r4 => ?_)
      have hf := lt_n e_r4 hf
      refine lv_if_eq (tgt := 45) hx hb dX5_tellAll_36 (by decide) (fun c_5 => ?_) (fun c_5 => ?_)
      · have hf := ite_t c_5 hf
        obtain ⟨v6, e_v6⟩ : ∃ y : Int32, y = x2 + 1 := ⟨_, rfl⟩
        have hf := lt_n e_v6 hf
        refine lv_iinc (v := v6) (lv' := [(2, .int v6), (0, .ref (ad 5)), (1, .int x1)]) hx hb dX5_tellAll_45 hl (k := 2) rfl (by rw [e_v6]; rfl) (by decide) rfl (fun ls hl => ?_)
        refine lv_goto (tgt := 15) hx hb dX5_tellAll_48 (by decide) ?_
        exact ih σ x1 v6 _ _ _ hZ (lv_sub hl [1, 2, 0] rfl) hf
      · have hf := ite_f c_5 hf
        refine lv_aload_n hx hb dX5_tellAll_39 rfl (lv_at hl 0 rfl) ?_
        refine lv_iload_n hx hb dX5_tellAll_40 rfl (lv_at hl 1 rfl) ?_
        refine lv_iload_n hx hb dX5_tellAll_41 rfl (lv_at hl 2 rfl) ?_
        obtain ⟨σ8, k_7, hf⟩ := bn_s hf
        refine z_callv (u := σ8) (z_runV (As := [.int x1, .int x2]) (rest := []) ⟨hx, hb, hml, hown, htt⟩ gT (ct_X5_tellShape l D A ad cA rs tr σ x1 x2 k_7) md_X5_tellShape lm_X5_171 rfl rfl ⟨Nat.le_of_ble_eq_true rfl, Nat.le_of_ble_eq_true rfl⟩ (z_preV gN hnw hZ rfl (q0 := 5) (ci := 5) rfl) rfl rfl hl.1 rfl (lv_room (Nat.le_of_ble_eq_true rfl)) dX5_tellAll_42 ⟨Nat.le_of_ble_eq_true rfl, Nat.le_of_ble_eq_true rfl⟩) hZ (fun H locs hZ => ?_)
        obtain ⟨v9, e_v9⟩ : ∃ y : Int32, y = x2 + 1 := ⟨_, rfl⟩
        have hf := lt_n e_v9 hf
        refine lv_iinc (v := v9) (lv' := [(2, .int v9), (0, .ref (ad 5)), (1, .int x1)]) hx hb dX5_tellAll_45 hl (k := 2) rfl (by rw [e_v9]; rfl) (by decide) rfl (fun ls hl => ?_)
        refine lv_goto (tgt := 15) hx hb dX5_tellAll_48 (by decide) ?_
        exact ih σ8 x1 v9 _ _ _ hZ (lv_sub hl [1, 2, 0] rfl) hf
set_option maxHeartbeats 4000000 in
set_option maxRecDepth 100000 in
theorem wk_X5_tellAll_7 {p : Program} {l : Launch} {e : Env} {s : State} {m : MethodId} {args : Array Value} {below : List Frame} {meth : Method} {c : Code} {D : va_G} {A : Nat → Prop} {ad : Nat → Nat} {cA : Nat → ClassId} {rs : va_W} {tr : List (ClassId × FieldType)} {res : S2} (C0 : cx p m meth c cX5_tellAll none 3 s args tb nl RX5) : ∀ (n : Nat) (σ : S2) (x1 : Int32), ∀ (H : Heap) (locs : List Loc) (ls : Array Slot), zz D vwCl (tyC cA tr) A (wC ad cA rs) s s.heap H locs σ → lv_has ls 3 [(0, .ref (ad 5)), (1, .int x1)] → fn_X5_tellAll_7 n σ x1 = some res → W p l e rm_X5_tellAll s m args below meth c H locs 0 0 (MQ below (va_Qv (fun u' => u' = res) (zB D vwCl (tyC cA tr) A (wC ad cA rs)) A) args s 0 0 A) (F0 m 7 ls []) := by
  obtain ⟨hx, hb, hr, hml, hown, htt, hlocks, hnw⟩ := id C0
  intro n
  induction n with
  | zero => intro σ x1 H locs ls hZ hl hf; exact no_some hf
  | succ n ih =>
    intro σ x1 H locs ls hZ hl hf
    rw [fn_X5_tellAll_7] at hf
    refine lv_iload_n hx hb dX5_tellAll_7 rfl (lv_at hl 1 rfl) ?_
    refine lv_bipush (v := 32) hx hb dX5_tellAll_8 (by decide) ?_
    refine lv_icmp_ge (tgt := 57) hx hb dX5_tellAll_10 (by decide) (fun c_1 => ?_) (fun c_1 => ?_)
    · have hf := ite_t c_1 hf
      exact z_vret hx hb hr hlocks hZ (Option.some.inj hf) dX5_tellAll_57
    · have hf := ite_f c_1 hf
      refine lv_iconst (v := 0) hx hb dX5_tellAll_13 (by decide) ?_
      refine lv_istore_n (lv' := [(2, .int 0), (0, .ref (ad 5)), (1, .int x1)]) hx hb dX5_tellAll_14 rfl hl (by decide) rfl (fun ls hl => ?_)
      exact wk_X5_tellAll_15 C0 (fn_X5_tellAll_7 n) ih fu σ x1 0 _ _ _ hZ (lv_sub hl [1, 2, 0] rfl) hf
set_option maxHeartbeats 4000000 in
set_option maxRecDepth 100000 in
theorem ct_X5_tellAll (l : Launch) (D : va_G) (A : Nat → Prop) (ad : Nat → Nat) (cA : Nat → ClassId) (rs : va_W) (tr : List (ClassId × FieldType)) (σ : S2) {res : S2} (hf : fn_X5_tellAll σ = some res) : Met l yX5_tellAll (.code yX5_tellAll cX5_tellAll 3 none :: tb) rm_X5_tellAll (va_Pc [.ref (ad 5)] (zN D vwCl (tyC cA tr) A (wC ad cA rs) nl σ)) (va_Qv (fun u' => u' = res) (zB D vwCl (tyC cA tr) A (wC ad cA rs)) A) 0 0 A := by
  refine Met.ofW (cc := cX5_tellAll) (maxL := 3) (ret := none) (by decide) rfl ?_
  intro p e s m args below meth c s₁ B hml hv
  obtain ⟨rfl, hB, hnw0⟩ := hv
  have htt : ∀ w ∈ tb, w.before (([.ref (ad 5)] : List Value).toArray) s = true := fun w h => atoms_spec (ws := (.code yX5_tellAll cX5_tellAll 3 none :: tb)) B.pre w (List.mem_cons_of_mem _ h)
  have C0 : cx p m meth c cX5_tellAll none 3 s (([.ref (ad 5)] : List Value).toArray) tb nl RX5 := ⟨B.exec, B.bytes, B.returns, hml, findClass_of_methodNamed B.named, htt, B.notSynchronized, hnw0⟩
  obtain ⟨hx, hb, hr, hml, hown, htt, hlocks, hnw⟩ := id C0
  have hZ := z_start hB
  have hl := lv_entry ([.ref (ad 5)]) (n := 3) (Nat.le_of_ble_eq_true rfl)
  rw [lg_entry_eq]
  generalize (lg_sl ([.ref (ad 5)]) ++ List.replicate (3 - (lg_sl ([.ref (ad 5)])).length) Slot.unset).toArray = ls at hl ⊢
  have hl : lv_has ls 3 [(0, .ref (ad 5))] := hl
  unfold fn_X5_tellAll at hf
  refine lv_aload_n hx hb dX5_tellAll_0 rfl (lv_at hl 0 rfl) ?_
  refine lv_iconst (v := 0) hx hb dX5_tellAll_1 (by decide) ?_
  refine z_put (σ' := st σ 5 0 0) hx hb htt iw_X5 tyX5 to_X5 nm_X5 hown hZ 5 rfl rfl 11 (by decide) lf_X5_170 rfl rfl rfl (Nat.le_of_ble_eq_true rfl) dX5_tellAll_2 rfl (fun σ1 H locs e_σ1 hZ => ?_)
  have hf := lt_n e_σ1 hf
  refine lv_iconst (v := 0) hx hb dX5_tellAll_5 (by decide) ?_
  refine lv_istore_n (lv' := [(1, .int 0), (0, .ref (ad 5))]) hx hb dX5_tellAll_6 rfl hl (by decide) rfl (fun ls hl => ?_)
  exact wk_X5_tellAll_7 C0  fu σ1 0 _ _ _ hZ (lv_sub hl [1, 0] rfl) hf
abbrev rm_X5_workOut : Room := { frames := 5, cells := 0, slots := 0, locals := 120 }
def fn_X5_workOut (σ : S2) : Option (S2) := if (σ.1 0 0) = 0 then bn (fn_X5_weighAll σ) (fun σ3 => bn (fn_X5_askAll σ3) (fun σ5 => bn (fn_X5_tellAll σ5) (fun σ7 => lt (st σ7 0 0 1) (fun σ8 => some σ8)))) else some σ
set_option maxHeartbeats 4000000 in
set_option maxRecDepth 100000 in
theorem ct_X5_workOut (l : Launch) (D : va_G) (A : Nat → Prop) (ad : Nat → Nat) (cA : Nat → ClassId) (rs : va_W) (tr : List (ClassId × FieldType)) (σ : S2) {res : S2} (hf : fn_X5_workOut σ = some res) : Met l yX5_workOut (.code yX5_workOut cX5_workOut 1 none :: tb) rm_X5_workOut (va_Pc [.ref (ad 5)] (zN D vwCl (tyC cA tr) A (wC ad cA rs) nl σ)) (va_Qv (fun u' => u' = res) (zB D vwCl (tyC cA tr) A (wC ad cA rs)) A) 0 0 A := by
  refine Met.ofW (cc := cX5_workOut) (maxL := 1) (ret := none) (by decide) rfl ?_
  intro p e s m args below meth c s₁ B hml hv
  obtain ⟨rfl, hB, hnw0⟩ := hv
  have htt : ∀ w ∈ tb, w.before (([.ref (ad 5)] : List Value).toArray) s = true := fun w h => atoms_spec (ws := (.code yX5_workOut cX5_workOut 1 none :: tb)) B.pre w (List.mem_cons_of_mem _ h)
  have C0 : cx p m meth c cX5_workOut none 1 s (([.ref (ad 5)] : List Value).toArray) tb nl RX5 := ⟨B.exec, B.bytes, B.returns, hml, findClass_of_methodNamed B.named, htt, B.notSynchronized, hnw0⟩
  obtain ⟨hx, hb, hr, hml, hown, htt, hlocks, hnw⟩ := id C0
  have hZ := z_start hB
  have hl := lv_entry ([.ref (ad 5)]) (n := 1) (Nat.le_of_ble_eq_true rfl)
  rw [lg_entry_eq]
  generalize (lg_sl ([.ref (ad 5)]) ++ List.replicate (1 - (lg_sl ([.ref (ad 5)])).length) Slot.unset).toArray = ls at hl ⊢
  have hl : lv_has ls 1 [(0, .ref (ad 5))] := hl
  unfold fn_X5_workOut at hf
  refine lv_aload_n hx hb dX5_workOut_0 rfl (lv_at hl 0 rfl) ?_
  refine z_get hx hb htt iw_X5 hown hZ 5 rfl rfl 12 (by decide) lf_X5_50 rfl dX5_workOut_1 ?_
  refine lv_if_eq (tgt := 8) hx hb dX5_workOut_4 (by decide) (fun c_1 => ?_) (fun c_1 => ?_)
  · have hf := ite_t c_1 hf
    refine lv_aload_n hx hb dX5_workOut_8 rfl (lv_at hl 0 rfl) ?_
    obtain ⟨σ3, k_2, hf⟩ := bn_s hf
    refine z_callv (u := σ3) (z_runV (As := []) (rest := []) ⟨hx, hb, hml, hown, htt⟩ gT (ct_X5_weighAll l D A ad cA rs tr σ  k_2) md_X5_weighAll lm_X5_54 rfl rfl ⟨Nat.le_of_ble_eq_true rfl, Nat.le_of_ble_eq_true rfl⟩ (z_preV gN hnw hZ rfl (q0 := 5) (ci := 5) rfl) rfl rfl hl.1 rfl (lv_room (Nat.le_of_ble_eq_true rfl)) dX5_workOut_9 ⟨Nat.le_of_ble_eq_true rfl, Nat.le_of_ble_eq_true rfl⟩) hZ (fun H locs hZ => ?_)
    refine lv_aload_n hx hb dX5_workOut_12 rfl (lv_at hl 0 rfl) ?_
    obtain ⟨σ5, k_4, hf⟩ := bn_s hf
    refine z_callv (u := σ5) (z_runV (As := []) (rest := []) ⟨hx, hb, hml, hown, htt⟩ gT (ct_X5_askAll l D A ad cA rs tr σ3  k_4) md_X5_askAll lm_X5_57 rfl rfl ⟨Nat.le_of_ble_eq_true rfl, Nat.le_of_ble_eq_true rfl⟩ (z_preV gN hnw hZ rfl (q0 := 5) (ci := 5) rfl) rfl rfl hl.1 rfl (lv_room (Nat.le_of_ble_eq_true rfl)) dX5_workOut_13 ⟨Nat.le_of_ble_eq_true rfl, Nat.le_of_ble_eq_true rfl⟩) hZ (fun H locs hZ => ?_)
    refine lv_aload_n hx hb dX5_workOut_16 rfl (lv_at hl 0 rfl) ?_
    obtain ⟨σ7, k_6, hf⟩ := bn_s hf
    refine z_callv (u := σ7) (z_runV (As := []) (rest := []) ⟨hx, hb, hml, hown, htt⟩ gT (ct_X5_tellAll l D A ad cA rs tr σ5  k_6) md_X5_tellAll lm_X5_60 rfl rfl ⟨Nat.le_of_ble_eq_true rfl, Nat.le_of_ble_eq_true rfl⟩ (z_preV gN hnw hZ rfl (q0 := 5) (ci := 5) rfl) rfl rfl hl.1 rfl (lv_room (Nat.le_of_ble_eq_true rfl)) dX5_workOut_17 ⟨Nat.le_of_ble_eq_true rfl, Nat.le_of_ble_eq_true rfl⟩) hZ (fun H locs hZ => ?_)
    refine lv_aload_n hx hb dX5_workOut_20 rfl (lv_at hl 0 rfl) ?_
    refine lv_iconst (v := 1) hx hb dX5_workOut_21 (by decide) ?_
    refine z_put (σ' := st σ7 0 0 1) hx hb htt iw_X5 tyX5 to_X5 nm_X5 hown hZ 5 rfl rfl 12 (by decide) lf_X5_50 rfl rfl rfl (Nat.le_of_ble_eq_true rfl) dX5_workOut_22 rfl (fun σ8 H locs e_σ8 hZ => ?_)
    have hf := lt_n e_σ8 hf
    exact z_vret hx hb hr hlocks hZ (Option.some.inj hf) dX5_workOut_25
  · have hf := ite_f c_1 hf
    exact z_vret hx hb hr hlocks hZ (Option.some.inj hf) dX5_workOut_7
abbrev rm_X0_run : Room := { frames := 6, cells := 0, slots := 0, locals := 140 }
def fn_X0_run (σ : S2) : Option (Int32 × S2) := bn (fn_X5_workOut σ) (fun σ2 => if (σ2.1 5 0) ≤ 250 then some ((σ2.1 5 0), σ2) else some ((-4), σ2))
set_option maxHeartbeats 4000000 in
set_option maxRecDepth 100000 in
theorem ct_X0_run (l : Launch) (D : va_G) (A : Nat → Prop) (ad : Nat → Nat) (cA : Nat → ClassId) (rs : va_W) (tr : List (ClassId × FieldType)) (σ : S2) {res : Int32 × S2} (hf : fn_X0_run σ = some res) : Met l yX0_run (.code yX0_run cX0_run 1 (some .int) :: tb) rm_X0_run (va_Pc [.ref (ad 0)] (zN D vwCl (tyC cA tr) A (wC ad cA rs) nl σ)) (va_Qi (fun r' u' => r' = res.1 ∧ u' = res.2) (zB D vwCl (tyC cA tr) A (wC ad cA rs)) A) 0 0 A := by
  refine Met.ofW (cc := cX0_run) (maxL := 1) (ret := (some .int)) (by decide) rfl ?_
  intro p e s m args below meth c s₁ B hml hv
  obtain ⟨rfl, hB, hnw0⟩ := hv
  have htt : ∀ w ∈ tb, w.before (([.ref (ad 0)] : List Value).toArray) s = true := fun w h => atoms_spec (ws := (.code yX0_run cX0_run 1 (some .int) :: tb)) B.pre w (List.mem_cons_of_mem _ h)
  have C0 : cx p m meth c cX0_run (some .int) 1 s (([.ref (ad 0)] : List Value).toArray) tb nl RX0 := ⟨B.exec, B.bytes, B.returns, hml, findClass_of_methodNamed B.named, htt, B.notSynchronized, hnw0⟩
  obtain ⟨hx, hb, hr, hml, hown, htt, hlocks, hnw⟩ := id C0
  have hZ := z_start hB
  have hl := lv_entry ([.ref (ad 0)]) (n := 1) (Nat.le_of_ble_eq_true rfl)
  rw [lg_entry_eq]
  generalize (lg_sl ([.ref (ad 0)]) ++ List.replicate (1 - (lg_sl ([.ref (ad 0)])).length) Slot.unset).toArray = ls at hl ⊢
  have hl : lv_has ls 1 [(0, .ref (ad 0))] := hl
  unfold fn_X0_run at hf
  refine lv_aload_n hx hb dX0_run_0 rfl (lv_at hl 0 rfl) ?_
  refine z_get hx hb htt iw_X0 hown hZ 0 rfl rfl 4 (by decide) lf_X0_42 rfl dX0_run_1 ?_
  obtain ⟨σ2, k_1, hf⟩ := bn_s hf
  refine z_callv (u := σ2) (z_runVN (As := []) (rest := []) ⟨hx, hb, hml, hown, htt⟩ gT (ct_X5_workOut l D A ad cA rs tr σ  k_1) md_X5_workOut hnw lm_X0_113 rfl rfl ⟨Nat.le_of_ble_eq_true rfl, Nat.le_of_ble_eq_true rfl⟩ (z_preV gN hnw hZ rfl (q0 := 5) (ci := 5) rfl) rfl rfl hl.1 rfl (lv_room (Nat.le_of_ble_eq_true rfl)) dX0_run_4 ⟨Nat.le_of_ble_eq_true rfl, Nat.le_of_ble_eq_true rfl⟩) hZ (fun H locs hZ => ?_)
  refine lv_aload_n hx hb dX0_run_7 rfl (lv_at hl 0 rfl) ?_
  refine z_get hx hb htt iw_X0 hown hZ 0 rfl rfl 4 (by decide) lf_X0_42 rfl dX0_run_8 ?_
  refine z_getN hx hb gN hnw htt iw_X5 hown hZ 5 rfl rfl 11 (by decide) lf_X0_116 rfl dX0_run_11 ?_
  refine lv_sipush (v := 250) hx hb dX0_run_14 (by decide) ?_
  refine lv_icmp_le (tgt := 25) hx hb dX0_run_17 (by decide) (fun c_3 => ?_) (fun c_3 => ?_)
  · have hf := ite_t c_3 hf
    refine lv_aload_n hx hb dX0_run_25 rfl (lv_at hl 0 rfl) ?_
    refine z_get hx hb htt iw_X0 hown hZ 0 rfl rfl 4 (by decide) lf_X0_42 rfl dX0_run_26 ?_
    refine z_getN hx hb gN hnw htt iw_X5 hown hZ 5 rfl rfl 11 (by decide) lf_X0_116 rfl dX0_run_29 ?_
    exact z_iret hx hb hr hlocks hZ (sp_1 hf) (sp_2 hf) dX0_run_32
  · have hf := ite_f c_3 hf
    refine lv_bipush (v := (-4)) hx hb dX0_run_20 (by decide) ?_
    refine lv_goto (tgt := 32) hx hb dX0_run_22 (by decide) ?_
    exact z_iret hx hb hr hlocks hZ (sp_1 hf) (sp_2 hf) dX0_run_32
