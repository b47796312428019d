abbrev rm_X6_note : Room := { frames := 0, cells := 0, slots := 0, locals := 0 }
def fn_X6_note_3 : Nat → S2 → Int32 → Int32 → Int32 → Int32 → Option (S2)
  | 0, _, _, _, _, _ => none
  | n + 1, σ, x1, x2, x3, x4 => if 32 < x4 then some σ else ck x4 33 (if (σ.1 16 (x4).toNatClampNeg) = 0 then lt (x4 + 1) (fun v4 => fn_X6_note_3 n σ x1 x2 x3 v4) else if 250 < (σ.1 26 0) then lt (x4 + 1) (fun v6 => fn_X6_note_3 n σ x1 x2 x3 v6) else ck (4 * (σ.1 26 0)) 1004 (lt (st σ 17 ((4 * (σ.1 26 0))).toNatClampNeg x1) (fun σ8 => ck ((4 * (σ8.1 26 0)) + 1) 1004 (lt (st σ8 17 (((4 * (σ8.1 26 0)) + 1)).toNatClampNeg x2) (fun σ10 => ck ((4 * (σ10.1 26 0)) + 2) 1004 (lt (st σ10 17 (((4 * (σ10.1 26 0)) + 2)).toNatClampNeg x3) (fun σ12 => ck ((4 * (σ12.1 26 0)) + 3) 1004 (lt (st σ12 17 (((4 * (σ12.1 26 0)) + 3)).toNatClampNeg (x4 - 1)) (fun σ14 => lt (st σ14 26 0 ((σ14.1 26 0) + 1)) (fun σ15 => if (σ15.1 26 0) ≤ 250 then lt (st σ15 25 0 0) (fun σ17 => lt (x4 + 1) (fun v18 => fn_X6_note_3 n σ17 x1 x2 x3 v18)) else lt (st σ15 25 0 1) (fun σ19 => lt (x4 + 1) (fun v20 => fn_X6_note_3 n σ19 x1 x2 x3 v20))))))))))))
def fn_X6_note (σ : S2) (x1 : Int32) (x2 : Int32) (x3 : Int32) : Option (S2) := fn_X6_note_3 fu σ x1 x2 x3 0
set_option maxHeartbeats 4000000 in
set_option maxRecDepth 100000 in
theorem wk_X6_note_3 {p : Program} {l : Launch} {e : Env} {s : State} {m : MethodId} {args : Array Value} {below : List Frame} {meth : Method} {c : Code} {D : va_G} {A : Nat → Prop} {ad : Nat → Nat} {cA : Nat → ClassId} {rs : va_W} {tr : List (ClassId × FieldType)} {res : S2} (C0 : cx p m meth c cX6_note none 5 s args tb nl RX6) : ∀ (n : Nat) (σ : S2) (x1 : Int32) (x2 : Int32) (x3 : Int32) (x4 : Int32), ∀ (H : Heap) (locs : List Loc) (ls : Array Slot), zz D vwCl (tyM cA tr) A (wM ad cA rs) s s.heap H locs σ → lv_has ls 5 [(0, .ref (ad 0)), (1, .int x1), (2, .int x2), (3, .int x3), (4, .int x4)] → fn_X6_note_3 n σ x1 x2 x3 x4 = some res → W p l e rm_X6_note s m args below meth c H locs 0 0 (MQ below (va_Qv (fun u' => u' = res) (zB D vwCl (tyM cA tr) A (wM ad cA rs)) A) args s 0 0 A) (F0 m 3 ls []) := by
  obtain ⟨hx, hb, hr, hml, hown, htt, hlocks, hnw⟩ := id C0
  intro n
  induction n with
  | zero => intro σ x1 x2 x3 x4 H locs ls hZ hl hf; exact no_some hf
  | succ n ih =>
    intro σ x1 x2 x3 x4 H locs ls hZ hl hf
    rw [fn_X6_note_3] at hf
    refine lv_iload hx hb dX6_note_3 (lv_at hl 4 rfl) ?_
    refine lv_bipush (v := 32) hx hb dX6_note_5 (by decide) ?_
    refine lv_icmp_gt (tgt := 122) hx hb dX6_note_7 (by decide) (fun c_1 => ?_) (fun c_1 => ?_)
    · have hf := ite_t c_1 hf
      exact z_vret hx hb hr hlocks hZ (Option.some.inj hf) dX6_note_122
    · have hf := ite_f c_1 hf
      refine lv_aload_n hx hb dX6_note_10 rfl (lv_at hl 0 rfl) ?_
      refine z_get hx hb htt iw_X6 hown hZ 0 rfl rfl 19 (by decide) lf_X6_56 rfl dX6_note_11 ?_
      refine lv_iload hx hb dX6_note_14 (lv_at hl 4 rfl) ?_
      obtain ⟨h_2, hf⟩ := ck_s hf
      refine z_zld hx hb hZ 16 15 rfl rfl h_2 dX6_note_16 ?_
      refine lv_if_eq (tgt := 116) hx hb dX6_note_17 (by decide) (fun c_3 => ?_) (fun c_3 => ?_)
      · have hf := ite_t c_3 hf
        obtain ⟨v4, e_v4⟩ : ∃ y : Int32, y = x4 + 1 := ⟨_, rfl⟩
        have hf := lt_n e_v4 hf
        refine lv_iinc (v := v4) (lv' := [(4, .int v4), (0, .ref (ad 0)), (1, .int x1), (2, .int x2), (3, .int x3)]) hx hb dX6_note_116 hl (k := 4) rfl (by rw [e_v4]; rfl) (by decide) rfl (fun ls hl => ?_)
        refine lv_goto (tgt := 3) hx hb dX6_note_119 (by decide) ?_
        exact ih σ x1 x2 x3 v4 _ _ _ hZ (lv_sub hl [1, 2, 3, 4, 0] rfl) hf
      · have hf := ite_f c_3 hf
        refine lv_aload_n hx hb dX6_note_20 rfl (lv_at hl 0 rfl) ?_
        refine z_get hx hb htt iw_X6 hown hZ 0 rfl rfl 22 (by decide) lf_X6_153 rfl dX6_note_21 ?_
        refine lv_sipush (v := 250) hx hb dX6_note_24 (by decide) ?_
        refine lv_icmp_gt (tgt := 116) hx hb dX6_note_27 (by decide) (fun c_5 => ?_) (fun c_5 => ?_)
        · have hf := ite_t c_5 hf
          obtain ⟨v6, e_v6⟩ : ∃ y : Int32, y = x4 + 1 := ⟨_, rfl⟩
          have hf := lt_n e_v6 hf
          refine lv_iinc (v := v6) (lv' := [(4, .int v6), (0, .ref (ad 0)), (1, .int x1), (2, .int x2), (3, .int x3)]) hx hb dX6_note_116 hl (k := 4) rfl (by rw [e_v6]; rfl) (by decide) rfl (fun ls hl => ?_)
          refine lv_goto (tgt := 3) hx hb dX6_note_119 (by decide) ?_
          exact ih σ x1 x2 x3 v6 _ _ _ hZ (lv_sub hl [1, 2, 3, 4, 0] rfl) hf
        · have hf := ite_f c_5 hf
          refine lv_aload_n hx hb dX6_note_30 rfl (lv_at hl 0 rfl) ?_
          refine z_get hx hb htt iw_X6 hown hZ 0 rfl rfl 23 (by decide) lf_X6_59 rfl dX6_note_31 ?_
          refine lv_iconst (v := 4) hx hb dX6_note_34 (by decide) ?_
          refine lv_aload_n hx hb dX6_note_35 rfl (lv_at hl 0 rfl) ?_
          refine z_get hx hb htt iw_X6 hown hZ 0 rfl rfl 22 (by decide) lf_X6_153 rfl dX6_note_36 ?_
          refine lv_imul hx hb dX6_note_39 ?_
          refine lv_iload_n hx hb dX6_note_40 rfl (lv_at hl 1 rfl) ?_
          obtain ⟨h_7, hf⟩ := ck_s hf
          refine z_ist (σ' := st σ 17 ((4 * (σ.1 26 0))).toNatClampNeg x1) hx hb hZ 17 16 rfl rfl h_7 dX6_note_41 rfl (fun σ8 H locs e_σ8 hZ => ?_)
          have hf := lt_n e_σ8 hf
          refine lv_aload_n hx hb dX6_note_42 rfl (lv_at hl 0 rfl) ?_
          refine z_get hx hb htt iw_X6 hown hZ 0 rfl rfl 23 (by decide) lf_X6_59 rfl dX6_note_43 ?_
          refine lv_iconst (v := 4) hx hb dX6_note_46 (by decide) ?_
          refine lv_aload_n hx hb dX6_note_47 rfl (lv_at hl 0 rfl) ?_
          refine z_get hx hb htt iw_X6 hown hZ 0 rfl rfl 22 (by decide) lf_X6_153 rfl dX6_note_48 ?_
          refine lv_imul hx hb dX6_note_51 ?_
          refine lv_iconst (v := 1) hx hb dX6_note_52 (by decide) ?_
          refine lv_iadd hx hb dX6_note_53 ?_
          refine lv_iload_n hx hb dX6_note_54 rfl (lv_at hl 2 rfl) ?_
          obtain ⟨h_9, hf⟩ := ck_s hf
          refine z_ist (σ' := st σ8 17 (((4 * (σ8.1 26 0)) + 1)).toNatClampNeg x2) hx hb hZ 17 16 rfl rfl h_9 dX6_note_55 rfl (fun σ10 H locs e_σ10 hZ => ?_)
          have hf := lt_n e_σ10 hf
          refine lv_aload_n hx hb dX6_note_56 rfl (lv_at hl 0 rfl) ?_
          refine z_get hx hb htt iw_X6 hown hZ 0 rfl rfl 23 (by decide) lf_X6_59 rfl dX6_note_57 ?_
          refine lv_iconst (v := 4) hx hb dX6_note_60 (by decide) ?_
          refine lv_aload_n hx hb dX6_note_61 rfl (lv_at hl 0 rfl) ?_
          refine z_get hx hb htt iw_X6 hown hZ 0 rfl rfl 22 (by decide) lf_X6_153 rfl dX6_note_62 ?_
          refine lv_imul hx hb dX6_note_65 ?_
          refine lv_iconst (v := 2) hx hb dX6_note_66 (by decide) ?_
          refine lv_iadd hx hb dX6_note_67 ?_
          refine lv_iload_n hx hb dX6_note_68 rfl (lv_at hl 3 rfl) ?_
          obtain ⟨h_11, hf⟩ := ck_s hf
          refine z_ist (σ' := st σ10 17 (((4 * (σ10.1 26 0)) + 2)).toNatClampNeg x3) hx hb hZ 17 16 rfl rfl h_11 dX6_note_69 rfl (fun σ12 H locs e_σ12 hZ => ?_)
          have hf := lt_n e_σ12 hf
          refine lv_aload_n hx hb dX6_note_70 rfl (lv_at hl 0 rfl) ?_
          refine z_get hx hb htt iw_X6 hown hZ 0 rfl rfl 23 (by decide) lf_X6_59 rfl dX6_note_71 ?_
          refine lv_iconst (v := 4) hx hb dX6_note_74 (by decide) ?_
          refine lv_aload_n hx hb dX6_note_75 rfl (lv_at hl 0 rfl) ?_
          refine z_get hx hb htt iw_X6 hown hZ 0 rfl rfl 22 (by decide) lf_X6_153 rfl dX6_note_76 ?_
          refine lv_imul hx hb dX6_note_79 ?_
          refine lv_iconst (v := 3) hx hb dX6_note_80 (by decide) ?_
          refine lv_iadd hx hb dX6_note_81 ?_
          refine lv_iload hx hb dX6_note_82 (lv_at hl 4 rfl) ?_
          refine lv_iconst (v := 1) hx hb dX6_note_84 (by decide) ?_
          refine lv_isub hx hb dX6_note_85 ?_
          obtain ⟨h_13, hf⟩ := ck_s hf
          refine z_ist (σ' := st σ12 17 (((4 * (σ12.1 26 0)) + 3)).toNatClampNeg (x4 - 1)) hx hb hZ 17 16 rfl rfl h_13 dX6_note_86 rfl (fun σ14 H locs e_σ14 hZ => ?_)
          have hf := lt_n e_σ14 hf
          refine lv_aload_n hx hb dX6_note_87 rfl (lv_at hl 0 rfl) ?_
          refine lv_dup hx hb dX6_note_88 rfl ?_
          refine z_get hx hb htt iw_X6 hown hZ 0 rfl rfl 22 (by decide) lf_X6_153 rfl dX6_note_89 ?_
          refine lv_iconst (v := 1) hx hb dX6_note_92 (by decide) ?_
          refine lv_iadd hx hb dX6_note_93 ?_
          refine z_put (σ' := st σ14 26 0 ((σ14.1 26 0) + 1)) hx hb htt iw_X6 tyX6 to_X6 nm_X6 hown hZ 0 rfl rfl 22 (by decide) lf_X6_153 rfl rfl rfl (Nat.le_of_ble_eq_true rfl) dX6_note_94 rfl (fun σ15 H locs e_σ15 hZ => ?_)
          have hf := lt_n e_σ15 hf
          refine lv_aload_n hx hb dX6_note_97 rfl (lv_at hl 0 rfl) ?_
          refine lv_aload_n hx hb dX6_note_98 rfl (lv_at hl 0 rfl) ?_
          refine z_get hx hb htt iw_X6 hown hZ 0 rfl rfl 22 (by decide) lf_X6_153 rfl dX6_note_99 ?_
          refine lv_sipush (v := 250) hx hb dX6_note_102 (by decide) ?_
          refine lv_icmp_le (tgt := 112) hx hb dX6_note_105 (by decide) (fun c_16 => ?_) (fun c_16 => ?_)
          · have hf := ite_t c_16 hf
            refine lv_iconst (v := 0) hx hb dX6_note_112 (by decide) ?_
            refine z_put (σ' := st σ15 25 0 0) hx hb htt iw_X6 tyX6 to_X6 nm_X6 hown hZ 0 rfl rfl 21 (by decide) lf_X6_156 rfl rfl rfl (Nat.le_of_ble_eq_true rfl) dX6_note_113 rfl (fun σ17 H locs e_σ17 hZ => ?_)
            have hf := lt_n e_σ17 hf
            obtain ⟨v18, e_v18⟩ : ∃ y : Int32, y = x4 + 1 := ⟨_, rfl⟩
            have hf := lt_n e_v18 hf
            refine lv_iinc (v := v18) (lv' := [(4, .int v18), (0, .ref (ad 0)), (1, .int x1), (2, .int x2), (3, .int x3)]) hx hb dX6_note_116 hl (k := 4) rfl (by rw [e_v18]; rfl) (by decide) rfl (fun ls hl => ?_)
            refine lv_goto (tgt := 3) hx hb dX6_note_119 (by decide) ?_
            exact ih σ17 x1 x2 x3 v18 _ _ _ hZ (lv_sub hl [1, 2, 3, 4, 0] rfl) hf
          · have hf := ite_f c_16 hf
            refine lv_iconst (v := 1) hx hb dX6_note_108 (by decide) ?_
            refine lv_goto (tgt := 113) hx hb dX6_note_109 (by decide) ?_
            refine z_put (σ' := st σ15 25 0 1) hx hb htt iw_X6 tyX6 to_X6 nm_X6 hown hZ 0 rfl rfl 21 (by decide) lf_X6_156 rfl rfl rfl (Nat.le_of_ble_eq_true rfl) dX6_note_113 rfl (fun σ19 H locs e_σ19 hZ => ?_)
            have hf := lt_n e_σ19 hf
            obtain ⟨v20, e_v20⟩ : ∃ y : Int32, y = x4 + 1 := ⟨_, rfl⟩
            have hf := lt_n e_v20 hf
            refine lv_iinc (v := v20) (lv' := [(4, .int v20), (0, .ref (ad 0)), (1, .int x1), (2, .int x2), (3, .int x3)]) hx hb dX6_note_116 hl (k := 4) rfl (by rw [e_v20]; rfl) (by decide) rfl (fun ls hl => ?_)
            refine lv_goto (tgt := 3) hx hb dX6_note_119 (by decide) ?_
            exact ih σ19 x1 x2 x3 v20 _ _ _ hZ (lv_sub hl [1, 2, 3, 4, 0] rfl) hf
set_option maxHeartbeats 4000000 in
set_option maxRecDepth 100000 in
theorem ct_X6_note (l : Launch) (D : va_G) (A : Nat → Prop) (ad : Nat → Nat) (cA : Nat → ClassId) (rs : va_W) (tr : List (ClassId × FieldType)) (σ : S2) (x1 : Int32) (x2 : Int32) (x3 : Int32) {res : S2} (hf : fn_X6_note σ x1 x2 x3 = some res) : Met l yX6_note (.code yX6_note cX6_note 5 none :: tb) rm_X6_note (va_Pc [.ref (ad 0), .int x1, .int x2, .int x3] (zN D vwCl (tyM cA tr) A (wM ad cA rs) nl σ)) (va_Qv (fun u' => u' = res) (zB D vwCl (tyM cA tr) A (wM ad cA rs)) A) 0 0 A := by
  refine Met.ofW (cc := cX6_note) (maxL := 5) (ret := none) (by decide) rfl ?_
  intro p e s m args below meth c s₁ B hml hv
  obtain ⟨rfl, hB, hnw0⟩ := hv
  have htt : ∀ w ∈ tb, w.before (([.ref (ad 0), .int x1, .int x2, .int x3] : List Value).toArray) s = true := fun w h => atoms_spec (ws := (.code yX6_note cX6_note 5 none :: tb)) B.pre w (List.mem_cons_of_mem _ h)
  have C0 : cx p m meth c cX6_note none 5 s (([.ref (ad 0), .int x1, .int x2, .int x3] : List Value).toArray) tb nl RX6 := ⟨B.exec, B.bytes, B.returns, hml, findClass_of_methodNamed B.named, htt, B.notSynchronized, hnw0⟩
  obtain ⟨hx, hb, hr, hml, hown, htt, hlocks, hnw⟩ := id C0
  have hZ := z_start hB
  have hl := lv_entry ([.ref (ad 0), .int x1, .int x2, .int x3]) (n := 5) (Nat.le_of_ble_eq_true rfl)
  rw [lg_entry_eq]
  generalize (lg_sl ([.ref (ad 0), .int x1, .int x2, .int x3]) ++ List.replicate (5 - (lg_sl ([.ref (ad 0), .int x1, .int x2, .int x3])).length) Slot.unset).toArray = ls at hl ⊢
  have hl : lv_has ls 5 [(0, .ref (ad 0)), (1, .int x1), (2, .int x2), (3, .int x3)] := hl
  unfold fn_X6_note at hf
  refine lv_iconst (v := 0) hx hb dX6_note_0 (by decide) ?_
  refine lv_istore (lv' := [(4, .int 0), (0, .ref (ad 0)), (1, .int x1), (2, .int x2), (3, .int x3)]) hx hb dX6_note_1 hl (by decide) rfl (fun ls hl => ?_)
  exact wk_X6_note_3 C0  fu σ x1 x2 x3 0 _ _ _ hZ (lv_sub hl [1, 2, 3, 4, 0] rfl) hf
abbrev rm_X6_report : Room := { frames := 4, cells := 0, slots := 0, locals := 101 }
def fn_X6_report_30 (K12 : S2 → Int32 → Option (S2)) (K20 : S2 → Int32 → Int32 → Option (S2)) : Nat → S2 → Int32 → Int32 → Int32 → Option (S2)
  | 0, _, _, _, _ => none
  | n + 1, σ, x1, x2, x3 => if (σ.1 23 0) ≤ x3 then lt (x2 + 1) (fun v2 => K20 σ x1 v2) else ck ((32 * x2) + x1) 384 (if (σ.1 12 (((32 * x2) + x1)).toNatClampNeg) = 0 then lt (x2 + 1) (fun v5 => K20 σ x1 v5) else ck x3 40 (if (σ.1 7 (x3).toNatClampNeg) = x2 then ck x3 40 (if (σ.1 8 (x3).toNatClampNeg) = 16 then lt (x3 + 1) (fun v11 => fn_X6_report_30 K12 K20 n σ x1 x2 v11) else bn2 (fn_X6_look σ x3 x1) (fun r14 σ13 => if r14 = 0 then lt (x3 + 1) (fun v16 => fn_X6_report_30 K12 K20 n σ13 x1 x2 v16) else bn (fn_X6_note σ13 x1 x2 x3) (fun σ18 => lt (x3 + 1) (fun v19 => fn_X6_report_30 K12 K20 n σ18 x1 x2 v19)))) else lt (x3 + 1) (fun v8 => fn_X6_report_30 K12 K20 n σ x1 x2 v8)))
def fn_X6_report_20 (K12 : S2 → Int32 → Option (S2)) : Nat → S2 → Int32 → Int32 → Option (S2)
  | 0, _, _, _ => none
  | n + 1, σ, x1, x2 => if (σ.1 21 0) ≤ x2 then lt (x1 + 1) (fun v2 => K12 σ v2) else fn_X6_report_30 K12 (fn_X6_report_20 K12 n) fu σ x1 x2 0
def fn_X6_report_12 : Nat → S2 → Int32 → Option (S2)
  | 0, _, _ => none
  | n + 1, σ, x1 => if 32 ≤ x1 then some σ else fn_X6_report_20 (fn_X6_report_12 n) fu σ x1 0
def fn_X6_report (σ : S2) : Option (S2) := lt (st σ 26 0 0) (fun σ1 => lt (st σ1 25 0 0) (fun σ2 => fn_X6_report_12 fu σ2 0))
set_option maxHeartbeats 4000000 in
set_option maxRecDepth 100000 in
theorem wk_X6_report_30 {p : Program} {l : Launch} {e : Env} {s : State} {m : MethodId} {args : Array Value} {below : List Frame} {meth : Method} {c : Code} {D : va_G} {A : Nat → Prop} {ad : Nat → Nat} {cA : Nat → ClassId} {rs : va_W} {tr : List (ClassId × FieldType)} {res : S2} (C0 : cx p m meth c cX6_report none 4 s args tb nl RX6) (K12 : S2 → Int32 → Option (S2)) (hK12 : ∀ (σ : S2) (x1 : Int32), ∀ (H : Heap) (locs : List Loc) (ls : Array Slot), zz D vwCl (tyM cA tr) A (wM ad cA rs) s s.heap H locs σ → lv_has ls 4 [(0, .ref (ad 0)), (1, .int x1)] → K12 σ x1 = some res → W p l e rm_X6_report s m args below meth c H locs 0 0 (MQ below (va_Qv (fun u' => u' = res) (zB D vwCl (tyM cA tr) A (wM ad cA rs)) A) args s 0 0 A) (F0 m 12 ls [])) (K20 : S2 → Int32 → Int32 → Option (S2)) (hK20 : ∀ (σ : S2) (x1 : Int32) (x2 : Int32), ∀ (H : Heap) (locs : List Loc) (ls : Array Slot), zz D vwCl (tyM cA tr) A (wM ad cA rs) s s.heap H locs σ → lv_has ls 4 [(0, .ref (ad 0)), (1, .int x1), (2, .int x2)] → K20 σ x1 x2 = some res → W p l e rm_X6_report s m args below meth c H locs 0 0 (MQ below (va_Qv (fun u' => u' = res) (zB D vwCl (tyM cA tr) A (wM ad cA rs)) A) args s 0 0 A) (F0 m 20 ls [])) : ∀ (n : Nat) (σ : S2) (x1 : Int32) (x2 : Int32) (x3 : Int32), ∀ (H : Heap) (locs : List Loc) (ls : Array Slot), zz D vwCl (tyM cA tr) A (wM ad cA rs) s s.heap H locs σ → lv_has ls 4 [(0, .ref (ad 0)), (1, .int x1), (2, .int x2), (3, .int x3)] → fn_X6_report_30 K12 K20 n σ x1 x2 x3 = some res → W p l e rm_X6_report s m args below meth c H locs 0 0 (MQ below (va_Qv (fun u' => u' = res) (zB D vwCl (tyM cA tr) A (wM ad cA rs)) A) args s 0 0 A) (F0 m 30 ls []) := by
  obtain ⟨hx, hb, hr, hml, hown, htt, hlocks, hnw⟩ := id C0
  intro n
  induction n with
  | zero => intro σ x1 x2 x3 H locs ls hZ hl hf; exact no_some hf
  | succ n ih =>
    intro σ x1 x2 x3 H locs ls hZ hl hf
    rw [fn_X6_report_30] at hf
    refine lv_iload_n hx hb dX6_report_30 rfl (lv_at hl 3 rfl) ?_
    refine lv_aload_n hx hb dX6_report_31 rfl (lv_at hl 0 rfl) ?_
    refine z_get hx hb htt iw_X6 hown hZ 0 rfl rfl 9 (by decide) lf_X6_90 rfl dX6_report_32 ?_
    refine lv_icmp_ge (tgt := 95) hx hb dX6_report_35 (by decide) (fun c_1 => ?_) (fun c_1 => ?_)
    · have hf := ite_t c_1 hf
      obtain ⟨v2, e_v2⟩ : ∃ y : Int32, y = x2 + 1 := ⟨_, rfl⟩
      have hf := lt_n e_v2 hf
      refine lv_iinc (v := v2) (lv' := [(2, .int v2), (0, .ref (ad 0)), (1, .int x1), (3, .int x3)]) hx hb dX6_report_95 hl (k := 2) rfl (by rw [e_v2]; rfl) (by decide) rfl (fun ls hl => ?_)
      refine lv_goto (tgt := 20) hx hb dX6_report_98 (by decide) ?_
      exact hK20 σ x1 v2 _ _ _ hZ (lv_sub hl [1, 2, 0] rfl) hf
    · have hf := ite_f c_1 hf
      refine lv_aload_n hx hb dX6_report_38 rfl (lv_at hl 0 rfl) ?_
      refine z_get hx hb htt iw_X6 hown hZ 0 rfl rfl 15 (by decide) lf_X6_44 rfl dX6_report_39 ?_
      refine lv_bipush (v := 32) hx hb dX6_report_42 (by decide) ?_
      refine lv_iload_n hx hb dX6_report_44 rfl (lv_at hl 2 rfl) ?_
      refine lv_imul hx hb dX6_report_45 ?_
      refine lv_iload_n hx hb dX6_report_46 rfl (lv_at hl 1 rfl) ?_
      refine lv_iadd hx hb dX6_report_47 ?_
      obtain ⟨h_3, hf⟩ := ck_s hf
      refine z_zld hx hb hZ 12 11 rfl rfl h_3 dX6_report_48 ?_
      refine lv_if_eq (tgt := 95) hx hb dX6_report_49 (by decide) (fun c_4 => ?_) (fun c_4 => ?_)
      · have hf := ite_t c_4 hf
        obtain ⟨v5, e_v5⟩ : ∃ y : Int32, y = x2 + 1 := ⟨_, rfl⟩
        have hf := lt_n e_v5 hf
        refine lv_iinc (v := v5) (lv' := [(2, .int v5), (0, .ref (ad 0)), (1, .int x1), (3, .int x3)]) hx hb dX6_report_95 hl (k := 2) rfl (by rw [e_v5]; rfl) (by decide) rfl (fun ls hl => ?_)
        refine lv_goto (tgt := 20) hx hb dX6_report_98 (by decide) ?_
        exact hK20 σ x1 v5 _ _ _ hZ (lv_sub hl [1, 2, 0] rfl) hf
      · have hf := ite_f c_4 hf
        refine lv_aload_n hx hb dX6_report_52 rfl (lv_at hl 0 rfl) ?_
        refine z_get hx hb htt iw_X6 hown hZ 0 rfl rfl 10 (by decide) lf_X6_29 rfl dX6_report_53 ?_
        refine lv_iload_n hx hb dX6_report_56 rfl (lv_at hl 3 rfl) ?_
        obtain ⟨h_6, hf⟩ := ck_s hf
        refine z_ild hx hb hZ 7 6 rfl rfl h_6 dX6_report_57 ?_
        refine lv_iload_n hx hb dX6_report_58 rfl (lv_at hl 2 rfl) ?_
        refine lv_icmp_ne (tgt := 89) hx hb dX6_report_59 (by decide) (fun c_7 => ?_) (fun c_7 => ?_)
        · have hf := ite_f c_7 hf
          obtain ⟨v8, e_v8⟩ : ∃ y : Int32, y = x3 + 1 := ⟨_, rfl⟩
          have hf := lt_n e_v8 hf
          refine lv_iinc (v := v8) (lv' := [(3, .int v8), (0, .ref (ad 0)), (1, .int x1), (2, .int x2)]) hx hb dX6_report_89 hl (k := 3) rfl (by rw [e_v8]; rfl) (by decide) rfl (fun ls hl => ?_)
          refine lv_goto (tgt := 30) hx hb dX6_report_92 (by decide) ?_
          exact ih σ x1 x2 v8 _ _ _ hZ (lv_sub hl [1, 2, 3, 0] rfl) hf
        · have hf := ite_t c_7 hf
          refine lv_aload_n hx hb dX6_report_62 rfl (lv_at hl 0 rfl) ?_
          refine z_get hx hb htt iw_X6 hown hZ 0 rfl rfl 11 (by decide) lf_X6_32 rfl dX6_report_63 ?_
          refine lv_iload_n hx hb dX6_report_66 rfl (lv_at hl 3 rfl) ?_
          obtain ⟨h_9, hf⟩ := ck_s hf
          refine z_ild hx hb hZ 8 7 rfl rfl h_9 dX6_report_67 ?_
          refine lv_bipush (v := 16) hx hb dX6_report_68 (by decide) ?_
          refine lv_icmp_eq (tgt := 89) hx hb dX6_report_70 (by decide) (fun c_10 => ?_) (fun c_10 => ?_)
          · have hf := ite_t c_10 hf
            obtain ⟨v11, e_v11⟩ : ∃ y : Int32, y = x3 + 1 := ⟨_, rfl⟩
            have hf := lt_n e_v11 hf
            refine lv_iinc (v := v11) (lv' := [(3, .int v11), (0, .ref (ad 0)), (1, .int x1), (2, .int x2)]) hx hb dX6_report_89 hl (k := 3) rfl (by rw [e_v11]; rfl) (by decide) rfl (fun ls hl => ?_)
            refine lv_goto (tgt := 30) hx hb dX6_report_92 (by decide) ?_
            exact ih σ x1 x2 v11 _ _ _ hZ (lv_sub hl [1, 2, 3, 0] rfl) hf
          · have hf := ite_f c_10 hf
            refine lv_aload_n hx hb dX6_report_73 rfl (lv_at hl 0 rfl) ?_
            refine lv_iload_n hx hb dX6_report_74 rfl (lv_at hl 3 rfl) ?_
            refine lv_iload_n hx hb dX6_report_75 rfl (lv_at hl 1 rfl) ?_
            obtain ⟨r14, σ13, k_12, hf⟩ := bn2_s hf
            refine z_calli (r := r14) (u := σ13) (z_runV (As := [.int x3, .int x1]) (rest := []) ⟨hx, hb, hml, hown, htt⟩ gT (ct_X6_look l D A ad cA rs tr σ x3 x1 k_12) md_X6_look lm_X6_135 rfl rfl ⟨Nat.le_of_ble_eq_true rfl, Nat.le_of_ble_eq_true rfl⟩ (z_preV gN hnw hZ rfl (q0 := 0) (ci := 6) rfl) rfl rfl hl.1 rfl (lv_room (Nat.le_of_ble_eq_true rfl)) dX6_report_76 ⟨Nat.le_of_ble_eq_true rfl, Nat.le_of_ble_eq_true rfl⟩) hZ (fun H locs hZ => ?_)
            refine lv_if_eq (tgt := 89) hx hb dX6_report_79 (by decide) (fun c_15 => ?_) (fun c_15 => ?_)
            · have hf := ite_t c_15 hf
              obtain ⟨v16, e_v16⟩ : ∃ y : Int32, y = x3 + 1 := ⟨_, rfl⟩
              have hf := lt_n e_v16 hf
              refine lv_iinc (v := v16) (lv' := [(3, .int v16), (0, .ref (ad 0)), (1, .int x1), (2, .int x2)]) hx hb dX6_report_89 hl (k := 3) rfl (by rw [e_v16]; rfl) (by decide) rfl (fun ls hl => ?_)
              refine lv_goto (tgt := 30) hx hb dX6_report_92 (by decide) ?_
              exact ih σ13 x1 x2 v16 _ _ _ hZ (lv_sub hl [1, 2, 3, 0] rfl) hf
            · have hf := ite_f c_15 hf
              refine lv_aload_n hx hb dX6_report_82 rfl (lv_at hl 0 rfl) ?_
              refine lv_iload_n hx hb dX6_report_83 rfl (lv_at hl 1 rfl) ?_
              refine lv_iload_n hx hb dX6_report_84 rfl (lv_at hl 2 rfl) ?_
              refine lv_iload_n hx hb dX6_report_85 rfl (lv_at hl 3 rfl) ?_
              obtain ⟨σ18, k_17, hf⟩ := bn_s hf
              refine z_callv (u := σ18) (z_runV (As := [.int x1, .int x2, .int x3]) (rest := []) ⟨hx, hb, hml, hown, htt⟩ gT (ct_X6_note l D A ad cA rs tr σ13 x1 x2 x3 k_17) md_X6_note lm_X6_159 rfl rfl ⟨Nat.le_of_ble_eq_true rfl, Nat.le_of_ble_eq_true rfl⟩ (z_preV gN hnw hZ rfl (q0 := 0) (ci := 6) rfl) rfl rfl hl.1 rfl (lv_room (Nat.le_of_ble_eq_true rfl)) dX6_report_86 ⟨Nat.le_of_ble_eq_true rfl, Nat.le_of_ble_eq_true rfl⟩) hZ (fun H locs hZ => ?_)
              obtain ⟨v19, e_v19⟩ : ∃ y : Int32, y = x3 + 1 := ⟨_, rfl⟩
              have hf := lt_n e_v19 hf
              refine lv_iinc (v := v19) (lv' := [(3, .int v19), (0, .ref (ad 0)), (1, .int x1), (2, .int x2)]) hx hb dX6_report_89 hl (k := 3) rfl (by rw [e_v19]; rfl) (by decide) rfl (fun ls hl => ?_)
              refine lv_goto (tgt := 30) hx hb dX6_report_92 (by decide) ?_
              exact ih σ18 x1 x2 v19 _ _ _ hZ (lv_sub hl [1, 2, 3, 0] rfl) hf
set_option maxHeartbeats 4000000 in
set_option maxRecDepth 100000 in
theorem wk_X6_report_20 {p : Program} {l : Launch} {e : Env} {s : State} {m : MethodId} {args : Array Value} {below : List Frame} {meth : Method} {c : Code} {D : va_G} {A : Nat → Prop} {ad : Nat → Nat} {cA : Nat → ClassId} {rs : va_W} {tr : List (ClassId × FieldType)} {res : S2} (C0 : cx p m meth c cX6_report none 4 s args tb nl RX6) (K12 : S2 → Int32 → Option (S2)) (hK12 : ∀ (σ : S2) (x1 : Int32), ∀ (H : Heap) (locs : List Loc) (ls : Array Slot), zz D vwCl (tyM cA tr) A (wM ad cA rs) s s.heap H locs σ → lv_has ls 4 [(0, .ref (ad 0)), (1, .int x1)] → K12 σ x1 = some res → W p l e rm_X6_report s m args below meth c H locs 0 0 (MQ below (va_Qv (fun u' => u' = res) (zB D vwCl (tyM cA tr) A (wM ad cA rs)) A) args s 0 0 A) (F0 m 12 ls [])) : ∀ (n : Nat) (σ : S2) (x1 : Int32) (x2 : Int32), ∀ (H : Heap) (locs : List Loc) (ls : Array Slot), zz D vwCl (tyM cA tr) A (wM ad cA rs) s s.heap H locs σ → lv_has ls 4 [(0, .ref (ad 0)), (1, .int x1), (2, .int x2)] → fn_X6_report_20 K12 n σ x1 x2 = some res → W p l e rm_X6_report s m args below meth c H locs 0 0 (MQ below (va_Qv (fun u' => u' = res) (zB D vwCl (tyM cA tr) A (wM ad cA rs)) A) args s 0 0 A) (F0 m 20 ls []) := by
  obtain ⟨hx, hb, hr, hml, hown, htt, hlocks, hnw⟩ := id C0
  intro n
  induction n with
  | zero => intro σ x1 x2 H locs ls hZ hl hf; exact no_some hf
  | succ n ih =>
    intro σ x1 x2 H locs ls hZ hl hf
    rw [fn_X6_report_20] at hf
    refine lv_iload_n hx hb dX6_report_20 rfl (lv_at hl 2 rfl) ?_
    refine lv_aload_n hx hb dX6_report_21 rfl (lv_at hl 0 rfl) ?_
    refine z_get hx hb htt iw_X6 hown hZ 0 rfl rfl 2 (by decide) lf_X6_70 rfl dX6_report_22 ?_
    refine lv_icmp_ge (tgt := 101) hx hb dX6_report_25 (by decide) (fun c_1 => ?_) (fun c_1 => ?_)
    · have hf := ite_t c_1 hf
      obtain ⟨v2, e_v2⟩ : ∃ y : Int32, y = x1 + 1 := ⟨_, rfl⟩
      have hf := lt_n e_v2 hf
      refine lv_iinc (v := v2) (lv' := [(1, .int v2), (0, .ref (ad 0)), (2, .int x2)]) hx hb dX6_report_101 hl (k := 1) rfl (by rw [e_v2]; rfl) (by decide) rfl (fun ls hl => ?_)
      refine lv_goto (tgt := 12) hx hb dX6_report_104 (by decide) ?_
      exact hK12 σ v2 _ _ _ hZ (lv_sub hl [1, 0] rfl) hf
    · have hf := ite_f c_1 hf
      refine lv_iconst (v := 0) hx hb dX6_report_28 (by decide) ?_
      refine lv_istore_n (lv' := [(3, .int 0), (0, .ref (ad 0)), (1, .int x1), (2, .int x2)]) hx hb dX6_report_29 rfl hl (by decide) rfl (fun ls hl => ?_)
      exact wk_X6_report_30 C0 K12 hK12 (fn_X6_report_20 K12 n) ih fu σ x1 x2 0 _ _ _ hZ (lv_sub hl [1, 2, 3, 0] rfl) hf
set_option maxHeartbeats 4000000 in
set_option maxRecDepth 100000 in
theorem wk_X6_report_12 {p : Program} {l : Launch} {e : Env} {s : State} {m : MethodId} {args : Array Value} {below : List Frame} {meth : Method} {c : Code} {D : va_G} {A : Nat → Prop} {ad : Nat → Nat} {cA : Nat → ClassId} {rs : va_W} {tr : List (ClassId × FieldType)} {res : S2} (C0 : cx p m meth c cX6_report none 4 s args tb nl RX6) : ∀ (n : Nat) (σ : S2) (x1 : Int32), ∀ (H : Heap) (locs : List Loc) (ls : Array Slot), zz D vwCl (tyM cA tr) A (wM ad cA rs) s s.heap H locs σ → lv_has ls 4 [(0, .ref (ad 0)), (1, .int x1)] → fn_X6_report_12 n σ x1 = some res → W p l e rm_X6_report s m args below meth c H locs 0 0 (MQ below (va_Qv (fun u' => u' = res) (zB D vwCl (tyM cA tr) A (wM ad cA rs)) A) args s 0 0 A) (F0 m 12 ls []) := by
  obtain ⟨hx, hb, hr, hml, hown, htt, hlocks, hnw⟩ := id C0
  intro n
  induction n with
  | zero => intro σ x1 H locs ls hZ hl hf; exact no_some hf
  | succ n ih =>
    intro σ x1 H locs ls hZ hl hf
    rw [fn_X6_report_12] at hf
    refine lv_iload_n hx hb dX6_report_12 rfl (lv_at hl 1 rfl) ?_
    refine lv_bipush (v := 32) hx hb dX6_report_13 (by decide) ?_
    refine lv_icmp_ge (tgt := 107) hx hb dX6_report_15 (by decide) (fun c_1 => ?_) (fun c_1 => ?_)
    · have hf := ite_t c_1 hf
      exact z_vret hx hb hr hlocks hZ (Option.some.inj hf) dX6_report_107
    · have hf := ite_f c_1 hf
      refine lv_iconst (v := 0) hx hb dX6_report_18 (by decide) ?_
      refine lv_istore_n (lv' := [(2, .int 0), (0, .ref (ad 0)), (1, .int x1)]) hx hb dX6_report_19 rfl hl (by decide) rfl (fun ls hl => ?_)
      exact wk_X6_report_20 C0 (fn_X6_report_12 n) ih fu σ x1 0 _ _ _ hZ (lv_sub hl [1, 2, 0] rfl) hf
set_option maxHeartbeats 4000000 in
set_option maxRecDepth 100000 in
theorem ct_X6_report (l : Launch) (D : va_G) (A : Nat → Prop) (ad : Nat → Nat) (cA : Nat → ClassId) (rs : va_W) (tr : List (ClassId × FieldType)) (σ : S2) {res : S2} (hf : fn_X6_report σ = some res) : Met l yX6_report (.code yX6_report cX6_report 4 none :: tb) rm_X6_report (va_Pc [.ref (ad 0)] (zN D vwCl (tyM cA tr) A (wM ad cA rs) nl σ)) (va_Qv (fun u' => u' = res) (zB D vwCl (tyM cA tr) A (wM ad cA rs)) A) 0 0 A := by
  refine Met.ofW (cc := cX6_report) (maxL := 4) (ret := none) (by decide) rfl ?_
  intro p e s m args below meth c s₁ B hml hv
  obtain ⟨rfl, hB, hnw0⟩ := hv
  have htt : ∀ w ∈ tb, w.before (([.ref (ad 0)] : List Value).toArray) s = true := fun w h => atoms_spec (ws := (.code yX6_report cX6_report 4 none :: tb)) B.pre w (List.mem_cons_of_mem _ h)
  have C0 : cx p m meth c cX6_report none 4 s (([.ref (ad 0)] : List Value).toArray) tb nl RX6 := ⟨B.exec, B.bytes, B.returns, hml, findClass_of_methodNamed B.named, htt, B.notSynchronized, hnw0⟩
  obtain ⟨hx, hb, hr, hml, hown, htt, hlocks, hnw⟩ := id C0
  have hZ := z_start hB
  have hl := lv_entry ([.ref (ad 0)]) (n := 4) (Nat.le_of_ble_eq_true rfl)
  rw [lg_entry_eq]
  generalize (lg_sl ([.ref (ad 0)]) ++ List.replicate (4 - (lg_sl ([.ref (ad 0)])).length) Slot.unset).toArray = ls at hl ⊢
  have hl : lv_has ls 4 [(0, .ref (ad 0))] := hl
  unfold fn_X6_report at hf
  refine lv_aload_n hx hb dX6_report_0 rfl (lv_at hl 0 rfl) ?_
  refine lv_iconst (v := 0) hx hb dX6_report_1 (by decide) ?_
  refine z_put (σ' := st σ 26 0 0) hx hb htt iw_X6 tyX6 to_X6 nm_X6 hown hZ 0 rfl rfl 22 (by decide) lf_X6_153 rfl rfl rfl (Nat.le_of_ble_eq_true rfl) dX6_report_2 rfl (fun σ1 H locs e_σ1 hZ => ?_)
  have hf := lt_n e_σ1 hf
  refine lv_aload_n hx hb dX6_report_5 rfl (lv_at hl 0 rfl) ?_
  refine lv_iconst (v := 0) hx hb dX6_report_6 (by decide) ?_
  refine z_put (σ' := st σ1 25 0 0) hx hb htt iw_X6 tyX6 to_X6 nm_X6 hown hZ 0 rfl rfl 21 (by decide) lf_X6_156 rfl rfl rfl (Nat.le_of_ble_eq_true rfl) dX6_report_7 rfl (fun σ2 H locs e_σ2 hZ => ?_)
  have hf := lt_n e_σ2 hf
  refine lv_iconst (v := 0) hx hb dX6_report_10 (by decide) ?_
  refine lv_istore_n (lv' := [(1, .int 0), (0, .ref (ad 0))]) hx hb dX6_report_11 rfl hl (by decide) rfl (fun ls hl => ?_)
  exact wk_X6_report_12 C0  fu σ2 0 _ _ _ hZ (lv_sub hl [1, 0] rfl) hf
abbrev rm_X6_make : Room := { frames := 5, cells := 0, slots := 0, locals := 125 }
def fn_X6_make_44 (K36 : S2 → Int32 → Option (S2)) : Nat → S2 → Int32 → Int32 → Option (S2)
  | 0, _, _, _ => none
  | n + 1, σ, x1, x2 => if (σ.1 21 0) ≤ x2 then K36 σ x1 else ck x2 12 (if (σ.1 13 (x2).toNatClampNeg) = 0 then bn (fn_X6_isReady σ x2) (fun r6 => if r6 = 0 then lt (x2 + 1) (fun v8 => fn_X6_make_44 K36 n σ x1 v8) else bn (fn_X6_settle σ x2) (fun σ10 => lt (x2 + 1) (fun v11 => fn_X6_make_44 K36 n σ10 1 v11))) else lt (x2 + 1) (fun v4 => fn_X6_make_44 K36 n σ x1 v4))
def fn_X6_make_36 : Nat → S2 → Int32 → Option (S2)
  | 0, _, _ => none
  | n + 1, σ, x1 => if x1 = 0 then bn (fn_X6_see σ) (fun σ3 => bn (fn_X6_report σ3) (fun σ5 => some σ5)) else fn_X6_make_44 (fn_X6_make_36 n) fu σ 0 0
def fn_X6_make_15 : Nat → S2 → Int32 → Option (S2)
  | 0, _, _ => none
  | n + 1, σ, x1 => if 12 ≤ x1 then fn_X6_make_36 fu σ 1 else ck x1 12 (lt (st σ 13 (x1).toNatClampNeg 0) (fun σ3 => lt (x1 + 1) (fun v4 => fn_X6_make_15 n σ3 v4)))
def fn_X6_make (σ : S2) : Option (S2) := if (σ.1 24 0) = 0 then lt (st σ 24 0 1) (fun σ2 => fn_X6_make_15 fu σ2 0) else some σ
set_option maxHeartbeats 4000000 in
set_option maxRecDepth 100000 in
theorem wk_X6_make_44 {p : Program} {l : Launch} {e : Env} {s : State} {m : MethodId} {args : Array Value} {below : List Frame} {meth : Method} {c : Code} {D : va_G} {A : Nat → Prop} {ad : Nat → Nat} {cA : Nat → ClassId} {rs : va_W} {tr : List (ClassId × FieldType)} {res : S2} (C0 : cx p m meth c cX6_make none 3 s args tb nl RX6) (K36 : S2 → Int32 → Option (S2)) (hK36 : ∀ (σ : S2) (x1 : Int32), ∀ (H : Heap) (locs : List Loc) (ls : Array Slot), zz D vwCl (tyM cA tr) A (wM ad cA rs) s s.heap H locs σ → lv_has ls 3 [(0, .ref (ad 0)), (1, .int x1)] → K36 σ x1 = some res → W p l e rm_X6_make s m args below meth c H locs 0 0 (MQ below (va_Qv (fun u' => u' = res) (zB D vwCl (tyM cA tr) A (wM ad cA rs)) A) args s 0 0 A) (F0 m 36 ls [])) : ∀ (n : Nat) (σ : S2) (x1 : Int32) (x2 : Int32), ∀ (H : Heap) (locs : List Loc) (ls : Array Slot), zz D vwCl (tyM cA tr) A (wM ad cA rs) s s.heap H locs σ → lv_has ls 3 [(0, .ref (ad 0)), (1, .int x1), (2, .int x2)] → fn_X6_make_44 K36 n σ x1 x2 = some res → W p l e rm_X6_make s m args below meth c H locs 0 0 (MQ below (va_Qv (fun u' => u' = res) (zB D vwCl (tyM cA tr) A (wM ad cA rs)) A) args s 0 0 A) (F0 m 44 ls []) := by
  obtain ⟨hx, hb, hr, hml, hown, htt, hlocks, hnw⟩ := id C0
  intro n
  induction n with
  | zero => intro σ x1 x2 H locs ls hZ hl hf; exact no_some hf
  | succ n ih =>
    intro σ x1 x2 H locs ls hZ hl hf
    rw [fn_X6_make_44] at hf
    refine lv_iload_n hx hb dX6_make_44 rfl (lv_at hl 2 rfl) ?_
    refine lv_aload_n hx hb dX6_make_45 rfl (lv_at hl 0 rfl) ?_
    refine z_get hx hb htt iw_X6 hown hZ 0 rfl rfl 2 (by decide) lf_X6_70 rfl dX6_make_46 ?_
    refine lv_icmp_ge (tgt := 82) hx hb dX6_make_49 (by decide) (fun c_1 => ?_) (fun c_1 => ?_)
    · have hf := ite_t c_1 hf
      refine lv_goto (tgt := 36) hx hb dX6_make_82 (by decide) ?_
      exact hK36 σ x1 _ _ _ hZ (lv_sub hl [0, 1] rfl) hf
    · have hf := ite_f c_1 hf
      refine lv_aload_n hx hb dX6_make_52 rfl (lv_at hl 0 rfl) ?_
      refine z_get hx hb htt iw_X6 hown hZ 0 rfl rfl 16 (by decide) lf_X6_47 rfl dX6_make_53 ?_
      refine lv_iload_n hx hb dX6_make_56 rfl (lv_at hl 2 rfl) ?_
      obtain ⟨h_2, hf⟩ := ck_s hf
      refine z_zld hx hb hZ 13 12 rfl rfl h_2 dX6_make_57 ?_
      refine lv_if_ne (tgt := 76) hx hb dX6_make_58 (by decide) (fun c_3 => ?_) (fun c_3 => ?_)
      · have hf := ite_f c_3 hf
        obtain ⟨v4, e_v4⟩ : ∃ y : Int32, y = x2 + 1 := ⟨_, rfl⟩
        have hf := lt_n e_v4 hf
        refine lv_iinc (v := v4) (lv' := [(2, .int v4), (0, .ref (ad 0)), (1, .int x1)]) hx hb dX6_make_76 hl (k := 2) rfl (by rw [e_v4]; rfl) (by decide) rfl (fun ls hl => ?_)
        refine lv_goto (tgt := 44) hx hb dX6_make_79 (by decide) ?_
        exact ih σ x1 v4 _ _ _ hZ (lv_sub hl [1, 2, 0] rfl) hf
      · have hf := ite_t c_3 hf
        refine lv_aload_n hx hb dX6_make_61 rfl (lv_at hl 0 rfl) ?_
        refine lv_iload_n hx hb dX6_make_62 rfl (lv_at hl 2 rfl) ?_
        obtain ⟨r6, k_5, hf⟩ := bn_s hf
        refine z_calli (z_runV (As := [.int x2]) (rest := []) ⟨hx, hb, hml, hown, htt⟩ gT (ct_X6_isReady l D A ad cA rs tr σ x2 k_5) md_X6_isReady lm_X6_138 rfl rfl ⟨Nat.le_of_ble_eq_true rfl, Nat.le_of_ble_eq_true rfl⟩ (z_preV gN hnw hZ rfl (q0 := 0) (ci := 6) rfl) rfl rfl hl.1 rfl (lv_room (Nat.le_of_ble_eq_true rfl)) dX6_make_63 ⟨Nat.le_of_ble_eq_true rfl, Nat.le_of_ble_eq_true rfl⟩) hZ (fun H locs hZ => ?_)
        refine lv_if_eq (tgt := 76) hx hb dX6_make_66 (by decide) (fun c_7 => ?_) (fun c_7 => ?_)
        · have hf := ite_t c_7 hf
          obtain ⟨v8, e_v8⟩ : ∃ y : Int32, y = x2 + 1 := ⟨_, rfl⟩
          have hf := lt_n e_v8 hf
          refine lv_iinc (v := v8) (lv' := [(2, .int v8), (0, .ref (ad 0)), (1, .int x1)]) hx hb dX6_make_76 hl (k := 2) rfl (by rw [e_v8]; rfl) (by decide) rfl (fun ls hl => ?_)
          refine lv_goto (tgt := 44) hx hb dX6_make_79 (by decide) ?_
          exact ih σ x1 v8 _ _ _ hZ (lv_sub hl [1, 2, 0] rfl) hf
        · have hf := ite_f c_7 hf
          refine lv_aload_n hx hb dX6_make_69 rfl (lv_at hl 0 rfl) ?_
          refine lv_iload_n hx hb dX6_make_70 rfl (lv_at hl 2 rfl) ?_
          obtain ⟨σ10, k_9, hf⟩ := bn_s hf
          refine z_callv (u := σ10) (z_runV (As := [.int x2]) (rest := []) ⟨hx, hb, hml, hown, htt⟩ gT (ct_X6_settle l D A ad cA rs tr σ x2 k_9) md_X6_settle lm_X6_141 rfl rfl ⟨Nat.le_of_ble_eq_true rfl, Nat.le_of_ble_eq_true rfl⟩ (z_preV gN hnw hZ rfl (q0 := 0) (ci := 6) rfl) rfl rfl hl.1 rfl (lv_room (Nat.le_of_ble_eq_true rfl)) dX6_make_71 ⟨Nat.le_of_ble_eq_true rfl, Nat.le_of_ble_eq_true rfl⟩) hZ (fun H locs hZ => ?_)
          refine lv_iconst (v := 1) hx hb dX6_make_74 (by decide) ?_
          refine lv_istore_n (lv' := [(1, .int 1), (0, .ref (ad 0)), (2, .int x2)]) hx hb dX6_make_75 rfl hl (by decide) rfl (fun ls hl => ?_)
          obtain ⟨v11, e_v11⟩ : ∃ y : Int32, y = x2 + 1 := ⟨_, rfl⟩
          have hf := lt_n e_v11 hf
          refine lv_iinc (v := v11) (lv' := [(2, .int v11), (1, .int 1), (0, .ref (ad 0))]) hx hb dX6_make_76 hl (k := 2) rfl (by rw [e_v11]; rfl) (by decide) rfl (fun ls hl => ?_)
          refine lv_goto (tgt := 44) hx hb dX6_make_79 (by decide) ?_
          exact ih σ10 1 v11 _ _ _ hZ (lv_sub hl [2, 1, 0] rfl) hf
set_option maxHeartbeats 4000000 in
set_option maxRecDepth 100000 in
theorem wk_X6_make_36 {p : Program} {l : Launch} {e : Env} {s : State} {m : MethodId} {args : Array Value} {below : List Frame} {meth : Method} {c : Code} {D : va_G} {A : Nat → Prop} {ad : Nat → Nat} {cA : Nat → ClassId} {rs : va_W} {tr : List (ClassId × FieldType)} {res : S2} (C0 : cx p m meth c cX6_make none 3 s args tb nl RX6) : ∀ (n : Nat) (σ : S2) (x1 : Int32), ∀ (H : Heap) (locs : List Loc) (ls : Array Slot), zz D vwCl (tyM cA tr) A (wM ad cA rs) s s.heap H locs σ → lv_has ls 3 [(0, .ref (ad 0)), (1, .int x1)] → fn_X6_make_36 n σ x1 = some res → W p l e rm_X6_make s m args below meth c H locs 0 0 (MQ below (va_Qv (fun u' => u' = res) (zB D vwCl (tyM cA tr) A (wM ad cA rs)) A) args s 0 0 A) (F0 m 36 ls []) := by
  obtain ⟨hx, hb, hr, hml, hown, htt, hlocks, hnw⟩ := id C0
  intro n
  induction n with
  | zero => intro σ x1 H locs ls hZ hl hf; exact no_some hf
  | succ n ih =>
    intro σ x1 H locs ls hZ hl hf
    rw [fn_X6_make_36] at hf
    refine lv_iload_n hx hb dX6_make_36 rfl (lv_at hl 1 rfl) ?_
    refine lv_if_eq (tgt := 85) hx hb dX6_make_37 (by decide) (fun c_1 => ?_) (fun c_1 => ?_)
    · have hf := ite_t c_1 hf
      refine lv_aload_n hx hb dX6_make_85 rfl (lv_at hl 0 rfl) ?_
      obtain ⟨σ3, k_2, hf⟩ := bn_s hf
      refine z_callv (u := σ3) (z_runV (As := []) (rest := []) ⟨hx, hb, hml, hown, htt⟩ gT (ct_X6_see l D A ad cA rs tr σ  k_2) md_X6_see lm_X6_144 rfl rfl ⟨Nat.le_of_ble_eq_true rfl, Nat.le_of_ble_eq_true rfl⟩ (z_preV gN hnw hZ rfl (q0 := 0) (ci := 6) rfl) rfl rfl hl.1 rfl (lv_room (Nat.le_of_ble_eq_true rfl)) dX6_make_86 ⟨Nat.le_of_ble_eq_true rfl, Nat.le_of_ble_eq_true rfl⟩) hZ (fun H locs hZ => ?_)
      refine lv_aload_n hx hb dX6_make_89 rfl (lv_at hl 0 rfl) ?_
      obtain ⟨σ5, k_4, hf⟩ := bn_s hf
      refine z_callv (u := σ5) (z_runV (As := []) (rest := []) ⟨hx, hb, hml, hown, htt⟩ gT (ct_X6_report l D A ad cA rs tr σ3  k_4) md_X6_report lm_X6_147 rfl rfl ⟨Nat.le_of_ble_eq_true rfl, Nat.le_of_ble_eq_true rfl⟩ (z_preV gN hnw hZ rfl (q0 := 0) (ci := 6) rfl) rfl rfl hl.1 rfl (lv_room (Nat.le_of_ble_eq_true rfl)) dX6_make_90 ⟨Nat.le_of_ble_eq_true rfl, Nat.le_of_ble_eq_true rfl⟩) hZ (fun H locs hZ => ?_)
      exact z_vret hx hb hr hlocks hZ (Option.some.inj hf) dX6_make_93
    · have hf := ite_f c_1 hf
      refine lv_iconst (v := 0) hx hb dX6_make_40 (by decide) ?_
      refine lv_istore_n (lv' := [(1, .int 0), (0, .ref (ad 0))]) hx hb dX6_make_41 rfl hl (by decide) rfl (fun ls hl => ?_)
      refine lv_iconst (v := 0) hx hb dX6_make_42 (by decide) ?_
      refine lv_istore_n (lv' := [(2, .int 0), (1, .int 0), (0, .ref (ad 0))]) hx hb dX6_make_43 rfl hl (by decide) rfl (fun ls hl => ?_)
      exact wk_X6_make_44 C0 (fn_X6_make_36 n) ih fu σ 0 0 _ _ _ hZ (lv_sub hl [2, 1, 0] rfl) hf
set_option maxHeartbeats 4000000 in
set_option maxRecDepth 100000 in
theorem wk_X6_make_15 {p : Program} {l : Launch} {e : Env} {s : State} {m : MethodId} {args : Array Value} {below : List Frame} {meth : Method} {c : Code} {D : va_G} {A : Nat → Prop} {ad : Nat → Nat} {cA : Nat → ClassId} {rs : va_W} {tr : List (ClassId × FieldType)} {res : S2} (C0 : cx p m meth c cX6_make none 3 s args tb nl RX6) : ∀ (n : Nat) (σ : S2) (x1 : Int32), ∀ (H : Heap) (locs : List Loc) (ls : Array Slot), zz D vwCl (tyM cA tr) A (wM ad cA rs) s s.heap H locs σ → lv_has ls 3 [(0, .ref (ad 0)), (1, .int x1)] → fn_X6_make_15 n σ x1 = some res → W p l e rm_X6_make s m args below meth c H locs 0 0 (MQ below (va_Qv (fun u' => u' = res) (zB D vwCl (tyM cA tr) A (wM ad cA rs)) A) args s 0 0 A) (F0 m 15 ls []) := by
  obtain ⟨hx, hb, hr, hml, hown, htt, hlocks, hnw⟩ := id C0
  intro n
  induction n with
  | zero => intro σ x1 H locs ls hZ hl hf; exact no_some hf
  | succ n ih =>
    intro σ x1 H locs ls hZ hl hf
    rw [fn_X6_make_15] at hf
    refine lv_iload_n hx hb dX6_make_15 rfl (lv_at hl 1 rfl) ?_
    refine lv_bipush (v := 12) hx hb dX6_make_16 (by decide) ?_
    refine lv_icmp_ge (tgt := 34) hx hb dX6_make_18 (by decide) (fun c_1 => ?_) (fun c_1 => ?_)
    · have hf := ite_t c_1 hf
      refine lv_iconst (v := 1) hx hb dX6_make_34 (by decide) ?_
      refine lv_istore_n (lv' := [(1, .int 1), (0, .ref (ad 0))]) hx hb dX6_make_35 rfl hl (by decide) rfl (fun ls hl => ?_)
      exact wk_X6_make_36 C0  fu σ 1 _ _ _ hZ (lv_sub hl [1, 0] rfl) hf
    · have hf := ite_f c_1 hf
      refine lv_aload_n hx hb dX6_make_21 rfl (lv_at hl 0 rfl) ?_
      refine z_get hx hb htt iw_X6 hown hZ 0 rfl rfl 16 (by decide) lf_X6_47 rfl dX6_make_22 ?_
      refine lv_iload_n hx hb dX6_make_25 rfl (lv_at hl 1 rfl) ?_
      refine lv_iconst (v := 0) hx hb dX6_make_26 (by decide) ?_
      obtain ⟨h_2, hf⟩ := ck_s hf
      refine z_zst (σ' := st σ 13 (x1).toNatClampNeg 0) hx hb hZ 13 12 rfl rfl h_2 dX6_make_27 rfl (fun σ3 H locs e_σ3 hZ => ?_)
      have hf := lt_n e_σ3 hf
      obtain ⟨v4, e_v4⟩ : ∃ y : Int32, y = x1 + 1 := ⟨_, rfl⟩
      have hf := lt_n e_v4 hf
      refine lv_iinc (v := v4) (lv' := [(1, .int v4), (0, .ref (ad 0))]) hx hb dX6_make_28 hl (k := 1) rfl (by rw [e_v4]; rfl) (by decide) rfl (fun ls hl => ?_)
      refine lv_goto (tgt := 15) hx hb dX6_make_31 (by decide) ?_
      exact ih σ3 v4 _ _ _ hZ (lv_sub hl [1, 0] rfl) hf
set_option maxHeartbeats 4000000 in
set_option maxRecDepth 100000 in
theorem ct_X6_make (l : Launch) (D : va_G) (A : Nat → Prop) (ad : Nat → Nat) (cA : Nat → ClassId) (rs : va_W) (tr : List (ClassId × FieldType)) (σ : S2) {res : S2} (hf : fn_X6_make σ = some res) : Met l yX6_make (.code yX6_make cX6_make 3 none :: tb) rm_X6_make (va_Pc [.ref (ad 0)] (zN D vwCl (tyM cA tr) A (wM ad cA rs) nl σ)) (va_Qv (fun u' => u' = res) (zB D vwCl (tyM cA tr) A (wM ad cA rs)) A) 0 0 A := by
  refine Met.ofW (cc := cX6_make) (maxL := 3) (ret := none) (by decide) rfl ?_
  intro p e s m args below meth c s₁ B hml hv
  obtain ⟨rfl, hB, hnw0⟩ := hv
  have htt : ∀ w ∈ tb, w.before (([.ref (ad 0)] : List Value).toArray) s = true := fun w h => atoms_spec (ws := (.code yX6_make cX6_make 3 none :: tb)) B.pre w (List.mem_cons_of_mem _ h)
  have C0 : cx p m meth c cX6_make none 3 s (([.ref (ad 0)] : List Value).toArray) tb nl RX6 := ⟨B.exec, B.bytes, B.returns, hml, findClass_of_methodNamed B.named, htt, B.notSynchronized, hnw0⟩
  obtain ⟨hx, hb, hr, hml, hown, htt, hlocks, hnw⟩ := id C0
  have hZ := z_start hB
  have hl := lv_entry ([.ref (ad 0)]) (n := 3) (Nat.le_of_ble_eq_true rfl)
  rw [lg_entry_eq]
  generalize (lg_sl ([.ref (ad 0)]) ++ List.replicate (3 - (lg_sl ([.ref (ad 0)])).length) Slot.unset).toArray = ls at hl ⊢
  have hl : lv_has ls 3 [(0, .ref (ad 0))] := hl
  unfold fn_X6_make at hf
  refine lv_aload_n hx hb dX6_make_0 rfl (lv_at hl 0 rfl) ?_
  refine z_get hx hb htt iw_X6 hown hZ 0 rfl rfl 20 (by decide) lf_X6_62 rfl dX6_make_1 ?_
  refine lv_if_eq (tgt := 8) hx hb dX6_make_4 (by decide) (fun c_1 => ?_) (fun c_1 => ?_)
  · have hf := ite_t c_1 hf
    refine lv_aload_n hx hb dX6_make_8 rfl (lv_at hl 0 rfl) ?_
    refine lv_iconst (v := 1) hx hb dX6_make_9 (by decide) ?_
    refine z_put (σ' := st σ 24 0 1) hx hb htt iw_X6 tyX6 to_X6 nm_X6 hown hZ 0 rfl rfl 20 (by decide) lf_X6_62 rfl rfl rfl (Nat.le_of_ble_eq_true rfl) dX6_make_10 rfl (fun σ2 H locs e_σ2 hZ => ?_)
    have hf := lt_n e_σ2 hf
    refine lv_iconst (v := 0) hx hb dX6_make_13 (by decide) ?_
    refine lv_istore_n (lv' := [(1, .int 0), (0, .ref (ad 0))]) hx hb dX6_make_14 rfl hl (by decide) rfl (fun ls hl => ?_)
    exact wk_X6_make_15 C0  fu σ2 0 _ _ _ hZ (lv_sub hl [1, 0] rfl) hf
  · have hf := ite_f c_1 hf
    exact z_vret hx hb hr hlocks hZ (Option.some.inj hf) dX6_make_7
abbrev rm_X6_run : Room := { frames := 6, cells := 0, slots := 0, locals := 147 }
def fn_X6_run (σ : S2) : Option (Int32 × S2) := bn (fn_X6_make σ) (fun σ2 => if (σ2.1 25 0) = 0 then some ((σ2.1 26 0), σ2) else some ((-4), σ2))
set_option maxHeartbeats 4000000 in
set_option maxRecDepth 100000 in
theorem ct_X6_run (l : Launch) (D : va_G) (A : Nat → Prop) (ad : Nat → Nat) (cA : Nat → ClassId) (rs : va_W) (tr : List (ClassId × FieldType)) (σ : S2) {res : Int32 × S2} (hf : fn_X6_run σ = some res) : Met l yX6_run (.code yX6_run cX6_run 1 (some .int) :: tb) rm_X6_run (va_Pc [.ref (ad 0)] (zN D vwCl (tyM cA tr) A (wM ad cA rs) nl σ)) (va_Qi (fun r' u' => r' = res.1 ∧ u' = res.2) (zB D vwCl (tyM cA tr) A (wM ad cA rs)) A) 0 0 A := by
  refine Met.ofW (cc := cX6_run) (maxL := 1) (ret := (some .int)) (by decide) rfl ?_
  intro p e s m args below meth c s₁ B hml hv
  obtain ⟨rfl, hB, hnw0⟩ := hv
  have htt : ∀ w ∈ tb, w.before (([.ref (ad 0)] : List Value).toArray) s = true := fun w h => atoms_spec (ws := (.code yX6_run cX6_run 1 (some .int) :: tb)) B.pre w (List.mem_cons_of_mem _ h)
  have C0 : cx p m meth c cX6_run (some .int) 1 s (([.ref (ad 0)] : List Value).toArray) tb nl RX6 := ⟨B.exec, B.bytes, B.returns, hml, findClass_of_methodNamed B.named, htt, B.notSynchronized, hnw0⟩
  obtain ⟨hx, hb, hr, hml, hown, htt, hlocks, hnw⟩ := id C0
  have hZ := z_start hB
  have hl := lv_entry ([.ref (ad 0)]) (n := 1) (Nat.le_of_ble_eq_true rfl)
  rw [lg_entry_eq]
  generalize (lg_sl ([.ref (ad 0)]) ++ List.replicate (1 - (lg_sl ([.ref (ad 0)])).length) Slot.unset).toArray = ls at hl ⊢
  have hl : lv_has ls 1 [(0, .ref (ad 0))] := hl
  unfold fn_X6_run at hf
  refine lv_aload_n hx hb dX6_run_0 rfl (lv_at hl 0 rfl) ?_
  obtain ⟨σ2, k_1, hf⟩ := bn_s hf
  refine z_callv (u := σ2) (z_runV (As := []) (rest := []) ⟨hx, hb, hml, hown, htt⟩ gT (ct_X6_make l D A ad cA rs tr σ  k_1) md_X6_make lm_X6_163 rfl rfl ⟨Nat.le_of_ble_eq_true rfl, Nat.le_of_ble_eq_true rfl⟩ (z_preV gN hnw hZ rfl (q0 := 0) (ci := 6) rfl) rfl rfl hl.1 rfl (lv_room (Nat.le_of_ble_eq_true rfl)) dX6_run_1 ⟨Nat.le_of_ble_eq_true rfl, Nat.le_of_ble_eq_true rfl⟩) hZ (fun H locs hZ => ?_)
  refine lv_aload_n hx hb dX6_run_4 rfl (lv_at hl 0 rfl) ?_
  refine z_get hx hb htt iw_X6 hown hZ 0 rfl rfl 21 (by decide) lf_X6_156 rfl dX6_run_5 ?_
  refine lv_if_eq (tgt := 16) hx hb dX6_run_8 (by decide) (fun c_3 => ?_) (fun c_3 => ?_)
  · have hf := ite_t c_3 hf
    refine lv_aload_n hx hb dX6_run_16 rfl (lv_at hl 0 rfl) ?_
    refine z_get hx hb htt iw_X6 hown hZ 0 rfl rfl 22 (by decide) lf_X6_153 rfl dX6_run_17 ?_
    exact z_iret hx hb hr hlocks hZ (sp_1 hf) (sp_2 hf) dX6_run_20
  · have hf := ite_f c_3 hf
    refine lv_bipush (v := (-4)) hx hb dX6_run_11 (by decide) ?_
    refine lv_goto (tgt := 20) hx hb dX6_run_13 (by decide) ?_
    exact z_iret hx hb hr hlocks hZ (sp_1 hf) (sp_2 hf) dX6_run_20
abbrev rm_X6_result : Room := { frames := 6, cells := 0, slots := 0, locals := 147 }
def fn_X6_result (σ : S2) (x1 : Int32) (x2 : Int32) : Option (Int32 × S2) := lt (fn_X6_in x2 0 3) (fun r1 => if r1 = 0 then some ((-1), σ) else bn (fn_X6_make σ) (fun σ4 => if (σ4.1 25 0) = 0 then lt (fn_X6_in x1 0 ((σ4.1 26 0) - 1)) (fun r6 => if r6 = 0 then some ((-2), σ4) else ck ((4 * x1) + x2) 1004 (some ((σ4.1 17 (((4 * x1) + x2)).toNatClampNeg), σ4))) else some ((-4), σ4)))
set_option maxHeartbeats 4000000 in
set_option maxRecDepth 100000 in
theorem ct_X6_result (l : Launch) (D : va_G) (A : Nat → Prop) (ad : Nat → Nat) (cA : Nat → ClassId) (rs : va_W) (tr : List (ClassId × FieldType)) (σ : S2) (x1 : Int32) (x2 : Int32) {res : Int32 × S2} (hf : fn_X6_result σ x1 x2 = some res) : Met l yX6_result (.code yX6_result cX6_result 3 (some .int) :: tb) rm_X6_result (va_Pc [.ref (ad 0), .int x1, .int x2] (zN D vwCl (tyM cA tr) A (wM ad cA rs) nl σ)) (va_Qi (fun r' u' => r' = res.1 ∧ u' = res.2) (zB D vwCl (tyM cA tr) A (wM ad cA rs)) A) 0 0 A := by
  refine Met.ofW (cc := cX6_result) (maxL := 3) (ret := (some .int)) (by decide) rfl ?_
  intro p e s m args below meth c s₁ B hml hv
  obtain ⟨rfl, hB, hnw0⟩ := hv
  have htt : ∀ w ∈ tb, w.before (([.ref (ad 0), .int x1, .int x2] : List Value).toArray) s = true := fun w h => atoms_spec (ws := (.code yX6_result cX6_result 3 (some .int) :: tb)) B.pre w (List.mem_cons_of_mem _ h)
  have C0 : cx p m meth c cX6_result (some .int) 3 s (([.ref (ad 0), .int x1, .int x2] : List Value).toArray) tb nl RX6 := ⟨B.exec, B.bytes, B.returns, hml, findClass_of_methodNamed B.named, htt, B.notSynchronized, hnw0⟩
  obtain ⟨hx, hb, hr, hml, hown, htt, hlocks, hnw⟩ := id C0
  have hZ := z_start hB
  have hl := lv_entry ([.ref (ad 0), .int x1, .int x2]) (n := 3) (Nat.le_of_ble_eq_true rfl)
  rw [lg_entry_eq]
  generalize (lg_sl ([.ref (ad 0), .int x1, .int x2]) ++ List.replicate (3 - (lg_sl ([.ref (ad 0), .int x1, .int x2])).length) Slot.unset).toArray = ls at hl ⊢
  have hl : lv_has ls 3 [(0, .ref (ad 0)), (1, .int x1), (2, .int x2)] := hl
  unfold fn_X6_result at hf
  refine lv_iload_n hx hb dX6_result_0 rfl (lv_at hl 2 rfl) ?_
  refine lv_iconst (v := 0) hx hb dX6_result_1 (by decide) ?_
  refine lv_iconst (v := 3) hx hb dX6_result_2 (by decide) ?_
  refine z_pcalli (z_runS (As := [.int x2, .int 0, .int 3]) (rest := []) ⟨hx, hb, hml, hown, htt⟩ gT (ct_X6_in l x2 0 3 rfl) md_X6_in lm_X6_66 rfl rfl ⟨Nat.le_of_ble_eq_true rfl, Nat.le_of_ble_eq_true rfl⟩ z_preP rfl rfl hl.1 rfl (lv_room (Nat.le_of_ble_eq_true rfl)) dX6_result_3 ⟨Nat.le_of_ble_eq_true rfl, Nat.le_of_ble_eq_true rfl⟩) ?_
  refine lv_topi (fun r1 e_r1 => ?_)
  have hf := lt_n e_r1 hf
  refine lv_if_ne (tgt := 11) hx hb dX6_result_6 (by decide) (fun c_2 => ?_) (fun c_2 => ?_)
  · have hf := ite_f c_2 hf
    refine lv_aload_n hx hb dX6_result_11 rfl (lv_at hl 0 rfl) ?_
    obtain ⟨σ4, k_3, hf⟩ := bn_s hf
    refine z_callv (u := σ4) (z_runV (As := []) (rest := []) ⟨hx, hb, hml, hown, htt⟩ gT (ct_X6_make l D A ad cA rs tr σ  k_3) md_X6_make lm_X6_163 rfl rfl ⟨Nat.le_of_ble_eq_true rfl, Nat.le_of_ble_eq_true rfl⟩ (z_preV gN hnw hZ rfl (q0 := 0) (ci := 6) rfl) rfl rfl hl.1 rfl (lv_room (Nat.le_of_ble_eq_true rfl)) dX6_result_12 ⟨Nat.le_of_ble_eq_true rfl, Nat.le_of_ble_eq_true rfl⟩) hZ (fun H locs hZ => ?_)
    refine lv_aload_n hx hb dX6_result_15 rfl (lv_at hl 0 rfl) ?_
    refine z_get hx hb htt iw_X6 hown hZ 0 rfl rfl 21 (by decide) lf_X6_156 rfl dX6_result_16 ?_
    refine lv_if_eq (tgt := 27) hx hb dX6_result_19 (by decide) (fun c_5 => ?_) (fun c_5 => ?_)
    · have hf := ite_t c_5 hf
      refine lv_iload_n hx hb dX6_result_27 rfl (lv_at hl 1 rfl) ?_
      refine lv_iconst (v := 0) hx hb dX6_result_28 (by decide) ?_
      refine lv_aload_n hx hb dX6_result_29 rfl (lv_at hl 0 rfl) ?_
      refine z_get hx hb htt iw_X6 hown hZ 0 rfl rfl 22 (by decide) lf_X6_153 rfl dX6_result_30 ?_
      refine lv_iconst (v := 1) hx hb dX6_result_33 (by decide) ?_
      refine lv_isub hx hb dX6_result_34 ?_
      refine z_pcalli (z_runS (As := [.int x1, .int 0, .int ((σ4.1 26 0) - 1)]) (rest := []) ⟨hx, hb, hml, hown, htt⟩ gT (ct_X6_in l x1 0 ((σ4.1 26 0) - 1) rfl) md_X6_in lm_X6_66 rfl rfl ⟨Nat.le_of_ble_eq_true rfl, Nat.le_of_ble_eq_true rfl⟩ z_preP rfl rfl hl.1 rfl (lv_room (Nat.le_of_ble_eq_true rfl)) dX6_result_35 ⟨Nat.le_of_ble_eq_true rfl, Nat.le_of_ble_eq_true rfl⟩) ?_
      refine lv_topi (fun r6 e_r6 => ?_)
      have hf := lt_n e_r6 hf
      refine lv_if_eq (tgt := 54) hx hb dX6_result_38 (by decide) (fun c_7 => ?_) (fun c_7 => ?_)
      · have hf := ite_t c_7 hf
        refine lv_bipush (v := (-2)) hx hb dX6_result_54 (by decide) ?_
        exact z_iret hx hb hr hlocks hZ (sp_1 hf) (sp_2 hf) dX6_result_56
      · have hf := ite_f c_7 hf
        refine lv_aload_n hx hb dX6_result_41 rfl (lv_at hl 0 rfl) ?_
        refine z_get hx hb htt iw_X6 hown hZ 0 rfl rfl 23 (by decide) lf_X6_59 rfl dX6_result_42 ?_
        refine lv_iconst (v := 4) hx hb dX6_result_45 (by decide) ?_
        refine lv_iload_n hx hb dX6_result_46 rfl (lv_at hl 1 rfl) ?_
        refine lv_imul hx hb dX6_result_47 ?_
        refine lv_iload_n hx hb dX6_result_48 rfl (lv_at hl 2 rfl) ?_
        refine lv_iadd hx hb dX6_result_49 ?_
        obtain ⟨h_8, hf⟩ := ck_s hf
        refine z_ild hx hb hZ 17 16 rfl rfl h_8 dX6_result_50 ?_
        refine lv_goto (tgt := 56) hx hb dX6_result_51 (by decide) ?_
        exact z_iret hx hb hr hlocks hZ (sp_1 hf) (sp_2 hf) dX6_result_56
    · have hf := ite_f c_5 hf
      refine lv_bipush (v := (-4)) hx hb dX6_result_22 (by decide) ?_
      refine lv_goto (tgt := 56) hx hb dX6_result_24 (by decide) ?_
      exact z_iret hx hb hr hlocks hZ (sp_1 hf) (sp_2 hf) dX6_result_56
  · have hf := ite_t c_2 hf
    refine lv_iconst (v := (-1)) hx hb dX6_result_9 (by decide) ?_
    exact z_iret hx hb hr hlocks hZ (sp_1 hf) (sp_2 hf) dX6_result_10
abbrev rm_X6_worst : Room := { frames := 6, cells := 0, slots := 0, locals := 147 }
def fn_X6_worst_67 (σ : S2) (x2 : Int32) : Option (Int32 × S2) := if (σ.1 25 0) = 0 then some (x2, σ) else some ((-4), σ)
def fn_X6_worst_19 : Nat → S2 → Int32 → Int32 → Int32 → Option (Int32 × S2)
  | 0, _, _, _, _ => none
  | n + 1, σ, x1, x2, x3 => if (σ.1 26 0) ≤ x3 then fn_X6_worst_67 σ x2 else if (σ.1 25 0) = 0 then ck ((4 * x3) + 1) 1004 (ck (σ.1 17 (((4 * x3) + 1)).toNatClampNeg) 12 (if (σ.1 3 ((σ.1 17 (((4 * x3) + 1)).toNatClampNeg)).toNatClampNeg) = x1 then lt ((x2 + 1)) (fun v8 => lt (x3 + 1) (fun v9 => fn_X6_worst_19 n σ x1 v8 v9)) else lt ((x2 + 0)) (fun v6 => lt (x3 + 1) (fun v7 => fn_X6_worst_19 n σ x1 v6 v7)))) else fn_X6_worst_67 σ x2
def fn_X6_worst (σ : S2) (x1 : Int32) : Option (Int32 × S2) := lt (fn_X6_in x1 0 2) (fun r1 => if r1 = 0 then some ((-1), σ) else bn (fn_X6_make σ) (fun σ4 => fn_X6_worst_19 fu σ4 x1 0 0))
set_option maxHeartbeats 4000000 in
set_option maxRecDepth 100000 in
theorem wk_X6_worst_67 {p : Program} {l : Launch} {e : Env} {s : State} {m : MethodId} {args : Array Value} {below : List Frame} {meth : Method} {c : Code} {D : va_G} {A : Nat → Prop} {ad : Nat → Nat} {cA : Nat → ClassId} {rs : va_W} {tr : List (ClassId × FieldType)} {res : Int32 × S2} (C0 : cx p m meth c cX6_worst (some .int) 4 s args tb nl RX6) : ∀ (σ : S2) (x2 : Int32), ∀ (H : Heap) (locs : List Loc) (ls : Array Slot), zz D vwCl (tyM cA tr) A (wM ad cA rs) s s.heap H locs σ → lv_has ls 4 [(0, .ref (ad 0)), (2, .int x2)] → fn_X6_worst_67 σ x2 = some res → W p l e rm_X6_worst s m args below meth c H locs 0 0 (MQ below (va_Qi (fun r' u' => r' = res.1 ∧ u' = res.2) (zB D vwCl (tyM cA tr) A (wM ad cA rs)) A) args s 0 0 A) (F0 m 67 ls []) := by
  obtain ⟨hx, hb, hr, hml, hown, htt, hlocks, hnw⟩ := id C0
  intro σ x2 H locs ls hZ hl hf
  unfold fn_X6_worst_67 at hf
  refine lv_aload_n hx hb dX6_worst_67 rfl (lv_at hl 0 rfl) ?_
  refine z_get hx hb htt iw_X6 hown hZ 0 rfl rfl 21 (by decide) lf_X6_156 rfl dX6_worst_68 ?_
  refine lv_if_eq (tgt := 79) hx hb dX6_worst_71 (by decide) (fun c_1 => ?_) (fun c_1 => ?_)
  · have hf := ite_t c_1 hf
    refine lv_iload_n hx hb dX6_worst_79 rfl (lv_at hl 1 rfl) ?_
    exact z_iret hx hb hr hlocks hZ (sp_1 hf) (sp_2 hf) dX6_worst_80
  · have hf := ite_f c_1 hf
    refine lv_bipush (v := (-4)) hx hb dX6_worst_74 (by decide) ?_
    refine lv_goto (tgt := 80) hx hb dX6_worst_76 (by decide) ?_
    exact z_iret hx hb hr hlocks hZ (sp_1 hf) (sp_2 hf) dX6_worst_80
set_option maxHeartbeats 4000000 in
set_option maxRecDepth 100000 in
theorem wk_X6_worst_19 {p : Program} {l : Launch} {e : Env} {s : State} {m : MethodId} {args : Array Value} {below : List Frame} {meth : Method} {c : Code} {D : va_G} {A : Nat → Prop} {ad : Nat → Nat} {cA : Nat → ClassId} {rs : va_W} {tr : List (ClassId × FieldType)} {res : Int32 × S2} (C0 : cx p m meth c cX6_worst (some .int) 4 s args tb nl RX6) : ∀ (n : Nat) (σ : S2) (x1 : Int32) (x2 : Int32) (x3 : Int32), ∀ (H : Heap) (locs : List Loc) (ls : Array Slot), zz D vwCl (tyM cA tr) A (wM ad cA rs) s s.heap H locs σ → lv_has ls 4 [(0, .ref (ad 0)), (1, .int x1), (2, .int x2), (3, .int x3)] → fn_X6_worst_19 n σ x1 x2 x3 = some res → W p l e rm_X6_worst s m args below meth c H locs 0 0 (MQ below (va_Qi (fun r' u' => r' = res.1 ∧ u' = res.2) (zB D vwCl (tyM cA tr) A (wM ad cA rs)) A) args s 0 0 A) (F0 m 19 ls []) := by
  obtain ⟨hx, hb, hr, hml, hown, htt, hlocks, hnw⟩ := id C0
  intro n
  induction n with
  | zero => intro σ x1 x2 x3 H locs ls hZ hl hf; exact no_some hf
  | succ n ih =>
    intro σ x1 x2 x3 H locs ls hZ hl hf
    rw [fn_X6_worst_19] at hf
    refine lv_iload_n hx hb dX6_worst_19 rfl (lv_at hl 3 rfl) ?_
    refine lv_aload_n hx hb dX6_worst_20 rfl (lv_at hl 0 rfl) ?_
    refine z_get hx hb htt iw_X6 hown hZ 0 rfl rfl 22 (by decide) lf_X6_153 rfl dX6_worst_21 ?_
    refine lv_icmp_ge (tgt := 67) hx hb dX6_worst_24 (by decide) (fun c_1 => ?_) (fun c_1 => ?_)
    · have hf := ite_t c_1 hf
      exact wk_X6_worst_67 C0  σ x2 _ _ _ hZ (lv_sub hl [0, 2] rfl) hf
    · have hf := ite_f c_1 hf
      refine lv_aload_n hx hb dX6_worst_27 rfl (lv_at hl 0 rfl) ?_
      refine z_get hx hb htt iw_X6 hown hZ 0 rfl rfl 21 (by decide) lf_X6_156 rfl dX6_worst_28 ?_
      refine lv_if_ne (tgt := 67) hx hb dX6_worst_31 (by decide) (fun c_2 => ?_) (fun c_2 => ?_)
      · have hf := ite_f c_2 hf
        exact wk_X6_worst_67 C0  σ x2 _ _ _ hZ (lv_sub hl [0, 2] rfl) hf
      · have hf := ite_t c_2 hf
        refine lv_iload_n hx hb dX6_worst_34 rfl (lv_at hl 2 rfl) ?_
        refine lv_aload_n hx hb dX6_worst_35 rfl (lv_at hl 0 rfl) ?_
        refine z_get hx hb htt iw_X6 hown hZ 0 rfl rfl 4 (by decide) lf_X6_17 rfl dX6_worst_36 ?_
        refine lv_aload_n hx hb dX6_worst_39 rfl (lv_at hl 0 rfl) ?_
        refine z_get hx hb htt iw_X6 hown hZ 0 rfl rfl 23 (by decide) lf_X6_59 rfl dX6_worst_40 ?_
        refine lv_iconst (v := 4) hx hb dX6_worst_43 (by decide) ?_
        refine lv_iload_n hx hb dX6_worst_44 rfl (lv_at hl 3 rfl) ?_
        refine lv_imul hx hb dX6_worst_45 ?_
        refine lv_iconst (v := 1) hx hb dX6_worst_46 (by decide) ?_
        refine lv_iadd hx hb dX6_worst_47 ?_
        obtain ⟨h_3, hf⟩ := ck_s hf
        refine z_ild hx hb hZ 17 16 rfl rfl h_3 dX6_worst_48 ?_
        obtain ⟨h_4, hf⟩ := ck_s hf
        refine z_ild hx hb hZ 3 2 rfl rfl h_4 dX6_worst_49 ?_
        refine lv_iload_n hx hb dX6_worst_50 rfl (lv_at hl 1 rfl) ?_
        refine lv_icmp_ne (tgt := 58) hx hb dX6_worst_51 (by decide) (fun c_5 => ?_) (fun c_5 => ?_)
        · have hf := ite_f c_5 hf
          refine lv_iconst (v := 0) hx hb dX6_worst_58 (by decide) ?_
          refine lv_iadd hx hb dX6_worst_59 ?_
          refine lv_topi (fun v6 e_v6 => ?_)
          have hf := lt_n e_v6 hf
          refine lv_istore_n (lv' := [(2, .int v6), (0, .ref (ad 0)), (1, .int x1), (3, .int x3)]) hx hb dX6_worst_60 rfl hl (by decide) rfl (fun ls hl => ?_)
          obtain ⟨v7, e_v7⟩ : ∃ y : Int32, y = x3 + 1 := ⟨_, rfl⟩
          have hf := lt_n e_v7 hf
          refine lv_iinc (v := v7) (lv' := [(3, .int v7), (2, .int v6), (0, .ref (ad 0)), (1, .int x1)]) hx hb dX6_worst_61 hl (k := 3) rfl (by rw [e_v7]; rfl) (by decide) rfl (fun ls hl => ?_)
          refine lv_goto (tgt := 19) hx hb dX6_worst_64 (by decide) ?_
          exact ih σ x1 v6 v7 _ _ _ hZ (lv_sub hl [2, 3, 1, 0] rfl) hf
        · have hf := ite_t c_5 hf
          refine lv_iconst (v := 1) hx hb dX6_worst_54 (by decide) ?_
          refine lv_goto (tgt := 59) hx hb dX6_worst_55 (by decide) ?_
          refine lv_iadd hx hb dX6_worst_59 ?_
          refine lv_topi (fun v8 e_v8 => ?_)
          have hf := lt_n e_v8 hf
          refine lv_istore_n (lv' := [(2, .int v8), (0, .ref (ad 0)), (1, .int x1), (3, .int x3)]) hx hb dX6_worst_60 rfl hl (by decide) rfl (fun ls hl => ?_)
          obtain ⟨v9, e_v9⟩ : ∃ y : Int32, y = x3 + 1 := ⟨_, rfl⟩
          have hf := lt_n e_v9 hf
          refine lv_iinc (v := v9) (lv' := [(3, .int v9), (2, .int v8), (0, .ref (ad 0)), (1, .int x1)]) hx hb dX6_worst_61 hl (k := 3) rfl (by rw [e_v9]; rfl) (by decide) rfl (fun ls hl => ?_)
          refine lv_goto (tgt := 19) hx hb dX6_worst_64 (by decide) ?_
          exact ih σ x1 v8 v9 _ _ _ hZ (lv_sub hl [2, 3, 1, 0] rfl) hf
set_option maxHeartbeats 4000000 in
set_option maxRecDepth 100000 in
theorem ct_X6_worst (l : Launch) (D : va_G) (A : Nat → Prop) (ad : Nat → Nat) (cA : Nat → ClassId) (rs : va_W) (tr : List (ClassId × FieldType)) (σ : S2) (x1 : Int32) {res : Int32 × S2} (hf : fn_X6_worst σ x1 = some res) : Met l yX6_worst (.code yX6_worst cX6_worst 4 (some .int) :: tb) rm_X6_worst (va_Pc [.ref (ad 0), .int x1] (zN D vwCl (tyM cA tr) A (wM ad cA rs) nl σ)) (va_Qi (fun r' u' => r' = res.1 ∧ u' = res.2) (zB D vwCl (tyM cA tr) A (wM ad cA rs)) A) 0 0 A := by
  refine Met.ofW (cc := cX6_worst) (maxL := 4) (ret := (some .int)) (by decide) rfl ?_
  intro p e s m args below meth c s₁ B hml hv
  obtain ⟨rfl, hB, hnw0⟩ := hv
  have htt : ∀ w ∈ tb, w.before (([.ref (ad 0), .int x1] : List Value).toArray) s = true := fun w h => atoms_spec (ws := (.code yX6_worst cX6_worst 4 (some .int) :: tb)) B.pre w (List.mem_cons_of_mem _ h)
  have C0 : cx p m meth c cX6_worst (some .int) 4 s (([.ref (ad 0), .int x1] : List Value).toArray) tb nl RX6 := ⟨B.exec, B.bytes, B.returns, hml, findClass_of_methodNamed B.named, htt, B.notSynchronized, hnw0⟩
  obtain ⟨hx, hb, hr, hml, hown, htt, hlocks, hnw⟩ := id C0
  have hZ := z_start hB
  have hl := lv_entry ([.ref (ad 0), .int x1]) (n := 4) (Nat.le_of_ble_eq_true rfl)
  rw [lg_entry_eq]
  generalize (lg_sl ([.ref (ad 0), .int x1]) ++ List.replicate (4 - (lg_sl ([.ref (ad 0), .int x1])).length) Slot.unset).toArray = ls at hl ⊢
  have hl : lv_has ls 4 [(0, .ref (ad 0)), (1, .int x1)] := hl
  unfold fn_X6_worst at hf
  refine lv_iload_n hx hb dX6_worst_0 rfl (lv_at hl 1 rfl) ?_
  refine lv_iconst (v := 0) hx hb dX6_worst_1 (by decide) ?_
  refine lv_iconst (v := 2) hx hb dX6_worst_2 (by decide) ?_
  refine z_pcalli (z_runS (As := [.int x1, .int 0, .int 2]) (rest := []) ⟨hx, hb, hml, hown, htt⟩ gT (ct_X6_in l x1 0 2 rfl) md_X6_in lm_X6_66 rfl rfl ⟨Nat.le_of_ble_eq_true rfl, Nat.le_of_ble_eq_true rfl⟩ z_preP rfl rfl hl.1 rfl (lv_room (Nat.le_of_ble_eq_true rfl)) dX6_worst_3 ⟨Nat.le_of_ble_eq_true rfl, Nat.le_of_ble_eq_true rfl⟩) ?_
  refine lv_topi (fun r1 e_r1 => ?_)
  have hf := lt_n e_r1 hf
  refine lv_if_ne (tgt := 11) hx hb dX6_worst_6 (by decide) (fun c_2 => ?_) (fun c_2 => ?_)
  · have hf := ite_f c_2 hf
    refine lv_aload_n hx hb dX6_worst_11 rfl (lv_at hl 0 rfl) ?_
    obtain ⟨σ4, k_3, hf⟩ := bn_s hf
    refine z_callv (u := σ4) (z_runV (As := []) (rest := []) ⟨hx, hb, hml, hown, htt⟩ gT (ct_X6_make l D A ad cA rs tr σ  k_3) md_X6_make lm_X6_163 rfl rfl ⟨Nat.le_of_ble_eq_true rfl, Nat.le_of_ble_eq_true rfl⟩ (z_preV gN hnw hZ rfl (q0 := 0) (ci := 6) rfl) rfl rfl hl.1 rfl (lv_room (Nat.le_of_ble_eq_true rfl)) dX6_worst_12 ⟨Nat.le_of_ble_eq_true rfl, Nat.le_of_ble_eq_true rfl⟩) hZ (fun H locs hZ => ?_)
    refine lv_iconst (v := 0) hx hb dX6_worst_15 (by decide) ?_
    refine lv_istore_n (lv' := [(2, .int 0), (0, .ref (ad 0)), (1, .int x1)]) hx hb dX6_worst_16 rfl hl (by decide) rfl (fun ls hl => ?_)
    refine lv_iconst (v := 0) hx hb dX6_worst_17 (by decide) ?_
    refine lv_istore_n (lv' := [(3, .int 0), (2, .int 0), (0, .ref (ad 0)), (1, .int x1)]) hx hb dX6_worst_18 rfl hl (by decide) rfl (fun ls hl => ?_)
    exact wk_X6_worst_19 C0  fu σ4 x1 0 0 _ _ _ hZ (lv_sub hl [2, 3, 1, 0] rfl) hf
  · have hf := ite_t c_2 hf
    refine lv_iconst (v := (-1)) hx hb dX6_worst_9 (by decide) ?_
    exact z_iret hx hb hr hlocks hZ (sp_1 hf) (sp_2 hf) dX6_worst_10
