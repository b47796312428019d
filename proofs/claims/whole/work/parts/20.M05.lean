abbrev rm_X6_isReady : Room := { frames := 1, cells := 0, slots := 0, locals := 20 }
def fn_X6_isReady_4 : Nat → S2 → Int32 → Int32 → Int32 → Option (Int32)
  | 0, _, _, _, _ => none
  | n + 1, σ, x1, x2, x3 => if (σ.1 23 0) ≤ x3 then cb x2 (some x2) else ck x3 40 (if (σ.1 7 (x3).toNatClampNeg) = x1 then ck x3 40 (lt (fn_X6_namesOne (σ.1 8 (x3).toNatClampNeg)) (fun r7 => if r7 = 0 then lt (x3 + 1) (fun v9 => fn_X6_isReady_4 n σ x1 x2 v9) else if x2 = 0 then lt (x3 + 1) (fun v11 => fn_X6_isReady_4 n σ x1 0 v11) else ck x3 40 (ck (σ.1 9 (x3).toNatClampNeg) 12 (if (σ.1 13 ((σ.1 9 (x3).toNatClampNeg)).toNatClampNeg) = 0 then lt (x3 + 1) (fun v15 => fn_X6_isReady_4 n σ x1 0 v15) else ck x3 40 (lt (fn_X6_namesTwo (σ.1 8 (x3).toNatClampNeg)) (fun r17 => if r17 = 0 then lt (x3 + 1) (fun v19 => fn_X6_isReady_4 n σ x1 1 v19) else ck x3 40 (ck (σ.1 10 (x3).toNatClampNeg) 12 (if (σ.1 13 ((σ.1 10 (x3).toNatClampNeg)).toNatClampNeg) = 0 then lt (x3 + 1) (fun v23 => fn_X6_isReady_4 n σ x1 0 v23) else lt (x3 + 1) (fun v24 => fn_X6_isReady_4 n σ x1 1 v24))))))))) else lt (x3 + 1) (fun v5 => fn_X6_isReady_4 n σ x1 x2 v5))
def fn_X6_isReady (σ : S2) (x1 : Int32) : Option (Int32) := fn_X6_isReady_4 fu σ x1 1 0
set_option maxHeartbeats 4000000 in
set_option maxRecDepth 100000 in
theorem wk_X6_isReady_4 {p : Program} {l : Launch} {e : Env} {s : State} {m : MethodId} {args : Array Value} {below : List Frame} {meth : Method} {c : Code} {D : va_G} {A : Nat → Prop} {ad : Nat → Nat} {cA : Nat → ClassId} {rs : va_W} {tr : List (ClassId × FieldType)} {σ : S2} {res : Int32} (C0 : cx p m meth c cX6_isReady (some .boolean) 4 s args tb nl RX6) : ∀ (n : Nat) (x1 : Int32) (x2 : Int32) (x3 : Int32), ∀ (H : Heap) (locs : List Loc) (ls : Array Slot), zz D vwCl (tyM cA tr) A (wM ad cA rs) s s.heap H locs σ → lv_has ls 4 [(0, .ref (ad 0)), (1, .int x1), (2, .int x2), (3, .int x3)] → fn_X6_isReady_4 n σ x1 x2 x3 = some res → W p l e rm_X6_isReady s m args below meth c H locs 0 0 (MQ below (va_Qi (fun r' u' => r' = res ∧ u' = σ) (zB D vwCl (tyM cA tr) A (wM ad cA rs)) A) args s 0 0 A) (F0 m 4 ls []) := by
  obtain ⟨hx, hb, hr, hml, hown, htt, hlocks, hnw⟩ := id C0
  intro n
  induction n with
  | zero => intro x1 x2 x3 H locs ls hZ hl hf; exact no_some hf
  | succ n ih =>
    intro x1 x2 x3 H locs ls hZ hl hf
    rw [fn_X6_isReady_4] at hf
    refine lv_iload_n hx hb dX6_isReady_4 rfl (lv_at hl 3 rfl) ?_
    refine lv_aload_n hx hb dX6_isReady_5 rfl (lv_at hl 0 rfl) ?_
    refine z_get hx hb htt iw_X6 hown hZ 0 rfl rfl 9 (by decide) lf_X6_90 rfl dX6_isReady_6 ?_
    refine lv_icmp_ge (tgt := 90) hx hb dX6_isReady_9 (by decide) (fun c_1 => ?_) (fun c_1 => ?_)
    · have hf := ite_t c_1 hf
      refine lv_iload_n hx hb dX6_isReady_90 rfl (lv_at hl 2 rfl) ?_
      obtain ⟨h_2, hf⟩ := cb_s hf
      exact z_zret hx hb hr hlocks hZ h_2 (Option.some.inj hf) rfl dX6_isReady_91
    · have hf := ite_f c_1 hf
      refine lv_aload_n hx hb dX6_isReady_12 rfl (lv_at hl 0 rfl) ?_
      refine z_get hx hb htt iw_X6 hown hZ 0 rfl rfl 10 (by decide) lf_X6_29 rfl dX6_isReady_13 ?_
      refine lv_iload_n hx hb dX6_isReady_16 rfl (lv_at hl 3 rfl) ?_
      obtain ⟨h_3, hf⟩ := ck_s hf
      refine z_ild hx hb hZ 7 6 rfl rfl h_3 dX6_isReady_17 ?_
      refine lv_iload_n hx hb dX6_isReady_18 rfl (lv_at hl 1 rfl) ?_
      refine lv_icmp_ne (tgt := 84) hx hb dX6_isReady_19 (by decide) (fun c_4 => ?_) (fun c_4 => ?_)
      · have hf := ite_f c_4 hf
        obtain ⟨v5, e_v5⟩ : ∃ y : Int32, y = x3 + 1 := ⟨_, rfl⟩
        have hf := lt_n e_v5 hf
        refine lv_iinc (v := v5) (lv' := [(3, .int v5), (0, .ref (ad 0)), (1, .int x1), (2, .int x2)]) hx hb dX6_isReady_84 hl (k := 3) rfl (by rw [e_v5]; rfl) (by decide) rfl (fun ls hl => ?_)
        refine lv_goto (tgt := 4) hx hb dX6_isReady_87 (by decide) ?_
        exact ih x1 x2 v5 _ _ _ hZ (lv_sub hl [1, 2, 3, 0] rfl) hf
      · have hf := ite_t c_4 hf
        refine lv_aload_n hx hb dX6_isReady_22 rfl (lv_at hl 0 rfl) ?_
        refine z_get hx hb htt iw_X6 hown hZ 0 rfl rfl 11 (by decide) lf_X6_32 rfl dX6_isReady_23 ?_
        refine lv_iload_n hx hb dX6_isReady_26 rfl (lv_at hl 3 rfl) ?_
        obtain ⟨h_6, hf⟩ := ck_s hf
        refine z_ild hx hb hZ 8 7 rfl rfl h_6 dX6_isReady_27 ?_
        refine z_pcalli (z_runS (As := [.int (σ.1 8 (x3).toNatClampNeg)]) (rest := []) ⟨hx, hb, hml, hown, htt⟩ gT (ct_X6_namesOne l (σ.1 8 (x3).toNatClampNeg) rfl) md_X6_namesOne lm_X6_93 rfl rfl ⟨Nat.le_of_ble_eq_true rfl, Nat.le_of_ble_eq_true rfl⟩ z_preP rfl rfl hl.1 rfl (lv_room (Nat.le_of_ble_eq_true rfl)) dX6_isReady_28 ⟨Nat.le_of_ble_eq_true rfl, Nat.le_of_ble_eq_true rfl⟩) ?_
        refine lv_topi (fun r7 e_r7 => ?_)
        have hf := lt_n e_r7 hf
        refine lv_if_eq (tgt := 84) hx hb dX6_isReady_31 (by decide) (fun c_8 => ?_) (fun c_8 => ?_)
        · have hf := ite_t c_8 hf
          obtain ⟨v9, e_v9⟩ : ∃ y : Int32, y = x3 + 1 := ⟨_, rfl⟩
          have hf := lt_n e_v9 hf
          refine lv_iinc (v := v9) (lv' := [(3, .int v9), (0, .ref (ad 0)), (1, .int x1), (2, .int x2)]) hx hb dX6_isReady_84 hl (k := 3) rfl (by rw [e_v9]; rfl) (by decide) rfl (fun ls hl => ?_)
          refine lv_goto (tgt := 4) hx hb dX6_isReady_87 (by decide) ?_
          exact ih x1 x2 v9 _ _ _ hZ (lv_sub hl [1, 2, 3, 0] rfl) hf
        · have hf := ite_f c_8 hf
          refine lv_iload_n hx hb dX6_isReady_34 rfl (lv_at hl 2 rfl) ?_
          refine lv_if_eq (tgt := 82) hx hb dX6_isReady_35 (by decide) (fun c_10 => ?_) (fun c_10 => ?_)
          · have hf := ite_t c_10 hf
            refine lv_iconst (v := 0) hx hb dX6_isReady_82 (by decide) ?_
            refine lv_istore_n (lv' := [(2, .int 0), (0, .ref (ad 0)), (1, .int x1), (3, .int x3)]) hx hb dX6_isReady_83 rfl hl (by decide) rfl (fun ls hl => ?_)
            obtain ⟨v11, e_v11⟩ : ∃ y : Int32, y = x3 + 1 := ⟨_, rfl⟩
            have hf := lt_n e_v11 hf
            refine lv_iinc (v := v11) (lv' := [(3, .int v11), (2, .int 0), (0, .ref (ad 0)), (1, .int x1)]) hx hb dX6_isReady_84 hl (k := 3) rfl (by rw [e_v11]; rfl) (by decide) rfl (fun ls hl => ?_)
            refine lv_goto (tgt := 4) hx hb dX6_isReady_87 (by decide) ?_
            exact ih x1 0 v11 _ _ _ hZ (lv_sub hl [2, 3, 1, 0] rfl) hf
          · have hf := ite_f c_10 hf
            refine lv_aload_n hx hb dX6_isReady_38 rfl (lv_at hl 0 rfl) ?_
            refine z_get hx hb htt iw_X6 hown hZ 0 rfl rfl 16 (by decide) lf_X6_47 rfl dX6_isReady_39 ?_
            refine lv_aload_n hx hb dX6_isReady_42 rfl (lv_at hl 0 rfl) ?_
            refine z_get hx hb htt iw_X6 hown hZ 0 rfl rfl 12 (by decide) lf_X6_35 rfl dX6_isReady_43 ?_
            refine lv_iload_n hx hb dX6_isReady_46 rfl (lv_at hl 3 rfl) ?_
            obtain ⟨h_12, hf⟩ := ck_s hf
            refine z_ild hx hb hZ 9 8 rfl rfl h_12 dX6_isReady_47 ?_
            obtain ⟨h_13, hf⟩ := ck_s hf
            refine z_zld hx hb hZ 13 12 rfl rfl h_13 dX6_isReady_48 ?_
            refine lv_if_eq (tgt := 82) hx hb dX6_isReady_49 (by decide) (fun c_14 => ?_) (fun c_14 => ?_)
            · have hf := ite_t c_14 hf
              refine lv_iconst (v := 0) hx hb dX6_isReady_82 (by decide) ?_
              refine lv_istore_n (lv' := [(2, .int 0), (0, .ref (ad 0)), (1, .int x1), (3, .int x3)]) hx hb dX6_isReady_83 rfl hl (by decide) rfl (fun ls hl => ?_)
              obtain ⟨v15, e_v15⟩ : ∃ y : Int32, y = x3 + 1 := ⟨_, rfl⟩
              have hf := lt_n e_v15 hf
              refine lv_iinc (v := v15) (lv' := [(3, .int v15), (2, .int 0), (0, .ref (ad 0)), (1, .int x1)]) hx hb dX6_isReady_84 hl (k := 3) rfl (by rw [e_v15]; rfl) (by decide) rfl (fun ls hl => ?_)
              refine lv_goto (tgt := 4) hx hb dX6_isReady_87 (by decide) ?_
              exact ih x1 0 v15 _ _ _ hZ (lv_sub hl [2, 3, 1, 0] rfl) hf
            · have hf := ite_f c_14 hf
              refine lv_aload_n hx hb dX6_isReady_52 rfl (lv_at hl 0 rfl) ?_
              refine z_get hx hb htt iw_X6 hown hZ 0 rfl rfl 11 (by decide) lf_X6_32 rfl dX6_isReady_53 ?_
              refine lv_iload_n hx hb dX6_isReady_56 rfl (lv_at hl 3 rfl) ?_
              obtain ⟨h_16, hf⟩ := ck_s hf
              refine z_ild hx hb hZ 8 7 rfl rfl h_16 dX6_isReady_57 ?_
              refine z_pcalli (z_runS (As := [.int (σ.1 8 (x3).toNatClampNeg)]) (rest := []) ⟨hx, hb, hml, hown, htt⟩ gT (ct_X6_namesTwo l (σ.1 8 (x3).toNatClampNeg) rfl) md_X6_namesTwo lm_X6_96 rfl rfl ⟨Nat.le_of_ble_eq_true rfl, Nat.le_of_ble_eq_true rfl⟩ z_preP rfl rfl hl.1 rfl (lv_room (Nat.le_of_ble_eq_true rfl)) dX6_isReady_58 ⟨Nat.le_of_ble_eq_true rfl, Nat.le_of_ble_eq_true rfl⟩) ?_
              refine lv_topi (fun r17 e_r17 => ?_)
              have hf := lt_n e_r17 hf
              refine lv_if_eq (tgt := 78) hx hb dX6_isReady_61 (by decide) (fun c_18 => ?_) (fun c_18 => ?_)
              · have hf := ite_t c_18 hf
                refine lv_iconst (v := 1) hx hb dX6_isReady_78 (by decide) ?_
                refine lv_goto (tgt := 83) hx hb dX6_isReady_79 (by decide) ?_
                refine lv_istore_n (lv' := [(2, .int 1), (0, .ref (ad 0)), (1, .int x1), (3, .int x3)]) hx hb dX6_isReady_83 rfl hl (by decide) rfl (fun ls hl => ?_)
                obtain ⟨v19, e_v19⟩ : ∃ y : Int32, y = x3 + 1 := ⟨_, rfl⟩
                have hf := lt_n e_v19 hf
                refine lv_iinc (v := v19) (lv' := [(3, .int v19), (2, .int 1), (0, .ref (ad 0)), (1, .int x1)]) hx hb dX6_isReady_84 hl (k := 3) rfl (by rw [e_v19]; rfl) (by decide) rfl (fun ls hl => ?_)
                refine lv_goto (tgt := 4) hx hb dX6_isReady_87 (by decide) ?_
                exact ih x1 1 v19 _ _ _ hZ (lv_sub hl [2, 3, 1, 0] rfl) hf
              · have hf := ite_f c_18 hf
                refine lv_aload_n hx hb dX6_isReady_64 rfl (lv_at hl 0 rfl) ?_
                refine z_get hx hb htt iw_X6 hown hZ 0 rfl rfl 16 (by decide) lf_X6_47 rfl dX6_isReady_65 ?_
                refine lv_aload_n hx hb dX6_isReady_68 rfl (lv_at hl 0 rfl) ?_
                refine z_get hx hb htt iw_X6 hown hZ 0 rfl rfl 13 (by decide) lf_X6_38 rfl dX6_isReady_69 ?_
                refine lv_iload_n hx hb dX6_isReady_72 rfl (lv_at hl 3 rfl) ?_
                obtain ⟨h_20, hf⟩ := ck_s hf
                refine z_ild hx hb hZ 10 9 rfl rfl h_20 dX6_isReady_73 ?_
                obtain ⟨h_21, hf⟩ := ck_s hf
                refine z_zld hx hb hZ 13 12 rfl rfl h_21 dX6_isReady_74 ?_
                refine lv_if_eq (tgt := 82) hx hb dX6_isReady_75 (by decide) (fun c_22 => ?_) (fun c_22 => ?_)
                · have hf := ite_t c_22 hf
                  refine lv_iconst (v := 0) hx hb dX6_isReady_82 (by decide) ?_
                  refine lv_istore_n (lv' := [(2, .int 0), (0, .ref (ad 0)), (1, .int x1), (3, .int x3)]) hx hb dX6_isReady_83 rfl hl (by decide) rfl (fun ls hl => ?_)
                  obtain ⟨v23, e_v23⟩ : ∃ y : Int32, y = x3 + 1 := ⟨_, rfl⟩
                  have hf := lt_n e_v23 hf
                  refine lv_iinc (v := v23) (lv' := [(3, .int v23), (2, .int 0), (0, .ref (ad 0)), (1, .int x1)]) hx hb dX6_isReady_84 hl (k := 3) rfl (by rw [e_v23]; rfl) (by decide) rfl (fun ls hl => ?_)
                  refine lv_goto (tgt := 4) hx hb dX6_isReady_87 (by decide) ?_
                  exact ih x1 0 v23 _ _ _ hZ (lv_sub hl [2, 3, 1, 0] rfl) hf
                · have hf := ite_f c_22 hf
                  refine lv_iconst (v := 1) hx hb dX6_isReady_78 (by decide) ?_
                  refine lv_goto (tgt := 83) hx hb dX6_isReady_79 (by decide) ?_
                  refine lv_istore_n (lv' := [(2, .int 1), (0, .ref (ad 0)), (1, .int x1), (3, .int x3)]) hx hb dX6_isReady_83 rfl hl (by decide) rfl (fun ls hl => ?_)
                  obtain ⟨v24, e_v24⟩ : ∃ y : Int32, y = x3 + 1 := ⟨_, rfl⟩
                  have hf := lt_n e_v24 hf
                  refine lv_iinc (v := v24) (lv' := [(3, .int v24), (2, .int 1), (0, .ref (ad 0)), (1, .int x1)]) hx hb dX6_isReady_84 hl (k := 3) rfl (by rw [e_v24]; rfl) (by decide) rfl (fun ls hl => ?_)
                  refine lv_goto (tgt := 4) hx hb dX6_isReady_87 (by decide) ?_
                  exact ih x1 1 v24 _ _ _ hZ (lv_sub hl [2, 3, 1, 0] rfl) hf
set_option maxHeartbeats 4000000 in
set_option maxRecDepth 100000 in
theorem ct_X6_isReady (l : Launch) (D : va_G) (A : Nat → Prop) (ad : Nat → Nat) (cA : Nat → ClassId) (rs : va_W) (tr : List (ClassId × FieldType)) (σ : S2) (x1 : Int32) {res : Int32} (hf : fn_X6_isReady σ x1 = some res) : Met l yX6_isReady (.code yX6_isReady cX6_isReady 4 (some .boolean) :: tb) rm_X6_isReady (va_Pc [.ref (ad 0), .int x1] (zN D vwCl (tyM cA tr) A (wM ad cA rs) nl σ)) (va_Qi (fun r' u' => r' = res ∧ u' = σ) (zB D vwCl (tyM cA tr) A (wM ad cA rs)) A) 0 0 A := by
  refine Met.ofW (cc := cX6_isReady) (maxL := 4) (ret := (some .boolean)) (by decide) rfl ?_
  intro p e s m args below meth c s₁ B hml hv
  obtain ⟨rfl, hB, hnw0⟩ := hv
  have htt : ∀ w ∈ tb, w.before (([.ref (ad 0), .int x1] : List Value).toArray) s = true := fun w h => atoms_spec (ws := (.code yX6_isReady cX6_isReady 4 (some .boolean) :: tb)) B.pre w (List.mem_cons_of_mem _ h)
  have C0 : cx p m meth c cX6_isReady (some .boolean) 4 s (([.ref (ad 0), .int x1] : List Value).toArray) tb nl RX6 := ⟨B.exec, B.bytes, B.returns, hml, findClass_of_methodNamed B.named, htt, B.notSynchronized, hnw0⟩
  obtain ⟨hx, hb, hr, hml, hown, htt, hlocks, hnw⟩ := id C0
  have hZ := z_start hB
  have hl := lv_entry ([.ref (ad 0), .int x1]) (n := 4) (Nat.le_of_ble_eq_true rfl)
  rw [lg_entry_eq]
  generalize (lg_sl ([.ref (ad 0), .int x1]) ++ List.replicate (4 - (lg_sl ([.ref (ad 0), .int x1])).length) Slot.unset).toArray = ls at hl ⊢
  have hl : lv_has ls 4 [(0, .ref (ad 0)), (1, .int x1)] := hl
  unfold fn_X6_isReady at hf
  refine lv_iconst (v := 1) hx hb dX6_isReady_0 (by decide) ?_
  refine lv_istore_n (lv' := [(2, .int 1), (0, .ref (ad 0)), (1, .int x1)]) hx hb dX6_isReady_1 rfl hl (by decide) rfl (fun ls hl => ?_)
  refine lv_iconst (v := 0) hx hb dX6_isReady_2 (by decide) ?_
  refine lv_istore_n (lv' := [(3, .int 0), (2, .int 1), (0, .ref (ad 0)), (1, .int x1)]) hx hb dX6_isReady_3 rfl hl (by decide) rfl (fun ls hl => ?_)
  exact wk_X6_isReady_4 C0  fu x1 1 0 _ _ _ hZ (lv_sub hl [2, 3, 1, 0] rfl) hf
abbrev rm_X6_settle : Room := { frames := 4, cells := 0, slots := 0, locals := 101 }
def fn_X6_settle_59 (K2 : S2 → Int32 → Int32 → Option (S2)) (σ : S2) (x1 : Int32) (x2 : Int32) (x3 : Int32) : Option (S2) := ck ((32 * x1) + x2) 384 (lt (st σ 11 (((32 * x1) + x2)).toNatClampNeg (vp_nar .boolean x3)) (fun σ2 => lt (x2 + 1) (fun v3 => K2 σ2 x1 v3)))
def fn_X6_settle_13 (K2 : S2 → Int32 → Int32 → Option (S2)) : Nat → S2 → Int32 → Int32 → Int32 → Int32 → Option (S2)
  | 0, _, _, _, _, _ => none
  | n + 1, σ, x1, x2, x3, x4 => if (σ.1 23 0) ≤ x4 then fn_X6_settle_59 K2 σ x1 x2 x3 else if x3 = 0 then fn_X6_settle_59 K2 σ x1 x2 x3 else ck x4 40 (if (σ.1 7 (x4).toNatClampNeg) = x1 then bn2 (fn_X6_look σ x4 x2) (fun r8 σ7 => if r8 = 0 then lt (x4 + 1) (fun v11 => fn_X6_settle_13 K2 n σ7 x1 x2 1 v11) else lt (x4 + 1) (fun v10 => fn_X6_settle_13 K2 n σ7 x1 x2 0 v10)) else lt (x4 + 1) (fun v5 => fn_X6_settle_13 K2 n σ x1 x2 1 v5))
def fn_X6_settle_2 : Nat → S2 → Int32 → Int32 → Option (S2)
  | 0, _, _, _ => none
  | n + 1, σ, x1, x2 => if 32 ≤ x2 then ck x1 12 (lt (st σ 13 (x1).toNatClampNeg 1) (fun σ3 => some σ3)) else fn_X6_settle_13 (fn_X6_settle_2 n) fu σ x1 x2 1 0
def fn_X6_settle (σ : S2) (x1 : Int32) : Option (S2) := fn_X6_settle_2 fu σ x1 0
set_option maxHeartbeats 4000000 in
set_option maxRecDepth 100000 in
theorem wk_X6_settle_59 {p : Program} {l : Launch} {e : Env} {s : State} {m : MethodId} {args : Array Value} {below : List Frame} {meth : Method} {c : Code} {D : va_G} {A : Nat → Prop} {ad : Nat → Nat} {cA : Nat → ClassId} {rs : va_W} {tr : List (ClassId × FieldType)} {res : S2} (C0 : cx p m meth c cX6_settle none 5 s args tb nl RX6) (K2 : S2 → Int32 → Int32 → Option (S2)) (hK2 : ∀ (σ : S2) (x1 : Int32) (x2 : Int32), ∀ (H : Heap) (locs : List Loc) (ls : Array Slot), zz D vwCl (tyM cA tr) A (wM ad cA rs) s s.heap H locs σ → lv_has ls 5 [(0, .ref (ad 0)), (1, .int x1), (2, .int x2)] → K2 σ x1 x2 = some res → W p l e rm_X6_settle s m args below meth c H locs 0 0 (MQ below (va_Qv (fun u' => u' = res) (zB D vwCl (tyM cA tr) A (wM ad cA rs)) A) args s 0 0 A) (F0 m 2 ls [])) : ∀ (σ : S2) (x1 : Int32) (x2 : Int32) (x3 : Int32), ∀ (H : Heap) (locs : List Loc) (ls : Array Slot), zz D vwCl (tyM cA tr) A (wM ad cA rs) s s.heap H locs σ → lv_has ls 5 [(0, .ref (ad 0)), (1, .int x1), (2, .int x2), (3, .int x3)] → fn_X6_settle_59 K2 σ x1 x2 x3 = some res → W p l e rm_X6_settle s m args below meth c H locs 0 0 (MQ below (va_Qv (fun u' => u' = res) (zB D vwCl (tyM cA tr) A (wM ad cA rs)) A) args s 0 0 A) (F0 m 59 ls []) := by
  obtain ⟨hx, hb, hr, hml, hown, htt, hlocks, hnw⟩ := id C0
  intro σ x1 x2 x3 H locs ls hZ hl hf
  unfold fn_X6_settle_59 at hf
  refine lv_aload_n hx hb dX6_settle_59 rfl (lv_at hl 0 rfl) ?_
  refine z_get hx hb htt iw_X6 hown hZ 0 rfl rfl 14 (by decide) lf_X6_41 rfl dX6_settle_60 ?_
  refine lv_bipush (v := 32) hx hb dX6_settle_63 (by decide) ?_
  refine lv_iload_n hx hb dX6_settle_65 rfl (lv_at hl 1 rfl) ?_
  refine lv_imul hx hb dX6_settle_66 ?_
  refine lv_iload_n hx hb dX6_settle_67 rfl (lv_at hl 2 rfl) ?_
  refine lv_iadd hx hb dX6_settle_68 ?_
  refine lv_iload_n hx hb dX6_settle_69 rfl (lv_at hl 3 rfl) ?_
  obtain ⟨h_1, hf⟩ := ck_s hf
  refine z_zst (σ' := st σ 11 (((32 * x1) + x2)).toNatClampNeg (vp_nar .boolean x3)) hx hb hZ 11 10 rfl rfl h_1 dX6_settle_70 rfl (fun σ2 H locs e_σ2 hZ => ?_)
  have hf := lt_n e_σ2 hf
  obtain ⟨v3, e_v3⟩ : ∃ y : Int32, y = x2 + 1 := ⟨_, rfl⟩
  have hf := lt_n e_v3 hf
  refine lv_iinc (v := v3) (lv' := [(2, .int v3), (0, .ref (ad 0)), (1, .int x1), (3, .int x3)]) hx hb dX6_settle_71 hl (k := 2) rfl (by rw [e_v3]; rfl) (by decide) rfl (fun ls hl => ?_)
  refine lv_goto (tgt := 2) hx hb dX6_settle_74 (by decide) ?_
  exact hK2 σ2 x1 v3 _ _ _ hZ (lv_sub hl [1, 2, 0] rfl) hf
set_option maxHeartbeats 4000000 in
set_option maxRecDepth 100000 in
theorem wk_X6_settle_13 {p : Program} {l : Launch} {e : Env} {s : State} {m : MethodId} {args : Array Value} {below : List Frame} {meth : Method} {c : Code} {D : va_G} {A : Nat → Prop} {ad : Nat → Nat} {cA : Nat → ClassId} {rs : va_W} {tr : List (ClassId × FieldType)} {res : S2} (C0 : cx p m meth c cX6_settle none 5 s args tb nl RX6) (K2 : S2 → Int32 → Int32 → Option (S2)) (hK2 : ∀ (σ : S2) (x1 : Int32) (x2 : Int32), ∀ (H : Heap) (locs : List Loc) (ls : Array Slot), zz D vwCl (tyM cA tr) A (wM ad cA rs) s s.heap H locs σ → lv_has ls 5 [(0, .ref (ad 0)), (1, .int x1), (2, .int x2)] → K2 σ x1 x2 = some res → W p l e rm_X6_settle s m args below meth c H locs 0 0 (MQ below (va_Qv (fun u' => u' = res) (zB D vwCl (tyM cA tr) A (wM ad cA rs)) A) args s 0 0 A) (F0 m 2 ls [])) : ∀ (n : Nat) (σ : S2) (x1 : Int32) (x2 : Int32) (x3 : Int32) (x4 : Int32), ∀ (H : Heap) (locs : List Loc) (ls : Array Slot), zz D vwCl (tyM cA tr) A (wM ad cA rs) s s.heap H locs σ → lv_has ls 5 [(0, .ref (ad 0)), (1, .int x1), (2, .int x2), (3, .int x3), (4, .int x4)] → fn_X6_settle_13 K2 n σ x1 x2 x3 x4 = some res → W p l e rm_X6_settle s m args below meth c H locs 0 0 (MQ below (va_Qv (fun u' => u' = res) (zB D vwCl (tyM cA tr) A (wM ad cA rs)) A) args s 0 0 A) (F0 m 13 ls []) := by
  obtain ⟨hx, hb, hr, hml, hown, htt, hlocks, hnw⟩ := id C0
  intro n
  induction n with
  | zero => intro σ x1 x2 x3 x4 H locs ls hZ hl hf; exact no_some hf
  | succ n ih =>
    intro σ x1 x2 x3 x4 H locs ls hZ hl hf
    rw [fn_X6_settle_13] at hf
    refine lv_iload hx hb dX6_settle_13 (lv_at hl 4 rfl) ?_
    refine lv_aload_n hx hb dX6_settle_15 rfl (lv_at hl 0 rfl) ?_
    refine z_get hx hb htt iw_X6 hown hZ 0 rfl rfl 9 (by decide) lf_X6_90 rfl dX6_settle_16 ?_
    refine lv_icmp_ge (tgt := 59) hx hb dX6_settle_19 (by decide) (fun c_1 => ?_) (fun c_1 => ?_)
    · have hf := ite_t c_1 hf
      exact wk_X6_settle_59 C0 K2 hK2 σ x1 x2 x3 _ _ _ hZ (lv_sub hl [0, 1, 2, 3] rfl) hf
    · have hf := ite_f c_1 hf
      refine lv_iload_n hx hb dX6_settle_22 rfl (lv_at hl 3 rfl) ?_
      refine lv_if_eq (tgt := 59) hx hb dX6_settle_23 (by decide) (fun c_2 => ?_) (fun c_2 => ?_)
      · have hf := ite_t c_2 hf
        exact wk_X6_settle_59 C0 K2 hK2 σ x1 x2 x3 _ _ _ hZ (lv_sub hl [0, 1, 2, 3] rfl) hf
      · have hf := ite_f c_2 hf
        refine lv_aload_n hx hb dX6_settle_26 rfl (lv_at hl 0 rfl) ?_
        refine z_get hx hb htt iw_X6 hown hZ 0 rfl rfl 10 (by decide) lf_X6_29 rfl dX6_settle_27 ?_
        refine lv_iload hx hb dX6_settle_30 (lv_at hl 4 rfl) ?_
        obtain ⟨h_3, hf⟩ := ck_s hf
        refine z_ild hx hb hZ 7 6 rfl rfl h_3 dX6_settle_32 ?_
        refine lv_iload_n hx hb dX6_settle_33 rfl (lv_at hl 1 rfl) ?_
        refine lv_icmp_ne (tgt := 47) hx hb dX6_settle_34 (by decide) (fun c_4 => ?_) (fun c_4 => ?_)
        · have hf := ite_f c_4 hf
          refine lv_iconst (v := 1) hx hb dX6_settle_47 (by decide) ?_
          refine lv_goto (tgt := 52) hx hb dX6_settle_48 (by decide) ?_
          refine lv_istore_n (lv' := [(3, .int 1), (0, .ref (ad 0)), (1, .int x1), (2, .int x2), (4, .int x4)]) hx hb dX6_settle_52 rfl hl (by decide) rfl (fun ls hl => ?_)
          obtain ⟨v5, e_v5⟩ : ∃ y : Int32, y = x4 + 1 := ⟨_, rfl⟩
          have hf := lt_n e_v5 hf
          refine lv_iinc (v := v5) (lv' := [(4, .int v5), (3, .int 1), (0, .ref (ad 0)), (1, .int x1), (2, .int x2)]) hx hb dX6_settle_53 hl (k := 4) rfl (by rw [e_v5]; rfl) (by decide) rfl (fun ls hl => ?_)
          refine lv_goto (tgt := 13) hx hb dX6_settle_56 (by decide) ?_
          exact ih σ x1 x2 1 v5 _ _ _ hZ (lv_sub hl [2, 3, 4, 1, 0] rfl) hf
        · have hf := ite_t c_4 hf
          refine lv_aload_n hx hb dX6_settle_37 rfl (lv_at hl 0 rfl) ?_
          refine lv_iload hx hb dX6_settle_38 (lv_at hl 4 rfl) ?_
          refine lv_iload_n hx hb dX6_settle_40 rfl (lv_at hl 2 rfl) ?_
          obtain ⟨r8, σ7, k_6, hf⟩ := bn2_s hf
          refine z_calli (r := r8) (u := σ7) (z_runV (As := [.int x4, .int x2]) (rest := []) ⟨hx, hb, hml, hown, htt⟩ gT (ct_X6_look l D A ad cA rs tr σ x4 x2 k_6) md_X6_look lm_X6_135 rfl rfl ⟨Nat.le_of_ble_eq_true rfl, Nat.le_of_ble_eq_true rfl⟩ (z_preV gN hnw hZ rfl (q0 := 0) (ci := 6) rfl) rfl rfl hl.1 rfl (lv_room (Nat.le_of_ble_eq_true rfl)) dX6_settle_41 ⟨Nat.le_of_ble_eq_true rfl, Nat.le_of_ble_eq_true rfl⟩) hZ (fun H locs hZ => ?_)
          refine lv_if_ne (tgt := 51) hx hb dX6_settle_44 (by decide) (fun c_9 => ?_) (fun c_9 => ?_)
          · have hf := ite_f c_9 hf
            refine lv_iconst (v := 0) hx hb dX6_settle_51 (by decide) ?_
            refine lv_istore_n (lv' := [(3, .int 0), (0, .ref (ad 0)), (1, .int x1), (2, .int x2), (4, .int x4)]) hx hb dX6_settle_52 rfl hl (by decide) rfl (fun ls hl => ?_)
            obtain ⟨v10, e_v10⟩ : ∃ y : Int32, y = x4 + 1 := ⟨_, rfl⟩
            have hf := lt_n e_v10 hf
            refine lv_iinc (v := v10) (lv' := [(4, .int v10), (3, .int 0), (0, .ref (ad 0)), (1, .int x1), (2, .int x2)]) hx hb dX6_settle_53 hl (k := 4) rfl (by rw [e_v10]; rfl) (by decide) rfl (fun ls hl => ?_)
            refine lv_goto (tgt := 13) hx hb dX6_settle_56 (by decide) ?_
            exact ih σ7 x1 x2 0 v10 _ _ _ hZ (lv_sub hl [2, 3, 4, 1, 0] rfl) hf
          · have hf := ite_t c_9 hf
            refine lv_iconst (v := 1) hx hb dX6_settle_47 (by decide) ?_
            refine lv_goto (tgt := 52) hx hb dX6_settle_48 (by decide) ?_
            refine lv_istore_n (lv' := [(3, .int 1), (0, .ref (ad 0)), (1, .int x1), (2, .int x2), (4, .int x4)]) hx hb dX6_settle_52 rfl hl (by decide) rfl (fun ls hl => ?_)
            obtain ⟨v11, e_v11⟩ : ∃ y : Int32, y = x4 + 1 := ⟨_, rfl⟩
            have hf := lt_n e_v11 hf
            refine lv_iinc (v := v11) (lv' := [(4, .int v11), (3, .int 1), (0, .ref (ad 0)), (1, .int x1), (2, .int x2)]) hx hb dX6_settle_53 hl (k := 4) rfl (by rw [e_v11]; rfl) (by decide) rfl (fun ls hl => ?_)
            refine lv_goto (tgt := 13) hx hb dX6_settle_56 (by decide) ?_
            exact ih σ7 x1 x2 1 v11 _ _ _ hZ (lv_sub hl [2, 3, 4, 1, 0] rfl) hf
set_option maxHeartbeats 4000000 in
set_option maxRecDepth 100000 in
theorem wk_X6_settle_2 {p : Program} {l : Launch} {e : Env} {s : State} {m : MethodId} {args : Array Value} {below : List Frame} {meth : Method} {c : Code} {D : va_G} {A : Nat → Prop} {ad : Nat → Nat} {cA : Nat → ClassId} {rs : va_W} {tr : List (ClassId × FieldType)} {res : S2} (C0 : cx p m meth c cX6_settle none 5 s args tb nl RX6) : ∀ (n : Nat) (σ : S2) (x1 : Int32) (x2 : Int32), ∀ (H : Heap) (locs : List Loc) (ls : Array Slot), zz D vwCl (tyM cA tr) A (wM ad cA rs) s s.heap H locs σ → lv_has ls 5 [(0, .ref (ad 0)), (1, .int x1), (2, .int x2)] → fn_X6_settle_2 n σ x1 x2 = some res → W p l e rm_X6_settle s m args below meth c H locs 0 0 (MQ below (va_Qv (fun u' => u' = res) (zB D vwCl (tyM cA tr) A (wM ad cA rs)) A) args s 0 0 A) (F0 m 2 ls []) := by
  obtain ⟨hx, hb, hr, hml, hown, htt, hlocks, hnw⟩ := id C0
  intro n
  induction n with
  | zero => intro σ x1 x2 H locs ls hZ hl hf; exact no_some hf
  | succ n ih =>
    intro σ x1 x2 H locs ls hZ hl hf
    rw [fn_X6_settle_2] at hf
    refine lv_iload_n hx hb dX6_settle_2 rfl (lv_at hl 2 rfl) ?_
    refine lv_bipush (v := 32) hx hb dX6_settle_3 (by decide) ?_
    refine lv_icmp_ge (tgt := 77) hx hb dX6_settle_5 (by decide) (fun c_1 => ?_) (fun c_1 => ?_)
    · have hf := ite_t c_1 hf
      refine lv_aload_n hx hb dX6_settle_77 rfl (lv_at hl 0 rfl) ?_
      refine z_get hx hb htt iw_X6 hown hZ 0 rfl rfl 16 (by decide) lf_X6_47 rfl dX6_settle_78 ?_
      refine lv_iload_n hx hb dX6_settle_81 rfl (lv_at hl 1 rfl) ?_
      refine lv_iconst (v := 1) hx hb dX6_settle_82 (by decide) ?_
      obtain ⟨h_2, hf⟩ := ck_s hf
      refine z_zst (σ' := st σ 13 (x1).toNatClampNeg 1) hx hb hZ 13 12 rfl rfl h_2 dX6_settle_83 rfl (fun σ3 H locs e_σ3 hZ => ?_)
      have hf := lt_n e_σ3 hf
      exact z_vret hx hb hr hlocks hZ (Option.some.inj hf) dX6_settle_84
    · have hf := ite_f c_1 hf
      refine lv_iconst (v := 1) hx hb dX6_settle_8 (by decide) ?_
      refine lv_istore_n (lv' := [(3, .int 1), (0, .ref (ad 0)), (1, .int x1), (2, .int x2)]) hx hb dX6_settle_9 rfl hl (by decide) rfl (fun ls hl => ?_)
      refine lv_iconst (v := 0) hx hb dX6_settle_10 (by decide) ?_
      refine lv_istore (lv' := [(4, .int 0), (3, .int 1), (0, .ref (ad 0)), (1, .int x1), (2, .int x2)]) hx hb dX6_settle_11 hl (by decide) rfl (fun ls hl => ?_)
      exact wk_X6_settle_13 C0 (fn_X6_settle_2 n) ih fu σ x1 x2 1 0 _ _ _ hZ (lv_sub hl [2, 3, 4, 1, 0] rfl) hf
set_option maxHeartbeats 4000000 in
set_option maxRecDepth 100000 in
theorem ct_X6_settle (l : Launch) (D : va_G) (A : Nat → Prop) (ad : Nat → Nat) (cA : Nat → ClassId) (rs : va_W) (tr : List (ClassId × FieldType)) (σ : S2) (x1 : Int32) {res : S2} (hf : fn_X6_settle σ x1 = some res) : Met l yX6_settle (.code yX6_settle cX6_settle 5 none :: tb) rm_X6_settle (va_Pc [.ref (ad 0), .int x1] (zN D vwCl (tyM cA tr) A (wM ad cA rs) nl σ)) (va_Qv (fun u' => u' = res) (zB D vwCl (tyM cA tr) A (wM ad cA rs)) A) 0 0 A := by
  refine Met.ofW (cc := cX6_settle) (maxL := 5) (ret := none) (by decide) rfl ?_
  intro p e s m args below meth c s₁ B hml hv
  obtain ⟨rfl, hB, hnw0⟩ := hv
  have htt : ∀ w ∈ tb, w.before (([.ref (ad 0), .int x1] : List Value).toArray) s = true := fun w h => atoms_spec (ws := (.code yX6_settle cX6_settle 5 none :: tb)) B.pre w (List.mem_cons_of_mem _ h)
  have C0 : cx p m meth c cX6_settle none 5 s (([.ref (ad 0), .int x1] : List Value).toArray) tb nl RX6 := ⟨B.exec, B.bytes, B.returns, hml, findClass_of_methodNamed B.named, htt, B.notSynchronized, hnw0⟩
  obtain ⟨hx, hb, hr, hml, hown, htt, hlocks, hnw⟩ := id C0
  have hZ := z_start hB
  have hl := lv_entry ([.ref (ad 0), .int x1]) (n := 5) (Nat.le_of_ble_eq_true rfl)
  rw [lg_entry_eq]
  generalize (lg_sl ([.ref (ad 0), .int x1]) ++ List.replicate (5 - (lg_sl ([.ref (ad 0), .int x1])).length) Slot.unset).toArray = ls at hl ⊢
  have hl : lv_has ls 5 [(0, .ref (ad 0)), (1, .int x1)] := hl
  unfold fn_X6_settle at hf
  refine lv_iconst (v := 0) hx hb dX6_settle_0 (by decide) ?_
  refine lv_istore_n (lv' := [(2, .int 0), (0, .ref (ad 0)), (1, .int x1)]) hx hb dX6_settle_1 rfl hl (by decide) rfl (fun ls hl => ?_)
  exact wk_X6_settle_2 C0  fu σ x1 0 _ _ _ hZ (lv_sub hl [1, 2, 0] rfl) hf
abbrev rm_X6_see : Room := { frames := 3, cells := 0, slots := 0, locals := 75 }
def fn_X6_see_101 (K63 : S2 → Int32 → Option (S2)) (K71 : S2 → Int32 → Int32 → Option (S2)) (K81 : S2 → Int32 → Int32 → Int32 → Option (S2)) : Nat → S2 → Int32 → Int32 → Int32 → Int32 → Option (S2)
  | 0, _, _, _, _, _ => none
  | n + 1, σ, x1, x2, x3, x4 => if 32 ≤ x4 then lt (x3 + 1) (fun v2 => K81 σ x1 x2 v2) else ck x2 40 (ck ((32 * (σ.1 7 (x2).toNatClampNeg)) + x3) 384 (if (σ.1 12 (((32 * (σ.1 7 (x2).toNatClampNeg)) + x3)).toNatClampNeg) = 0 then lt (x3 + 1) (fun v6 => K81 σ x1 x2 v6) else ck x2 40 (ck x2 40 (ck ((32 * (σ.1 9 (x2).toNatClampNeg)) + x4) 384 (if (σ.1 12 (((32 * (σ.1 9 (x2).toNatClampNeg)) + x4)).toNatClampNeg) = 0 then ck x2 40 (bn (fn_X6_isValue σ x3 (σ.1 7 (x2).toNatClampNeg) x4) (fun r16 => if r16 = 0 then ck ((32 * (σ.1 9 (x2).toNatClampNeg)) + x4) 384 (lt (st σ 12 (((32 * (σ.1 9 (x2).toNatClampNeg)) + x4)).toNatClampNeg 0) (fun σ19 => lt (x4 + 1) (fun v20 => fn_X6_see_101 K63 K71 K81 n σ19 x1 x2 x3 v20))) else ck ((32 * (σ.1 9 (x2).toNatClampNeg)) + x4) 384 (lt (st σ 12 (((32 * (σ.1 9 (x2).toNatClampNeg)) + x4)).toNatClampNeg 1) (fun σ22 => lt (x4 + 1) (fun v23 => fn_X6_see_101 K63 K71 K81 n σ22 x1 x2 x3 v23))))) else ck ((32 * (σ.1 9 (x2).toNatClampNeg)) + x4) 384 (lt (st σ 12 (((32 * (σ.1 9 (x2).toNatClampNeg)) + x4)).toNatClampNeg 1) (fun σ12 => lt (x4 + 1) (fun v13 => fn_X6_see_101 K63 K71 K81 n σ12 x1 x2 x3 v13))))))))
def fn_X6_see_10 (K2 : S2 → Int32 → Option (S2)) : Nat → S2 → Int32 → Int32 → Option (S2)
  | 0, _, _, _ => none
  | n + 1, σ, x1, x2 => if 32 ≤ x2 then lt (x1 + 1) (fun v2 => K2 σ v2) else if (σ.1 21 0) ≤ x1 then ck ((32 * x1) + x2) 384 (lt (st σ 12 (((32 * x1) + x2)).toNatClampNeg 0) (fun σ5 => lt (x2 + 1) (fun v6 => fn_X6_see_10 K2 n σ5 x1 v6))) else bn2 (fn_X6_isFor σ x1 x2) (fun r9 σ8 => if r9 = 0 then ck ((32 * x1) + x2) 384 (lt (st σ8 12 (((32 * x1) + x2)).toNatClampNeg 0) (fun σ12 => lt (x2 + 1) (fun v13 => fn_X6_see_10 K2 n σ12 x1 v13))) else ck ((32 * x1) + x2) 384 (lt (st σ8 12 (((32 * x1) + x2)).toNatClampNeg 1) (fun σ15 => lt (x2 + 1) (fun v16 => fn_X6_see_10 K2 n σ15 x1 v16))))
def fn_X6_see_81 (K63 : S2 → Int32 → Option (S2)) (K71 : S2 → Int32 → Int32 → Option (S2)) : Nat → S2 → Int32 → Int32 → Int32 → Option (S2)
  | 0, _, _, _, _ => none
  | n + 1, σ, x1, x2, x3 => if 32 ≤ x3 then lt (x2 + 1) (fun v2 => K71 σ x1 v2) else ck x2 40 (if (σ.1 8 (x2).toNatClampNeg) = 16 then fn_X6_see_101 K63 K71 (fn_X6_see_81 K63 K71 n) fu σ x1 x2 x3 0 else lt (x2 + 1) (fun v5 => K71 σ x1 v5))
def fn_X6_see_71 (K63 : S2 → Int32 → Option (S2)) : Nat → S2 → Int32 → Int32 → Option (S2)
  | 0, _, _, _ => none
  | n + 1, σ, x1, x2 => if (σ.1 23 0) ≤ x2 then lt (x1 + 1) (fun v2 => K63 σ v2) else fn_X6_see_81 K63 (fn_X6_see_71 K63 n) fu σ x1 x2 0
def fn_X6_see_63 : Nat → S2 → Int32 → Option (S2)
  | 0, _, _ => none
  | n + 1, σ, x1 => if 12 ≤ x1 then some σ else fn_X6_see_71 (fn_X6_see_63 n) fu σ x1 0
def fn_X6_see_2 : Nat → S2 → Int32 → Option (S2)
  | 0, _, _ => none
  | n + 1, σ, x1 => if 12 ≤ x1 then fn_X6_see_63 fu σ 0 else fn_X6_see_10 (fn_X6_see_2 n) fu σ x1 0
def fn_X6_see (σ : S2) : Option (S2) := fn_X6_see_2 fu σ 0
set_option maxHeartbeats 4000000 in
set_option maxRecDepth 100000 in
theorem wk_X6_see_101 {p : Program} {l : Launch} {e : Env} {s : State} {m : MethodId} {args : Array Value} {below : List Frame} {meth : Method} {c : Code} {D : va_G} {A : Nat → Prop} {ad : Nat → Nat} {cA : Nat → ClassId} {rs : va_W} {tr : List (ClassId × FieldType)} {res : S2} (C0 : cx p m meth c cX6_see none 5 s args tb nl RX6) (K63 : S2 → Int32 → Option (S2)) (hK63 : ∀ (σ : S2) (x1 : Int32), ∀ (H : Heap) (locs : List Loc) (ls : Array Slot), zz D vwCl (tyM cA tr) A (wM ad cA rs) s s.heap H locs σ → lv_has ls 5 [(0, .ref (ad 0)), (1, .int x1)] → K63 σ x1 = some res → W p l e rm_X6_see s m args below meth c H locs 0 0 (MQ below (va_Qv (fun u' => u' = res) (zB D vwCl (tyM cA tr) A (wM ad cA rs)) A) args s 0 0 A) (F0 m 63 ls [])) (K71 : S2 → Int32 → Int32 → Option (S2)) (hK71 : ∀ (σ : S2) (x1 : Int32) (x2 : Int32), ∀ (H : Heap) (locs : List Loc) (ls : Array Slot), zz D vwCl (tyM cA tr) A (wM ad cA rs) s s.heap H locs σ → lv_has ls 5 [(0, .ref (ad 0)), (1, .int x1), (2, .int x2)] → K71 σ x1 x2 = some res → W p l e rm_X6_see s m args below meth c H locs 0 0 (MQ below (va_Qv (fun u' => u' = res) (zB D vwCl (tyM cA tr) A (wM ad cA rs)) A) args s 0 0 A) (F0 m 71 ls [])) (K81 : S2 → Int32 → Int32 → Int32 → Option (S2)) (hK81 : ∀ (σ : S2) (x1 : Int32) (x2 : Int32) (x3 : Int32), ∀ (H : Heap) (locs : List Loc) (ls : Array Slot), zz D vwCl (tyM cA tr) A (wM ad cA rs) s s.heap H locs σ → lv_has ls 5 [(0, .ref (ad 0)), (1, .int x1), (2, .int x2), (3, .int x3)] → K81 σ x1 x2 x3 = some res → W p l e rm_X6_see s m args below meth c H locs 0 0 (MQ below (va_Qv (fun u' => u' = res) (zB D vwCl (tyM cA tr) A (wM ad cA rs)) A) args s 0 0 A) (F0 m 81 ls [])) : ∀ (n : Nat) (σ : S2) (x1 : Int32) (x2 : Int32) (x3 : Int32) (x4 : Int32), ∀ (H : Heap) (locs : List Loc) (ls : Array Slot), zz D vwCl (tyM cA tr) A (wM ad cA rs) s s.heap H locs σ → lv_has ls 5 [(0, .ref (ad 0)), (1, .int x1), (2, .int x2), (3, .int x3), (4, .int x4)] → fn_X6_see_101 K63 K71 K81 n σ x1 x2 x3 x4 = some res → W p l e rm_X6_see s m args below meth c H locs 0 0 (MQ below (va_Qv (fun u' => u' = res) (zB D vwCl (tyM cA tr) A (wM ad cA rs)) A) args s 0 0 A) (F0 m 101 ls []) := by
  obtain ⟨hx, hb, hr, hml, hown, htt, hlocks, hnw⟩ := id C0
  intro n
  induction n with
  | zero => intro σ x1 x2 x3 x4 H locs ls hZ hl hf; exact no_some hf
  | succ n ih =>
    intro σ x1 x2 x3 x4 H locs ls hZ hl hf
    rw [fn_X6_see_101] at hf
    refine lv_iload hx hb dX6_see_101 (lv_at hl 4 rfl) ?_
    refine lv_bipush (v := 32) hx hb dX6_see_103 (by decide) ?_
    refine lv_icmp_ge (tgt := 191) hx hb dX6_see_105 (by decide) (fun c_1 => ?_) (fun c_1 => ?_)
    · have hf := ite_t c_1 hf
      obtain ⟨v2, e_v2⟩ : ∃ y : Int32, y = x3 + 1 := ⟨_, rfl⟩
      have hf := lt_n e_v2 hf
      refine lv_iinc (v := v2) (lv' := [(3, .int v2), (0, .ref (ad 0)), (1, .int x1), (2, .int x2), (4, .int x4)]) hx hb dX6_see_191 hl (k := 3) rfl (by rw [e_v2]; rfl) (by decide) rfl (fun ls hl => ?_)
      refine lv_goto (tgt := 81) hx hb dX6_see_194 (by decide) ?_
      exact hK81 σ x1 x2 v2 _ _ _ hZ (lv_sub hl [1, 2, 3, 0] rfl) hf
    · have hf := ite_f c_1 hf
      refine lv_aload_n hx hb dX6_see_108 rfl (lv_at hl 0 rfl) ?_
      refine z_get hx hb htt iw_X6 hown hZ 0 rfl rfl 15 (by decide) lf_X6_44 rfl dX6_see_109 ?_
      refine lv_bipush (v := 32) hx hb dX6_see_112 (by decide) ?_
      refine lv_aload_n hx hb dX6_see_114 rfl (lv_at hl 0 rfl) ?_
      refine z_get hx hb htt iw_X6 hown hZ 0 rfl rfl 10 (by decide) lf_X6_29 rfl dX6_see_115 ?_
      refine lv_iload_n hx hb dX6_see_118 rfl (lv_at hl 2 rfl) ?_
      obtain ⟨h_3, hf⟩ := ck_s hf
      refine z_ild hx hb hZ 7 6 rfl rfl h_3 dX6_see_119 ?_
      refine lv_imul hx hb dX6_see_120 ?_
      refine lv_iload_n hx hb dX6_see_121 rfl (lv_at hl 3 rfl) ?_
      refine lv_iadd hx hb dX6_see_122 ?_
      obtain ⟨h_4, hf⟩ := ck_s hf
      refine z_zld hx hb hZ 12 11 rfl rfl h_4 dX6_see_123 ?_
      refine lv_if_eq (tgt := 191) hx hb dX6_see_124 (by decide) (fun c_5 => ?_) (fun c_5 => ?_)
      · have hf := ite_t c_5 hf
        obtain ⟨v6, e_v6⟩ : ∃ y : Int32, y = x3 + 1 := ⟨_, rfl⟩
        have hf := lt_n e_v6 hf
        refine lv_iinc (v := v6) (lv' := [(3, .int v6), (0, .ref (ad 0)), (1, .int x1), (2, .int x2), (4, .int x4)]) hx hb dX6_see_191 hl (k := 3) rfl (by rw [e_v6]; rfl) (by decide) rfl (fun ls hl => ?_)
        refine lv_goto (tgt := 81) hx hb dX6_see_194 (by decide) ?_
        exact hK81 σ x1 x2 v6 _ _ _ hZ (lv_sub hl [1, 2, 3, 0] rfl) hf
      · have hf := ite_f c_5 hf
        refine lv_aload_n hx hb dX6_see_127 rfl (lv_at hl 0 rfl) ?_
        refine z_get hx hb htt iw_X6 hown hZ 0 rfl rfl 15 (by decide) lf_X6_44 rfl dX6_see_128 ?_
        refine lv_bipush (v := 32) hx hb dX6_see_131 (by decide) ?_
        refine lv_aload_n hx hb dX6_see_133 rfl (lv_at hl 0 rfl) ?_
        refine z_get hx hb htt iw_X6 hown hZ 0 rfl rfl 12 (by decide) lf_X6_35 rfl dX6_see_134 ?_
        refine lv_iload_n hx hb dX6_see_137 rfl (lv_at hl 2 rfl) ?_
        obtain ⟨h_7, hf⟩ := ck_s hf
        refine z_ild hx hb hZ 9 8 rfl rfl h_7 dX6_see_138 ?_
        refine lv_imul hx hb dX6_see_139 ?_
        refine lv_iload hx hb dX6_see_140 (lv_at hl 4 rfl) ?_
        refine lv_iadd hx hb dX6_see_142 ?_
        refine lv_aload_n hx hb dX6_see_143 rfl (lv_at hl 0 rfl) ?_
        refine z_get hx hb htt iw_X6 hown hZ 0 rfl rfl 15 (by decide) lf_X6_44 rfl dX6_see_144 ?_
        refine lv_bipush (v := 32) hx hb dX6_see_147 (by decide) ?_
        refine lv_aload_n hx hb dX6_see_149 rfl (lv_at hl 0 rfl) ?_
        refine z_get hx hb htt iw_X6 hown hZ 0 rfl rfl 12 (by decide) lf_X6_35 rfl dX6_see_150 ?_
        refine lv_iload_n hx hb dX6_see_153 rfl (lv_at hl 2 rfl) ?_
        obtain ⟨h_8, hf⟩ := ck_s hf
        refine z_ild hx hb hZ 9 8 rfl rfl h_8 dX6_see_154 ?_
        refine lv_imul hx hb dX6_see_155 ?_
        refine lv_iload hx hb dX6_see_156 (lv_at hl 4 rfl) ?_
        refine lv_iadd hx hb dX6_see_158 ?_
        obtain ⟨h_9, hf⟩ := ck_s hf
        refine z_zld hx hb hZ 12 11 rfl rfl h_9 dX6_see_159 ?_
        refine lv_if_ne (tgt := 179) hx hb dX6_see_160 (by decide) (fun c_10 => ?_) (fun c_10 => ?_)
        · have hf := ite_f c_10 hf
          refine lv_iconst (v := 1) hx hb dX6_see_179 (by decide) ?_
          refine lv_goto (tgt := 184) hx hb dX6_see_180 (by decide) ?_
          obtain ⟨h_11, hf⟩ := ck_s hf
          refine z_zst (σ' := st σ 12 (((32 * (σ.1 9 (x2).toNatClampNeg)) + x4)).toNatClampNeg 1) hx hb hZ 12 11 rfl rfl h_11 dX6_see_184 rfl (fun σ12 H locs e_σ12 hZ => ?_)
          have hf := lt_n e_σ12 hf
          obtain ⟨v13, e_v13⟩ : ∃ y : Int32, y = x4 + 1 := ⟨_, rfl⟩
          have hf := lt_n e_v13 hf
          refine lv_iinc (v := v13) (lv' := [(4, .int v13), (0, .ref (ad 0)), (1, .int x1), (2, .int x2), (3, .int x3)]) hx hb dX6_see_185 hl (k := 4) rfl (by rw [e_v13]; rfl) (by decide) rfl (fun ls hl => ?_)
          refine lv_goto (tgt := 101) hx hb dX6_see_188 (by decide) ?_
          exact ih σ12 x1 x2 x3 v13 _ _ _ hZ (lv_sub hl [1, 2, 3, 4, 0] rfl) hf
        · have hf := ite_t c_10 hf
          refine lv_aload_n hx hb dX6_see_163 rfl (lv_at hl 0 rfl) ?_
          refine lv_iload_n hx hb dX6_see_164 rfl (lv_at hl 3 rfl) ?_
          refine lv_aload_n hx hb dX6_see_165 rfl (lv_at hl 0 rfl) ?_
          refine z_get hx hb htt iw_X6 hown hZ 0 rfl rfl 10 (by decide) lf_X6_29 rfl dX6_see_166 ?_
          refine lv_iload_n hx hb dX6_see_169 rfl (lv_at hl 2 rfl) ?_
          obtain ⟨h_14, hf⟩ := ck_s hf
          refine z_ild hx hb hZ 7 6 rfl rfl h_14 dX6_see_170 ?_
          refine lv_iload hx hb dX6_see_171 (lv_at hl 4 rfl) ?_
          obtain ⟨r16, k_15, hf⟩ := bn_s hf
          refine z_calli (z_runV (As := [.int x3, .int (σ.1 7 (x2).toNatClampNeg), .int x4]) (rest := [.int ((32 * (σ.1 9 (x2).toNatClampNeg)) + x4), .ref (ad 12)]) ⟨hx, hb, hml, hown, htt⟩ gT (ct_X6_isValue l D A ad cA rs tr σ x3 (σ.1 7 (x2).toNatClampNeg) x4 k_15) md_X6_isValue lm_X6_122 rfl rfl ⟨Nat.le_of_ble_eq_true rfl, Nat.le_of_ble_eq_true rfl⟩ (z_preV gN hnw hZ rfl (q0 := 0) (ci := 6) rfl) rfl rfl hl.1 rfl (lv_room (Nat.le_of_ble_eq_true rfl)) dX6_see_173 ⟨Nat.le_of_ble_eq_true rfl, Nat.le_of_ble_eq_true rfl⟩) hZ (fun H locs hZ => ?_)
          refine lv_if_eq (tgt := 183) hx hb dX6_see_176 (by decide) (fun c_17 => ?_) (fun c_17 => ?_)
          · have hf := ite_t c_17 hf
            refine lv_iconst (v := 0) hx hb dX6_see_183 (by decide) ?_
            obtain ⟨h_18, hf⟩ := ck_s hf
            refine z_zst (σ' := st σ 12 (((32 * (σ.1 9 (x2).toNatClampNeg)) + x4)).toNatClampNeg 0) hx hb hZ 12 11 rfl rfl h_18 dX6_see_184 rfl (fun σ19 H locs e_σ19 hZ => ?_)
            have hf := lt_n e_σ19 hf
            obtain ⟨v20, e_v20⟩ : ∃ y : Int32, y = x4 + 1 := ⟨_, rfl⟩
            have hf := lt_n e_v20 hf
            refine lv_iinc (v := v20) (lv' := [(4, .int v20), (0, .ref (ad 0)), (1, .int x1), (2, .int x2), (3, .int x3)]) hx hb dX6_see_185 hl (k := 4) rfl (by rw [e_v20]; rfl) (by decide) rfl (fun ls hl => ?_)
            refine lv_goto (tgt := 101) hx hb dX6_see_188 (by decide) ?_
            exact ih σ19 x1 x2 x3 v20 _ _ _ hZ (lv_sub hl [1, 2, 3, 4, 0] rfl) hf
          · have hf := ite_f c_17 hf
            refine lv_iconst (v := 1) hx hb dX6_see_179 (by decide) ?_
            refine lv_goto (tgt := 184) hx hb dX6_see_180 (by decide) ?_
            obtain ⟨h_21, hf⟩ := ck_s hf
            refine z_zst (σ' := st σ 12 (((32 * (σ.1 9 (x2).toNatClampNeg)) + x4)).toNatClampNeg 1) hx hb hZ 12 11 rfl rfl h_21 dX6_see_184 rfl (fun σ22 H locs e_σ22 hZ => ?_)
            have hf := lt_n e_σ22 hf
            obtain ⟨v23, e_v23⟩ : ∃ y : Int32, y = x4 + 1 := ⟨_, rfl⟩
            have hf := lt_n e_v23 hf
            refine lv_iinc (v := v23) (lv' := [(4, .int v23), (0, .ref (ad 0)), (1, .int x1), (2, .int x2), (3, .int x3)]) hx hb dX6_see_185 hl (k := 4) rfl (by rw [e_v23]; rfl) (by decide) rfl (fun ls hl => ?_)
            refine lv_goto (tgt := 101) hx hb dX6_see_188 (by decide) ?_
            exact ih σ22 x1 x2 x3 v23 _ _ _ hZ (lv_sub hl [1, 2, 3, 4, 0] rfl) hf
set_option maxHeartbeats 4000000 in
set_option maxRecDepth 100000 in
theorem wk_X6_see_10 {p : Program} {l : Launch} {e : Env} {s : State} {m : MethodId} {args : Array Value} {below : List Frame} {meth : Method} {c : Code} {D : va_G} {A : Nat → Prop} {ad : Nat → Nat} {cA : Nat → ClassId} {rs : va_W} {tr : List (ClassId × FieldType)} {res : S2} (C0 : cx p m meth c cX6_see none 5 s args tb nl RX6) (K2 : S2 → Int32 → Option (S2)) (hK2 : ∀ (σ : S2) (x1 : Int32), ∀ (H : Heap) (locs : List Loc) (ls : Array Slot), zz D vwCl (tyM cA tr) A (wM ad cA rs) s s.heap H locs σ → lv_has ls 5 [(0, .ref (ad 0)), (1, .int x1)] → K2 σ x1 = some res → W p l e rm_X6_see s m args below meth c H locs 0 0 (MQ below (va_Qv (fun u' => u' = res) (zB D vwCl (tyM cA tr) A (wM ad cA rs)) A) args s 0 0 A) (F0 m 2 ls [])) : ∀ (n : Nat) (σ : S2) (x1 : Int32) (x2 : Int32), ∀ (H : Heap) (locs : List Loc) (ls : Array Slot), zz D vwCl (tyM cA tr) A (wM ad cA rs) s s.heap H locs σ → lv_has ls 5 [(0, .ref (ad 0)), (1, .int x1), (2, .int x2)] → fn_X6_see_10 K2 n σ x1 x2 = some res → W p l e rm_X6_see s m args below meth c H locs 0 0 (MQ below (va_Qv (fun u' => u' = res) (zB D vwCl (tyM cA tr) A (wM ad cA rs)) A) args s 0 0 A) (F0 m 10 ls []) := by
  obtain ⟨hx, hb, hr, hml, hown, htt, hlocks, hnw⟩ := id C0
  intro n
  induction n with
  | zero => intro σ x1 x2 H locs ls hZ hl hf; exact no_some hf
  | succ n ih =>
    intro σ x1 x2 H locs ls hZ hl hf
    rw [fn_X6_see_10] at hf
    refine lv_iload_n hx hb dX6_see_10 rfl (lv_at hl 2 rfl) ?_
    refine lv_bipush (v := 32) hx hb dX6_see_11 (by decide) ?_
    refine lv_icmp_ge (tgt := 55) hx hb dX6_see_13 (by decide) (fun c_1 => ?_) (fun c_1 => ?_)
    · have hf := ite_t c_1 hf
      obtain ⟨v2, e_v2⟩ : ∃ y : Int32, y = x1 + 1 := ⟨_, rfl⟩
      have hf := lt_n e_v2 hf
      refine lv_iinc (v := v2) (lv' := [(1, .int v2), (0, .ref (ad 0)), (2, .int x2)]) hx hb dX6_see_55 hl (k := 1) rfl (by rw [e_v2]; rfl) (by decide) rfl (fun ls hl => ?_)
      refine lv_goto (tgt := 2) hx hb dX6_see_58 (by decide) ?_
      exact hK2 σ v2 _ _ _ hZ (lv_sub hl [1, 0] rfl) hf
    · have hf := ite_f c_1 hf
      refine lv_aload_n hx hb dX6_see_16 rfl (lv_at hl 0 rfl) ?_
      refine z_get hx hb htt iw_X6 hown hZ 0 rfl rfl 15 (by decide) lf_X6_44 rfl dX6_see_17 ?_
      refine lv_bipush (v := 32) hx hb dX6_see_20 (by decide) ?_
      refine lv_iload_n hx hb dX6_see_22 rfl (lv_at hl 1 rfl) ?_
      refine lv_imul hx hb dX6_see_23 ?_
      refine lv_iload_n hx hb dX6_see_24 rfl (lv_at hl 2 rfl) ?_
      refine lv_iadd hx hb dX6_see_25 ?_
      refine lv_iload_n hx hb dX6_see_26 rfl (lv_at hl 1 rfl) ?_
      refine lv_aload_n hx hb dX6_see_27 rfl (lv_at hl 0 rfl) ?_
      refine z_get hx hb htt iw_X6 hown hZ 0 rfl rfl 2 (by decide) lf_X6_70 rfl dX6_see_28 ?_
      refine lv_icmp_ge (tgt := 47) hx hb dX6_see_31 (by decide) (fun c_3 => ?_) (fun c_3 => ?_)
      · have hf := ite_t c_3 hf
        refine lv_iconst (v := 0) hx hb dX6_see_47 (by decide) ?_
        obtain ⟨h_4, hf⟩ := ck_s hf
        refine z_zst (σ' := st σ 12 (((32 * x1) + x2)).toNatClampNeg 0) hx hb hZ 12 11 rfl rfl h_4 dX6_see_48 rfl (fun σ5 H locs e_σ5 hZ => ?_)
        have hf := lt_n e_σ5 hf
        obtain ⟨v6, e_v6⟩ : ∃ y : Int32, y = x2 + 1 := ⟨_, rfl⟩
        have hf := lt_n e_v6 hf
        refine lv_iinc (v := v6) (lv' := [(2, .int v6), (0, .ref (ad 0)), (1, .int x1)]) hx hb dX6_see_49 hl (k := 2) rfl (by rw [e_v6]; rfl) (by decide) rfl (fun ls hl => ?_)
        refine lv_goto (tgt := 10) hx hb dX6_see_52 (by decide) ?_
        exact ih σ5 x1 v6 _ _ _ hZ (lv_sub hl [1, 2, 0] rfl) hf
      · have hf := ite_f c_3 hf
        refine lv_aload_n hx hb dX6_see_34 rfl (lv_at hl 0 rfl) ?_
        refine lv_iload_n hx hb dX6_see_35 rfl (lv_at hl 1 rfl) ?_
        refine lv_iload_n hx hb dX6_see_36 rfl (lv_at hl 2 rfl) ?_
        obtain ⟨r9, σ8, k_7, hf⟩ := bn2_s hf
        refine z_calli (r := r9) (u := σ8) (z_runV (As := [.int x1, .int x2]) (rest := [.int ((32 * x1) + x2), .ref (ad 12)]) ⟨hx, hb, hml, hown, htt⟩ gT (ct_X6_isFor l D A ad cA rs tr σ x1 x2 k_7) md_X6_isFor lm_X6_150 rfl rfl ⟨Nat.le_of_ble_eq_true rfl, Nat.le_of_ble_eq_true rfl⟩ (z_preV gN hnw hZ rfl (q0 := 0) (ci := 6) rfl) rfl rfl hl.1 rfl (lv_room (Nat.le_of_ble_eq_true rfl)) dX6_see_37 ⟨Nat.le_of_ble_eq_true rfl, Nat.le_of_ble_eq_true rfl⟩) hZ (fun H locs hZ => ?_)
        refine lv_if_eq (tgt := 47) hx hb dX6_see_40 (by decide) (fun c_10 => ?_) (fun c_10 => ?_)
        · have hf := ite_t c_10 hf
          refine lv_iconst (v := 0) hx hb dX6_see_47 (by decide) ?_
          obtain ⟨h_11, hf⟩ := ck_s hf
          refine z_zst (σ' := st σ8 12 (((32 * x1) + x2)).toNatClampNeg 0) hx hb hZ 12 11 rfl rfl h_11 dX6_see_48 rfl (fun σ12 H locs e_σ12 hZ => ?_)
          have hf := lt_n e_σ12 hf
          obtain ⟨v13, e_v13⟩ : ∃ y : Int32, y = x2 + 1 := ⟨_, rfl⟩
          have hf := lt_n e_v13 hf
          refine lv_iinc (v := v13) (lv' := [(2, .int v13), (0, .ref (ad 0)), (1, .int x1)]) hx hb dX6_see_49 hl (k := 2) rfl (by rw [e_v13]; rfl) (by decide) rfl (fun ls hl => ?_)
          refine lv_goto (tgt := 10) hx hb dX6_see_52 (by decide) ?_
          exact ih σ12 x1 v13 _ _ _ hZ (lv_sub hl [1, 2, 0] rfl) hf
        · have hf := ite_f c_10 hf
          refine lv_iconst (v := 1) hx hb dX6_see_43 (by decide) ?_
          refine lv_goto (tgt := 48) hx hb dX6_see_44 (by decide) ?_
          obtain ⟨h_14, hf⟩ := ck_s hf
          refine z_zst (σ' := st σ8 12 (((32 * x1) + x2)).toNatClampNeg 1) hx hb hZ 12 11 rfl rfl h_14 dX6_see_48 rfl (fun σ15 H locs e_σ15 hZ => ?_)
          have hf := lt_n e_σ15 hf
          obtain ⟨v16, e_v16⟩ : ∃ y : Int32, y = x2 + 1 := ⟨_, rfl⟩
          have hf := lt_n e_v16 hf
          refine lv_iinc (v := v16) (lv' := [(2, .int v16), (0, .ref (ad 0)), (1, .int x1)]) hx hb dX6_see_49 hl (k := 2) rfl (by rw [e_v16]; rfl) (by decide) rfl (fun ls hl => ?_)
          refine lv_goto (tgt := 10) hx hb dX6_see_52 (by decide) ?_
          exact ih σ15 x1 v16 _ _ _ hZ (lv_sub hl [1, 2, 0] rfl) hf
set_option maxHeartbeats 4000000 in
set_option maxRecDepth 100000 in
theorem wk_X6_see_81 {p : Program} {l : Launch} {e : Env} {s : State} {m : MethodId} {args : Array Value} {below : List Frame} {meth : Method} {c : Code} {D : va_G} {A : Nat → Prop} {ad : Nat → Nat} {cA : Nat → ClassId} {rs : va_W} {tr : List (ClassId × FieldType)} {res : S2} (C0 : cx p m meth c cX6_see none 5 s args tb nl RX6) (K63 : S2 → Int32 → Option (S2)) (hK63 : ∀ (σ : S2) (x1 : Int32), ∀ (H : Heap) (locs : List Loc) (ls : Array Slot), zz D vwCl (tyM cA tr) A (wM ad cA rs) s s.heap H locs σ → lv_has ls 5 [(0, .ref (ad 0)), (1, .int x1)] → K63 σ x1 = some res → W p l e rm_X6_see s m args below meth c H locs 0 0 (MQ below (va_Qv (fun u' => u' = res) (zB D vwCl (tyM cA tr) A (wM ad cA rs)) A) args s 0 0 A) (F0 m 63 ls [])) (K71 : S2 → Int32 → Int32 → Option (S2)) (hK71 : ∀ (σ : S2) (x1 : Int32) (x2 : Int32), ∀ (H : Heap) (locs : List Loc) (ls : Array Slot), zz D vwCl (tyM cA tr) A (wM ad cA rs) s s.heap H locs σ → lv_has ls 5 [(0, .ref (ad 0)), (1, .int x1), (2, .int x2)] → K71 σ x1 x2 = some res → W p l e rm_X6_see s m args below meth c H locs 0 0 (MQ below (va_Qv (fun u' => u' = res) (zB D vwCl (tyM cA tr) A (wM ad cA rs)) A) args s 0 0 A) (F0 m 71 ls [])) : ∀ (n : Nat) (σ : S2) (x1 : Int32) (x2 : Int32) (x3 : Int32), ∀ (H : Heap) (locs : List Loc) (ls : Array Slot), zz D vwCl (tyM cA tr) A (wM ad cA rs) s s.heap H locs σ → lv_has ls 5 [(0, .ref (ad 0)), (1, .int x1), (2, .int x2), (3, .int x3)] → fn_X6_see_81 K63 K71 n σ x1 x2 x3 = some res → W p l e rm_X6_see s m args below meth c H locs 0 0 (MQ below (va_Qv (fun u' => u' = res) (zB D vwCl (tyM cA tr) A (wM ad cA rs)) A) args s 0 0 A) (F0 m 81 ls []) := by
  obtain ⟨hx, hb, hr, hml, hown, htt, hlocks, hnw⟩ := id C0
  intro n
  induction n with
  | zero => intro σ x1 x2 x3 H locs ls hZ hl hf; exact no_some hf
  | succ n ih =>
    intro σ x1 x2 x3 H locs ls hZ hl hf
    rw [fn_X6_see_81] at hf
    refine lv_iload_n hx hb dX6_see_81 rfl (lv_at hl 3 rfl) ?_
    refine lv_bipush (v := 32) hx hb dX6_see_82 (by decide) ?_
    refine lv_icmp_ge (tgt := 197) hx hb dX6_see_84 (by decide) (fun c_1 => ?_) (fun c_1 => ?_)
    · have hf := ite_t c_1 hf
      obtain ⟨v2, e_v2⟩ : ∃ y : Int32, y = x2 + 1 := ⟨_, rfl⟩
      have hf := lt_n e_v2 hf
      refine lv_iinc (v := v2) (lv' := [(2, .int v2), (0, .ref (ad 0)), (1, .int x1), (3, .int x3)]) hx hb dX6_see_197 hl (k := 2) rfl (by rw [e_v2]; rfl) (by decide) rfl (fun ls hl => ?_)
      refine lv_goto (tgt := 71) hx hb dX6_see_200 (by decide) ?_
      exact hK71 σ x1 v2 _ _ _ hZ (lv_sub hl [1, 2, 0] rfl) hf
    · have hf := ite_f c_1 hf
      refine lv_aload_n hx hb dX6_see_87 rfl (lv_at hl 0 rfl) ?_
      refine z_get hx hb htt iw_X6 hown hZ 0 rfl rfl 11 (by decide) lf_X6_32 rfl dX6_see_88 ?_
      refine lv_iload_n hx hb dX6_see_91 rfl (lv_at hl 2 rfl) ?_
      obtain ⟨h_3, hf⟩ := ck_s hf
      refine z_ild hx hb hZ 8 7 rfl rfl h_3 dX6_see_92 ?_
      refine lv_bipush (v := 16) hx hb dX6_see_93 (by decide) ?_
      refine lv_icmp_ne (tgt := 197) hx hb dX6_see_95 (by decide) (fun c_4 => ?_) (fun c_4 => ?_)
      · have hf := ite_f c_4 hf
        obtain ⟨v5, e_v5⟩ : ∃ y : Int32, y = x2 + 1 := ⟨_, rfl⟩
        have hf := lt_n e_v5 hf
        refine lv_iinc (v := v5) (lv' := [(2, .int v5), (0, .ref (ad 0)), (1, .int x1), (3, .int x3)]) hx hb dX6_see_197 hl (k := 2) rfl (by rw [e_v5]; rfl) (by decide) rfl (fun ls hl => ?_)
        refine lv_goto (tgt := 71) hx hb dX6_see_200 (by decide) ?_
        exact hK71 σ x1 v5 _ _ _ hZ (lv_sub hl [1, 2, 0] rfl) hf
      · have hf := ite_t c_4 hf
        refine lv_iconst (v := 0) hx hb dX6_see_98 (by decide) ?_
        refine lv_istore (lv' := [(4, .int 0), (0, .ref (ad 0)), (1, .int x1), (2, .int x2), (3, .int x3)]) hx hb dX6_see_99 hl (by decide) rfl (fun ls hl => ?_)
        exact wk_X6_see_101 C0 K63 hK63 K71 hK71 (fn_X6_see_81 K63 K71 n) ih fu σ x1 x2 x3 0 _ _ _ hZ (lv_sub hl [1, 2, 3, 4, 0] rfl) hf
set_option maxHeartbeats 4000000 in
set_option maxRecDepth 100000 in
theorem wk_X6_see_71 {p : Program} {l : Launch} {e : Env} {s : State} {m : MethodId} {args : Array Value} {below : List Frame} {meth : Method} {c : Code} {D : va_G} {A : Nat → Prop} {ad : Nat → Nat} {cA : Nat → ClassId} {rs : va_W} {tr : List (ClassId × FieldType)} {res : S2} (C0 : cx p m meth c cX6_see none 5 s args tb nl RX6) (K63 : S2 → Int32 → Option (S2)) (hK63 : ∀ (σ : S2) (x1 : Int32), ∀ (H : Heap) (locs : List Loc) (ls : Array Slot), zz D vwCl (tyM cA tr) A (wM ad cA rs) s s.heap H locs σ → lv_has ls 5 [(0, .ref (ad 0)), (1, .int x1)] → K63 σ x1 = some res → W p l e rm_X6_see s m args below meth c H locs 0 0 (MQ below (va_Qv (fun u' => u' = res) (zB D vwCl (tyM cA tr) A (wM ad cA rs)) A) args s 0 0 A) (F0 m 63 ls [])) : ∀ (n : Nat) (σ : S2) (x1 : Int32) (x2 : Int32), ∀ (H : Heap) (locs : List Loc) (ls : Array Slot), zz D vwCl (tyM cA tr) A (wM ad cA rs) s s.heap H locs σ → lv_has ls 5 [(0, .ref (ad 0)), (1, .int x1), (2, .int x2)] → fn_X6_see_71 K63 n σ x1 x2 = some res → W p l e rm_X6_see s m args below meth c H locs 0 0 (MQ below (va_Qv (fun u' => u' = res) (zB D vwCl (tyM cA tr) A (wM ad cA rs)) A) args s 0 0 A) (F0 m 71 ls []) := by
  obtain ⟨hx, hb, hr, hml, hown, htt, hlocks, hnw⟩ := id C0
  intro n
  induction n with
  | zero => intro σ x1 x2 H locs ls hZ hl hf; exact no_some hf
  | succ n ih =>
    intro σ x1 x2 H locs ls hZ hl hf
    rw [fn_X6_see_71] at hf
    refine lv_iload_n hx hb dX6_see_71 rfl (lv_at hl 2 rfl) ?_
    refine lv_aload_n hx hb dX6_see_72 rfl (lv_at hl 0 rfl) ?_
    refine z_get hx hb htt iw_X6 hown hZ 0 rfl rfl 9 (by decide) lf_X6_90 rfl dX6_see_73 ?_
    refine lv_icmp_ge (tgt := 203) hx hb dX6_see_76 (by decide) (fun c_1 => ?_) (fun c_1 => ?_)
    · have hf := ite_t c_1 hf
      obtain ⟨v2, e_v2⟩ : ∃ y : Int32, y = x1 + 1 := ⟨_, rfl⟩
      have hf := lt_n e_v2 hf
      refine lv_iinc (v := v2) (lv' := [(1, .int v2), (0, .ref (ad 0)), (2, .int x2)]) hx hb dX6_see_203 hl (k := 1) rfl (by rw [e_v2]; rfl) (by decide) rfl (fun ls hl => ?_)
      refine lv_goto (tgt := 63) hx hb dX6_see_206 (by decide) ?_
      exact hK63 σ v2 _ _ _ hZ (lv_sub hl [1, 0] rfl) hf
    · have hf := ite_f c_1 hf
      refine lv_iconst (v := 0) hx hb dX6_see_79 (by decide) ?_
      refine lv_istore_n (lv' := [(3, .int 0), (0, .ref (ad 0)), (1, .int x1), (2, .int x2)]) hx hb dX6_see_80 rfl hl (by decide) rfl (fun ls hl => ?_)
      exact wk_X6_see_81 C0 K63 hK63 (fn_X6_see_71 K63 n) ih fu σ x1 x2 0 _ _ _ hZ (lv_sub hl [1, 2, 3, 0] rfl) hf
set_option maxHeartbeats 4000000 in
set_option maxRecDepth 100000 in
theorem wk_X6_see_63 {p : Program} {l : Launch} {e : Env} {s : State} {m : MethodId} {args : Array Value} {below : List Frame} {meth : Method} {c : Code} {D : va_G} {A : Nat → Prop} {ad : Nat → Nat} {cA : Nat → ClassId} {rs : va_W} {tr : List (ClassId × FieldType)} {res : S2} (C0 : cx p m meth c cX6_see none 5 s args tb nl RX6) : ∀ (n : Nat) (σ : S2) (x1 : Int32), ∀ (H : Heap) (locs : List Loc) (ls : Array Slot), zz D vwCl (tyM cA tr) A (wM ad cA rs) s s.heap H locs σ → lv_has ls 5 [(0, .ref (ad 0)), (1, .int x1)] → fn_X6_see_63 n σ x1 = some res → W p l e rm_X6_see s m args below meth c H locs 0 0 (MQ below (va_Qv (fun u' => u' = res) (zB D vwCl (tyM cA tr) A (wM ad cA rs)) A) args s 0 0 A) (F0 m 63 ls []) := by
  obtain ⟨hx, hb, hr, hml, hown, htt, hlocks, hnw⟩ := id C0
  intro n
  induction n with
  | zero => intro σ x1 H locs ls hZ hl hf; exact no_some hf
  | succ n ih =>
    intro σ x1 H locs ls hZ hl hf
    rw [fn_X6_see_63] at hf
    refine lv_iload_n hx hb dX6_see_63 rfl (lv_at hl 1 rfl) ?_
    refine lv_bipush (v := 12) hx hb dX6_see_64 (by decide) ?_
    refine lv_icmp_ge (tgt := 209) hx hb dX6_see_66 (by decide) (fun c_1 => ?_) (fun c_1 => ?_)
    · have hf := ite_t c_1 hf
      exact z_vret hx hb hr hlocks hZ (Option.some.inj hf) dX6_see_209
    · have hf := ite_f c_1 hf
      refine lv_iconst (v := 0) hx hb dX6_see_69 (by decide) ?_
      refine lv_istore_n (lv' := [(2, .int 0), (0, .ref (ad 0)), (1, .int x1)]) hx hb dX6_see_70 rfl hl (by decide) rfl (fun ls hl => ?_)
      exact wk_X6_see_71 C0 (fn_X6_see_63 n) ih fu σ x1 0 _ _ _ hZ (lv_sub hl [1, 2, 0] rfl) hf
set_option maxHeartbeats 4000000 in
set_option maxRecDepth 100000 in
theorem wk_X6_see_2 {p : Program} {l : Launch} {e : Env} {s : State} {m : MethodId} {args : Array Value} {below : List Frame} {meth : Method} {c : Code} {D : va_G} {A : Nat → Prop} {ad : Nat → Nat} {cA : Nat → ClassId} {rs : va_W} {tr : List (ClassId × FieldType)} {res : S2} (C0 : cx p m meth c cX6_see none 5 s args tb nl RX6) : ∀ (n : Nat) (σ : S2) (x1 : Int32), ∀ (H : Heap) (locs : List Loc) (ls : Array Slot), zz D vwCl (tyM cA tr) A (wM ad cA rs) s s.heap H locs σ → lv_has ls 5 [(0, .ref (ad 0)), (1, .int x1)] → fn_X6_see_2 n σ x1 = some res → W p l e rm_X6_see s m args below meth c H locs 0 0 (MQ below (va_Qv (fun u' => u' = res) (zB D vwCl (tyM cA tr) A (wM ad cA rs)) A) args s 0 0 A) (F0 m 2 ls []) := by
  obtain ⟨hx, hb, hr, hml, hown, htt, hlocks, hnw⟩ := id C0
  intro n
  induction n with
  | zero => intro σ x1 H locs ls hZ hl hf; exact no_some hf
  | succ n ih =>
    intro σ x1 H locs ls hZ hl hf
    rw [fn_X6_see_2] at hf
    refine lv_iload_n hx hb dX6_see_2 rfl (lv_at hl 1 rfl) ?_
    refine lv_bipush (v := 12) hx hb dX6_see_3 (by decide) ?_
    refine lv_icmp_ge (tgt := 61) hx hb dX6_see_5 (by decide) (fun c_1 => ?_) (fun c_1 => ?_)
    · have hf := ite_t c_1 hf
      refine lv_iconst (v := 0) hx hb dX6_see_61 (by decide) ?_
      refine lv_istore_n (lv' := [(1, .int 0), (0, .ref (ad 0))]) hx hb dX6_see_62 rfl hl (by decide) rfl (fun ls hl => ?_)
      exact wk_X6_see_63 C0  fu σ 0 _ _ _ hZ (lv_sub hl [1, 0] rfl) hf
    · have hf := ite_f c_1 hf
      refine lv_iconst (v := 0) hx hb dX6_see_8 (by decide) ?_
      refine lv_istore_n (lv' := [(2, .int 0), (0, .ref (ad 0)), (1, .int x1)]) hx hb dX6_see_9 rfl hl (by decide) rfl (fun ls hl => ?_)
      exact wk_X6_see_10 C0 (fn_X6_see_2 n) ih fu σ x1 0 _ _ _ hZ (lv_sub hl [1, 2, 0] rfl) hf
set_option maxHeartbeats 4000000 in
set_option maxRecDepth 100000 in
theorem ct_X6_see (l : Launch) (D : va_G) (A : Nat → Prop) (ad : Nat → Nat) (cA : Nat → ClassId) (rs : va_W) (tr : List (ClassId × FieldType)) (σ : S2) {res : S2} (hf : fn_X6_see σ = some res) : Met l yX6_see (.code yX6_see cX6_see 5 none :: tb) rm_X6_see (va_Pc [.ref (ad 0)] (zN D vwCl (tyM cA tr) A (wM ad cA rs) nl σ)) (va_Qv (fun u' => u' = res) (zB D vwCl (tyM cA tr) A (wM ad cA rs)) A) 0 0 A := by
  refine Met.ofW (cc := cX6_see) (maxL := 5) (ret := none) (by decide) rfl ?_
  intro p e s m args below meth c s₁ B hml hv
  obtain ⟨rfl, hB, hnw0⟩ := hv
  have htt : ∀ w ∈ tb, w.before (([.ref (ad 0)] : List Value).toArray) s = true := fun w h => atoms_spec (ws := (.code yX6_see cX6_see 5 none :: tb)) B.pre w (List.mem_cons_of_mem _ h)
  have C0 : cx p m meth c cX6_see none 5 s (([.ref (ad 0)] : List Value).toArray) tb nl RX6 := ⟨B.exec, B.bytes, B.returns, hml, findClass_of_methodNamed B.named, htt, B.notSynchronized, hnw0⟩
  obtain ⟨hx, hb, hr, hml, hown, htt, hlocks, hnw⟩ := id C0
  have hZ := z_start hB
  have hl := lv_entry ([.ref (ad 0)]) (n := 5) (Nat.le_of_ble_eq_true rfl)
  rw [lg_entry_eq]
  generalize (lg_sl ([.ref (ad 0)]) ++ List.replicate (5 - (lg_sl ([.ref (ad 0)])).length) Slot.unset).toArray = ls at hl ⊢
  have hl : lv_has ls 5 [(0, .ref (ad 0))] := hl
  unfold fn_X6_see at hf
  refine lv_iconst (v := 0) hx hb dX6_see_0 (by decide) ?_
  refine lv_istore_n (lv' := [(1, .int 0), (0, .ref (ad 0))]) hx hb dX6_see_1 rfl hl (by decide) rfl (fun ls hl => ?_)
  exact wk_X6_see_2 C0  fu σ 0 _ _ _ hZ (lv_sub hl [1, 0] rfl) hf
