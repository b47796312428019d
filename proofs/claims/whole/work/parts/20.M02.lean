abbrev rm_X6_isOfClass : Room := { frames := 1, cells := 0, slots := 0, locals := 23 }
def fn_X6_isOfClass_48 (K29 : S2 → Int32 → Int32 → Option (Int32 × S2)) (K38 : S2 → Int32 → Int32 → Int32 → Option (Int32 × S2)) : Nat → S2 → Int32 → Int32 → Int32 → Int32 → Option (Int32 × S2)
  | 0, _, _, _, _, _ => none
  | n + 1, σ, x2, x3, x4, x5 => if 32 ≤ x5 then lt (x4 + 1) (fun v2 => K38 σ x2 x3 v2) else ck x4 32 (if (σ.1 14 (x4).toNatClampNeg) = 0 then lt (x4 + 1) (fun v5 => K38 σ x2 x3 v5) else ck x5 32 (if (σ.1 14 (x5).toNatClampNeg) = 0 then bn (fn_X6_leads σ x4 1 x5) (fun r12 => if r12 = 0 then ck x5 32 (lt (st σ 14 (x5).toNatClampNeg 0) (fun σ15 => lt (x5 + 1) (fun v16 => fn_X6_isOfClass_48 K29 K38 n σ15 x2 x3 x4 v16))) else ck x5 32 (lt (st σ 14 (x5).toNatClampNeg 1) (fun σ18 => lt (x5 + 1) (fun v19 => fn_X6_isOfClass_48 K29 K38 n σ18 x2 x3 x4 v19)))) else ck x5 32 (lt (st σ 14 (x5).toNatClampNeg 1) (fun σ9 => lt (x5 + 1) (fun v10 => fn_X6_isOfClass_48 K29 K38 n σ9 x2 x3 x4 v10)))))
def fn_X6_isOfClass_38 (K29 : S2 → Int32 → Int32 → Option (Int32 × S2)) : Nat → S2 → Int32 → Int32 → Int32 → Option (Int32 × S2)
  | 0, _, _, _, _ => none
  | n + 1, σ, x2, x3, x4 => if 20 ≤ x4 then lt (x3 + 1) (fun v2 => K29 σ x2 v2) else fn_X6_isOfClass_48 K29 (fn_X6_isOfClass_38 K29 n) fu σ x2 x3 x4 0
def fn_X6_isOfClass_29 : Nat → S2 → Int32 → Int32 → Option (Int32 × S2)
  | 0, _, _, _ => none
  | n + 1, σ, x2, x3 => if 20 ≤ x3 then ck x2 32 (cb (σ.1 14 (x2).toNatClampNeg) (some ((σ.1 14 (x2).toNatClampNeg), σ))) else fn_X6_isOfClass_38 (fn_X6_isOfClass_29 n) fu σ x2 x3 0
def fn_X6_isOfClass_2 : Nat → S2 → Int32 → Int32 → Int32 → Option (Int32 × S2)
  | 0, _, _, _, _ => none
  | n + 1, σ, x1, x2, x3 => if 32 ≤ x3 then fn_X6_isOfClass_29 fu σ x2 0 else bn (fn_X6_leads σ x1 0 x3) (fun r3 => ck x3 32 (lt (st σ 14 (x3).toNatClampNeg (vp_nar .boolean r3)) (fun σ5 => lt (x3 + 1) (fun v6 => fn_X6_isOfClass_2 n σ5 x1 x2 v6))))
def fn_X6_isOfClass (σ : S2) (x1 : Int32) (x2 : Int32) : Option (Int32 × S2) := fn_X6_isOfClass_2 fu σ x1 x2 0
set_option maxHeartbeats 4000000 in
set_option maxRecDepth 100000 in
theorem wk_X6_isOfClass_48 {p : Program} {l : Launch} {e : Env} {s : State} {m : MethodId} {args : Array Value} {below : List Frame} {meth : Method} {c : Code} {D : va_G} {A : Nat → Prop} {ad : Nat → Nat} {cA : Nat → ClassId} {rs : va_W} {tr : List (ClassId × FieldType)} {res : Int32 × S2} (C0 : cx p m meth c cX6_isOfClass (some .boolean) 6 s args tb nl RX6) (K29 : S2 → Int32 → Int32 → Option (Int32 × S2)) (hK29 : ∀ (σ : S2) (x2 : Int32) (x3 : Int32), ∀ (H : Heap) (locs : List Loc) (ls : Array Slot), zz D vwCl (tyM cA tr) A (wM ad cA rs) s s.heap H locs σ → lv_has ls 6 [(0, .ref (ad 0)), (2, .int x2), (3, .int x3)] → K29 σ x2 x3 = some res → W p l e rm_X6_isOfClass s m args below meth c H locs 0 0 (MQ below (va_Qi (fun r' u' => r' = res.1 ∧ u' = res.2) (zB D vwCl (tyM cA tr) A (wM ad cA rs)) A) args s 0 0 A) (F0 m 29 ls [])) (K38 : S2 → Int32 → Int32 → Int32 → Option (Int32 × S2)) (hK38 : ∀ (σ : S2) (x2 : Int32) (x3 : Int32) (x4 : Int32), ∀ (H : Heap) (locs : List Loc) (ls : Array Slot), zz D vwCl (tyM cA tr) A (wM ad cA rs) s s.heap H locs σ → lv_has ls 6 [(0, .ref (ad 0)), (2, .int x2), (3, .int x3), (4, .int x4)] → K38 σ x2 x3 x4 = some res → W p l e rm_X6_isOfClass s m args below meth c H locs 0 0 (MQ below (va_Qi (fun r' u' => r' = res.1 ∧ u' = res.2) (zB D vwCl (tyM cA tr) A (wM ad cA rs)) A) args s 0 0 A) (F0 m 38 ls [])) : ∀ (n : Nat) (σ : S2) (x2 : Int32) (x3 : Int32) (x4 : Int32) (x5 : Int32), ∀ (H : Heap) (locs : List Loc) (ls : Array Slot), zz D vwCl (tyM cA tr) A (wM ad cA rs) s s.heap H locs σ → lv_has ls 6 [(0, .ref (ad 0)), (2, .int x2), (3, .int x3), (4, .int x4), (5, .int x5)] → fn_X6_isOfClass_48 K29 K38 n σ x2 x3 x4 x5 = some res → W p l e rm_X6_isOfClass s m args below meth c H locs 0 0 (MQ below (va_Qi (fun r' u' => r' = res.1 ∧ u' = res.2) (zB D vwCl (tyM cA tr) A (wM ad cA rs)) A) args s 0 0 A) (F0 m 48 ls []) := by
  obtain ⟨hx, hb, hr, hml, hown, htt, hlocks, hnw⟩ := id C0
  intro n
  induction n with
  | zero => intro σ x2 x3 x4 x5 H locs ls hZ hl hf; exact no_some hf
  | succ n ih =>
    intro σ x2 x3 x4 x5 H locs ls hZ hl hf
    rw [fn_X6_isOfClass_48] at hf
    refine lv_iload hx hb dX6_isOfClass_48 (lv_at hl 4 rfl) ?_
    refine lv_bipush (v := 32) hx hb dX6_isOfClass_50 (by decide) ?_
    refine lv_icmp_ge (tgt := 105) hx hb dX6_isOfClass_52 (by decide) (fun c_1 => ?_) (fun c_1 => ?_)
    · have hf := ite_t c_1 hf
      obtain ⟨v2, e_v2⟩ : ∃ y : Int32, y = x4 + 1 := ⟨_, rfl⟩
      have hf := lt_n e_v2 hf
      refine lv_iinc (v := v2) (lv' := [(4, .int v2), (0, .ref (ad 0)), (2, .int x2), (3, .int x3), (5, .int x5)]) hx hb dX6_isOfClass_105 hl (k := 3) rfl (by rw [e_v2]; rfl) (by decide) rfl (fun ls hl => ?_)
      refine lv_goto (tgt := 38) hx hb dX6_isOfClass_108 (by decide) ?_
      exact hK38 σ x2 x3 v2 _ _ _ hZ (lv_sub hl [1, 2, 3, 0] rfl) hf
    · have hf := ite_f c_1 hf
      refine lv_aload_n hx hb dX6_isOfClass_55 rfl (lv_at hl 0 rfl) ?_
      refine z_get hx hb htt iw_X6 hown hZ 0 rfl rfl 17 (by decide) lf_X6_50 rfl dX6_isOfClass_56 ?_
      refine lv_iload hx hb dX6_isOfClass_59 (lv_at hl 3 rfl) ?_
      obtain ⟨h_3, hf⟩ := ck_s hf
      refine z_zld hx hb hZ 14 13 rfl rfl h_3 dX6_isOfClass_61 ?_
      refine lv_if_eq (tgt := 105) hx hb dX6_isOfClass_62 (by decide) (fun c_4 => ?_) (fun c_4 => ?_)
      · have hf := ite_t c_4 hf
        obtain ⟨v5, e_v5⟩ : ∃ y : Int32, y = x4 + 1 := ⟨_, rfl⟩
        have hf := lt_n e_v5 hf
        refine lv_iinc (v := v5) (lv' := [(4, .int v5), (0, .ref (ad 0)), (2, .int x2), (3, .int x3), (5, .int x5)]) hx hb dX6_isOfClass_105 hl (k := 3) rfl (by rw [e_v5]; rfl) (by decide) rfl (fun ls hl => ?_)
        refine lv_goto (tgt := 38) hx hb dX6_isOfClass_108 (by decide) ?_
        exact hK38 σ x2 x3 v5 _ _ _ hZ (lv_sub hl [1, 2, 3, 0] rfl) hf
      · have hf := ite_f c_4 hf
        refine lv_aload_n hx hb dX6_isOfClass_65 rfl (lv_at hl 0 rfl) ?_
        refine z_get hx hb htt iw_X6 hown hZ 0 rfl rfl 17 (by decide) lf_X6_50 rfl dX6_isOfClass_66 ?_
        refine lv_iload hx hb dX6_isOfClass_69 (lv_at hl 4 rfl) ?_
        refine lv_aload_n hx hb dX6_isOfClass_71 rfl (lv_at hl 0 rfl) ?_
        refine z_get hx hb htt iw_X6 hown hZ 0 rfl rfl 17 (by decide) lf_X6_50 rfl dX6_isOfClass_72 ?_
        refine lv_iload hx hb dX6_isOfClass_75 (lv_at hl 4 rfl) ?_
        obtain ⟨h_6, hf⟩ := ck_s hf
        refine z_zld hx hb hZ 14 13 rfl rfl h_6 dX6_isOfClass_77 ?_
        refine lv_if_ne (tgt := 93) hx hb dX6_isOfClass_78 (by decide) (fun c_7 => ?_) (fun c_7 => ?_)
        · have hf := ite_f c_7 hf
          refine lv_iconst (v := 1) hx hb dX6_isOfClass_93 (by decide) ?_
          refine lv_goto (tgt := 98) hx hb dX6_isOfClass_94 (by decide) ?_
          obtain ⟨h_8, hf⟩ := ck_s hf
          refine z_zst (σ' := st σ 14 (x5).toNatClampNeg 1) hx hb hZ 14 13 rfl rfl h_8 dX6_isOfClass_98 rfl (fun σ9 H locs e_σ9 hZ => ?_)
          have hf := lt_n e_σ9 hf
          obtain ⟨v10, e_v10⟩ : ∃ y : Int32, y = x5 + 1 := ⟨_, rfl⟩
          have hf := lt_n e_v10 hf
          refine lv_iinc (v := v10) (lv' := [(5, .int v10), (0, .ref (ad 0)), (2, .int x2), (3, .int x3), (4, .int x4)]) hx hb dX6_isOfClass_99 hl (k := 4) rfl (by rw [e_v10]; rfl) (by decide) rfl (fun ls hl => ?_)
          refine lv_goto (tgt := 48) hx hb dX6_isOfClass_102 (by decide) ?_
          exact ih σ9 x2 x3 x4 v10 _ _ _ hZ (lv_sub hl [1, 2, 3, 4, 0] rfl) hf
        · have hf := ite_t c_7 hf
          refine lv_aload_n hx hb dX6_isOfClass_81 rfl (lv_at hl 0 rfl) ?_
          refine lv_iload hx hb dX6_isOfClass_82 (lv_at hl 3 rfl) ?_
          refine lv_iconst (v := 1) hx hb dX6_isOfClass_84 (by decide) ?_
          refine lv_iload hx hb dX6_isOfClass_85 (lv_at hl 4 rfl) ?_
          obtain ⟨r12, k_11, hf⟩ := bn_s hf
          refine z_calli (z_runV (As := [.int x4, .int 1, .int x5]) (rest := [.int x5, .ref (ad 14)]) ⟨hx, hb, hml, hown, htt⟩ gT (ct_X6_leads l D A ad cA rs tr σ x4 1 x5 k_11) md_X6_leads lm_X6_77 rfl rfl ⟨Nat.le_of_ble_eq_true rfl, Nat.le_of_ble_eq_true rfl⟩ (z_preV gN hnw hZ rfl (q0 := 0) (ci := 6) rfl) rfl rfl hl.1 rfl (lv_room (Nat.le_of_ble_eq_true rfl)) dX6_isOfClass_87 ⟨Nat.le_of_ble_eq_true rfl, Nat.le_of_ble_eq_true rfl⟩) hZ (fun H locs hZ => ?_)
          refine lv_if_eq (tgt := 97) hx hb dX6_isOfClass_90 (by decide) (fun c_13 => ?_) (fun c_13 => ?_)
          · have hf := ite_t c_13 hf
            refine lv_iconst (v := 0) hx hb dX6_isOfClass_97 (by decide) ?_
            obtain ⟨h_14, hf⟩ := ck_s hf
            refine z_zst (σ' := st σ 14 (x5).toNatClampNeg 0) hx hb hZ 14 13 rfl rfl h_14 dX6_isOfClass_98 rfl (fun σ15 H locs e_σ15 hZ => ?_)
            have hf := lt_n e_σ15 hf
            obtain ⟨v16, e_v16⟩ : ∃ y : Int32, y = x5 + 1 := ⟨_, rfl⟩
            have hf := lt_n e_v16 hf
            refine lv_iinc (v := v16) (lv' := [(5, .int v16), (0, .ref (ad 0)), (2, .int x2), (3, .int x3), (4, .int x4)]) hx hb dX6_isOfClass_99 hl (k := 4) rfl (by rw [e_v16]; rfl) (by decide) rfl (fun ls hl => ?_)
            refine lv_goto (tgt := 48) hx hb dX6_isOfClass_102 (by decide) ?_
            exact ih σ15 x2 x3 x4 v16 _ _ _ hZ (lv_sub hl [1, 2, 3, 4, 0] rfl) hf
          · have hf := ite_f c_13 hf
            refine lv_iconst (v := 1) hx hb dX6_isOfClass_93 (by decide) ?_
            refine lv_goto (tgt := 98) hx hb dX6_isOfClass_94 (by decide) ?_
            obtain ⟨h_17, hf⟩ := ck_s hf
            refine z_zst (σ' := st σ 14 (x5).toNatClampNeg 1) hx hb hZ 14 13 rfl rfl h_17 dX6_isOfClass_98 rfl (fun σ18 H locs e_σ18 hZ => ?_)
            have hf := lt_n e_σ18 hf
            obtain ⟨v19, e_v19⟩ : ∃ y : Int32, y = x5 + 1 := ⟨_, rfl⟩
            have hf := lt_n e_v19 hf
            refine lv_iinc (v := v19) (lv' := [(5, .int v19), (0, .ref (ad 0)), (2, .int x2), (3, .int x3), (4, .int x4)]) hx hb dX6_isOfClass_99 hl (k := 4) rfl (by rw [e_v19]; rfl) (by decide) rfl (fun ls hl => ?_)
            refine lv_goto (tgt := 48) hx hb dX6_isOfClass_102 (by decide) ?_
            exact ih σ18 x2 x3 x4 v19 _ _ _ hZ (lv_sub hl [1, 2, 3, 4, 0] rfl) hf
set_option maxHeartbeats 4000000 in
set_option maxRecDepth 100000 in
theorem wk_X6_isOfClass_38 {p : Program} {l : Launch} {e : Env} {s : State} {m : MethodId} {args : Array Value} {below : List Frame} {meth : Method} {c : Code} {D : va_G} {A : Nat → Prop} {ad : Nat → Nat} {cA : Nat → ClassId} {rs : va_W} {tr : List (ClassId × FieldType)} {res : Int32 × S2} (C0 : cx p m meth c cX6_isOfClass (some .boolean) 6 s args tb nl RX6) (K29 : S2 → Int32 → Int32 → Option (Int32 × S2)) (hK29 : ∀ (σ : S2) (x2 : Int32) (x3 : Int32), ∀ (H : Heap) (locs : List Loc) (ls : Array Slot), zz D vwCl (tyM cA tr) A (wM ad cA rs) s s.heap H locs σ → lv_has ls 6 [(0, .ref (ad 0)), (2, .int x2), (3, .int x3)] → K29 σ x2 x3 = some res → W p l e rm_X6_isOfClass s m args below meth c H locs 0 0 (MQ below (va_Qi (fun r' u' => r' = res.1 ∧ u' = res.2) (zB D vwCl (tyM cA tr) A (wM ad cA rs)) A) args s 0 0 A) (F0 m 29 ls [])) : ∀ (n : Nat) (σ : S2) (x2 : Int32) (x3 : Int32) (x4 : Int32), ∀ (H : Heap) (locs : List Loc) (ls : Array Slot), zz D vwCl (tyM cA tr) A (wM ad cA rs) s s.heap H locs σ → lv_has ls 6 [(0, .ref (ad 0)), (2, .int x2), (3, .int x3), (4, .int x4)] → fn_X6_isOfClass_38 K29 n σ x2 x3 x4 = some res → W p l e rm_X6_isOfClass s m args below meth c H locs 0 0 (MQ below (va_Qi (fun r' u' => r' = res.1 ∧ u' = res.2) (zB D vwCl (tyM cA tr) A (wM ad cA rs)) A) args s 0 0 A) (F0 m 38 ls []) := by
  obtain ⟨hx, hb, hr, hml, hown, htt, hlocks, hnw⟩ := id C0
  intro n
  induction n with
  | zero => intro σ x2 x3 x4 H locs ls hZ hl hf; exact no_some hf
  | succ n ih =>
    intro σ x2 x3 x4 H locs ls hZ hl hf
    rw [fn_X6_isOfClass_38] at hf
    refine lv_iload hx hb dX6_isOfClass_38 (lv_at hl 3 rfl) ?_
    refine lv_bipush (v := 20) hx hb dX6_isOfClass_40 (by decide) ?_
    refine lv_icmp_ge (tgt := 111) hx hb dX6_isOfClass_42 (by decide) (fun c_1 => ?_) (fun c_1 => ?_)
    · have hf := ite_t c_1 hf
      obtain ⟨v2, e_v2⟩ : ∃ y : Int32, y = x3 + 1 := ⟨_, rfl⟩
      have hf := lt_n e_v2 hf
      refine lv_iinc (v := v2) (lv' := [(3, .int v2), (0, .ref (ad 0)), (2, .int x2), (4, .int x4)]) hx hb dX6_isOfClass_111 hl (k := 2) rfl (by rw [e_v2]; rfl) (by decide) rfl (fun ls hl => ?_)
      refine lv_goto (tgt := 29) hx hb dX6_isOfClass_114 (by decide) ?_
      exact hK29 σ x2 v2 _ _ _ hZ (lv_sub hl [1, 2, 0] rfl) hf
    · have hf := ite_f c_1 hf
      refine lv_iconst (v := 0) hx hb dX6_isOfClass_45 (by decide) ?_
      refine lv_istore (lv' := [(5, .int 0), (0, .ref (ad 0)), (2, .int x2), (3, .int x3), (4, .int x4)]) hx hb dX6_isOfClass_46 hl (by decide) rfl (fun ls hl => ?_)
      exact wk_X6_isOfClass_48 C0 K29 hK29 (fn_X6_isOfClass_38 K29 n) ih fu σ x2 x3 x4 0 _ _ _ hZ (lv_sub hl [1, 2, 3, 4, 0] rfl) hf
set_option maxHeartbeats 4000000 in
set_option maxRecDepth 100000 in
theorem wk_X6_isOfClass_29 {p : Program} {l : Launch} {e : Env} {s : State} {m : MethodId} {args : Array Value} {below : List Frame} {meth : Method} {c : Code} {D : va_G} {A : Nat → Prop} {ad : Nat → Nat} {cA : Nat → ClassId} {rs : va_W} {tr : List (ClassId × FieldType)} {res : Int32 × S2} (C0 : cx p m meth c cX6_isOfClass (some .boolean) 6 s args tb nl RX6) : ∀ (n : Nat) (σ : S2) (x2 : Int32) (x3 : Int32), ∀ (H : Heap) (locs : List Loc) (ls : Array Slot), zz D vwCl (tyM cA tr) A (wM ad cA rs) s s.heap H locs σ → lv_has ls 6 [(0, .ref (ad 0)), (2, .int x2), (3, .int x3)] → fn_X6_isOfClass_29 n σ x2 x3 = some res → W p l e rm_X6_isOfClass s m args below meth c H locs 0 0 (MQ below (va_Qi (fun r' u' => r' = res.1 ∧ u' = res.2) (zB D vwCl (tyM cA tr) A (wM ad cA rs)) A) args s 0 0 A) (F0 m 29 ls []) := by
  obtain ⟨hx, hb, hr, hml, hown, htt, hlocks, hnw⟩ := id C0
  intro n
  induction n with
  | zero => intro σ x2 x3 H locs ls hZ hl hf; exact no_some hf
  | succ n ih =>
    intro σ x2 x3 H locs ls hZ hl hf
    rw [fn_X6_isOfClass_29] at hf
    refine lv_iload_n hx hb dX6_isOfClass_29 rfl (lv_at hl 2 rfl) ?_
    refine lv_bipush (v := 20) hx hb dX6_isOfClass_30 (by decide) ?_
    refine lv_icmp_ge (tgt := 117) hx hb dX6_isOfClass_32 (by decide) (fun c_1 => ?_) (fun c_1 => ?_)
    · have hf := ite_t c_1 hf
      refine lv_aload_n hx hb dX6_isOfClass_117 rfl (lv_at hl 0 rfl) ?_
      refine z_get hx hb htt iw_X6 hown hZ 0 rfl rfl 17 (by decide) lf_X6_50 rfl dX6_isOfClass_118 ?_
      refine lv_iload_n hx hb dX6_isOfClass_121 rfl (lv_at hl 1 rfl) ?_
      obtain ⟨h_2, hf⟩ := ck_s hf
      refine z_zld hx hb hZ 14 13 rfl rfl h_2 dX6_isOfClass_122 ?_
      obtain ⟨h_3, hf⟩ := cb_s hf
      exact z_zret hx hb hr hlocks hZ h_3 (sp_1 hf) (sp_2 hf) dX6_isOfClass_123
    · have hf := ite_f c_1 hf
      refine lv_iconst (v := 0) hx hb dX6_isOfClass_35 (by decide) ?_
      refine lv_istore (lv' := [(4, .int 0), (0, .ref (ad 0)), (2, .int x2), (3, .int x3)]) hx hb dX6_isOfClass_36 hl (by decide) rfl (fun ls hl => ?_)
      exact wk_X6_isOfClass_38 C0 (fn_X6_isOfClass_29 n) ih fu σ x2 x3 0 _ _ _ hZ (lv_sub hl [1, 2, 3, 0] rfl) hf
set_option maxHeartbeats 4000000 in
set_option maxRecDepth 100000 in
theorem wk_X6_isOfClass_2 {p : Program} {l : Launch} {e : Env} {s : State} {m : MethodId} {args : Array Value} {below : List Frame} {meth : Method} {c : Code} {D : va_G} {A : Nat → Prop} {ad : Nat → Nat} {cA : Nat → ClassId} {rs : va_W} {tr : List (ClassId × FieldType)} {res : Int32 × S2} (C0 : cx p m meth c cX6_isOfClass (some .boolean) 6 s args tb nl RX6) : ∀ (n : Nat) (σ : S2) (x1 : Int32) (x2 : Int32) (x3 : Int32), ∀ (H : Heap) (locs : List Loc) (ls : Array Slot), zz D vwCl (tyM cA tr) A (wM ad cA rs) s s.heap H locs σ → lv_has ls 6 [(0, .ref (ad 0)), (1, .int x1), (2, .int x2), (3, .int x3)] → fn_X6_isOfClass_2 n σ x1 x2 x3 = some res → W p l e rm_X6_isOfClass s m args below meth c H locs 0 0 (MQ below (va_Qi (fun r' u' => r' = res.1 ∧ u' = res.2) (zB D vwCl (tyM cA tr) A (wM ad cA rs)) A) args s 0 0 A) (F0 m 2 ls []) := by
  obtain ⟨hx, hb, hr, hml, hown, htt, hlocks, hnw⟩ := id C0
  intro n
  induction n with
  | zero => intro σ x1 x2 x3 H locs ls hZ hl hf; exact no_some hf
  | succ n ih =>
    intro σ x1 x2 x3 H locs ls hZ hl hf
    rw [fn_X6_isOfClass_2] at hf
    refine lv_iload_n hx hb dX6_isOfClass_2 rfl (lv_at hl 3 rfl) ?_
    refine lv_bipush (v := 32) hx hb dX6_isOfClass_3 (by decide) ?_
    refine lv_icmp_ge (tgt := 27) hx hb dX6_isOfClass_5 (by decide) (fun c_1 => ?_) (fun c_1 => ?_)
    · have hf := ite_t c_1 hf
      refine lv_iconst (v := 0) hx hb dX6_isOfClass_27 (by decide) ?_
      refine lv_istore_n (lv' := [(3, .int 0), (0, .ref (ad 0)), (1, .int x1), (2, .int x2)]) hx hb dX6_isOfClass_28 rfl hl (by decide) rfl (fun ls hl => ?_)
      exact wk_X6_isOfClass_29 C0  fu σ x2 0 _ _ _ hZ (lv_sub hl [1, 3, 0] rfl) hf
    · have hf := ite_f c_1 hf
      refine lv_aload_n hx hb dX6_isOfClass_8 rfl (lv_at hl 0 rfl) ?_
      refine z_get hx hb htt iw_X6 hown hZ 0 rfl rfl 17 (by decide) lf_X6_50 rfl dX6_isOfClass_9 ?_
      refine lv_iload_n hx hb dX6_isOfClass_12 rfl (lv_at hl 3 rfl) ?_
      refine lv_aload_n hx hb dX6_isOfClass_13 rfl (lv_at hl 0 rfl) ?_
      refine lv_iload_n hx hb dX6_isOfClass_14 rfl (lv_at hl 1 rfl) ?_
      refine lv_iconst (v := 0) hx hb dX6_isOfClass_15 (by decide) ?_
      refine lv_iload_n hx hb dX6_isOfClass_16 rfl (lv_at hl 3 rfl) ?_
      obtain ⟨r3, k_2, hf⟩ := bn_s hf
      refine z_calli (z_runV (As := [.int x1, .int 0, .int x3]) (rest := [.int x3, .ref (ad 14)]) ⟨hx, hb, hml, hown, htt⟩ gT (ct_X6_leads l D A ad cA rs tr σ x1 0 x3 k_2) md_X6_leads lm_X6_77 rfl rfl ⟨Nat.le_of_ble_eq_true rfl, Nat.le_of_ble_eq_true rfl⟩ (z_preV gN hnw hZ rfl (q0 := 0) (ci := 6) rfl) rfl rfl hl.1 rfl (lv_room (Nat.le_of_ble_eq_true rfl)) dX6_isOfClass_17 ⟨Nat.le_of_ble_eq_true rfl, Nat.le_of_ble_eq_true rfl⟩) hZ (fun H locs hZ => ?_)
      obtain ⟨h_4, hf⟩ := ck_s hf
      refine z_zst (σ' := st σ 14 (x3).toNatClampNeg (vp_nar .boolean r3)) hx hb hZ 14 13 rfl rfl h_4 dX6_isOfClass_20 rfl (fun σ5 H locs e_σ5 hZ => ?_)
      have hf := lt_n e_σ5 hf
      obtain ⟨v6, e_v6⟩ : ∃ y : Int32, y = x3 + 1 := ⟨_, rfl⟩
      have hf := lt_n e_v6 hf
      refine lv_iinc (v := v6) (lv' := [(3, .int v6), (0, .ref (ad 0)), (1, .int x1), (2, .int x2)]) hx hb dX6_isOfClass_21 hl (k := 3) rfl (by rw [e_v6]; rfl) (by decide) rfl (fun ls hl => ?_)
      refine lv_goto (tgt := 2) hx hb dX6_isOfClass_24 (by decide) ?_
      exact ih σ5 x1 x2 v6 _ _ _ hZ (lv_sub hl [1, 2, 3, 0] rfl) hf
set_option maxHeartbeats 4000000 in
set_option maxRecDepth 100000 in
theorem ct_X6_isOfClass (l : Launch) (D : va_G) (A : Nat → Prop) (ad : Nat → Nat) (cA : Nat → ClassId) (rs : va_W) (tr : List (ClassId × FieldType)) (σ : S2) (x1 : Int32) (x2 : Int32) {res : Int32 × S2} (hf : fn_X6_isOfClass σ x1 x2 = some res) : Met l yX6_isOfClass (.code yX6_isOfClass cX6_isOfClass 6 (some .boolean) :: tb) rm_X6_isOfClass (va_Pc [.ref (ad 0), .int x1, .int x2] (zN D vwCl (tyM cA tr) A (wM ad cA rs) nl σ)) (va_Qi (fun r' u' => r' = res.1 ∧ u' = res.2) (zB D vwCl (tyM cA tr) A (wM ad cA rs)) A) 0 0 A := by
  refine Met.ofW (cc := cX6_isOfClass) (maxL := 6) (ret := (some .boolean)) (by decide) rfl ?_
  intro p e s m args below meth c s₁ B hml hv
  obtain ⟨rfl, hB, hnw0⟩ := hv
  have htt : ∀ w ∈ tb, w.before (([.ref (ad 0), .int x1, .int x2] : List Value).toArray) s = true := fun w h => atoms_spec (ws := (.code yX6_isOfClass cX6_isOfClass 6 (some .boolean) :: tb)) B.pre w (List.mem_cons_of_mem _ h)
  have C0 : cx p m meth c cX6_isOfClass (some .boolean) 6 s (([.ref (ad 0), .int x1, .int x2] : List Value).toArray) tb nl RX6 := ⟨B.exec, B.bytes, B.returns, hml, findClass_of_methodNamed B.named, htt, B.notSynchronized, hnw0⟩
  obtain ⟨hx, hb, hr, hml, hown, htt, hlocks, hnw⟩ := id C0
  have hZ := z_start hB
  have hl := lv_entry ([.ref (ad 0), .int x1, .int x2]) (n := 6) (Nat.le_of_ble_eq_true rfl)
  rw [lg_entry_eq]
  generalize (lg_sl ([.ref (ad 0), .int x1, .int x2]) ++ List.replicate (6 - (lg_sl ([.ref (ad 0), .int x1, .int x2])).length) Slot.unset).toArray = ls at hl ⊢
  have hl : lv_has ls 6 [(0, .ref (ad 0)), (1, .int x1), (2, .int x2)] := hl
  unfold fn_X6_isOfClass at hf
  refine lv_iconst (v := 0) hx hb dX6_isOfClass_0 (by decide) ?_
  refine lv_istore_n (lv' := [(3, .int 0), (0, .ref (ad 0)), (1, .int x1), (2, .int x2)]) hx hb dX6_isOfClass_1 rfl hl (by decide) rfl (fun ls hl => ?_)
  exact wk_X6_isOfClass_2 C0  fu σ x1 x2 0 _ _ _ hZ (lv_sub hl [1, 2, 3, 0] rfl) hf
abbrev rm_X6_isValue : Room := { frames := 1, cells := 0, slots := 0, locals := 23 }
def fn_X6_isValue (σ : S2) (x1 : Int32) (x2 : Int32) (x3 : Int32) : Option (Int32) := ck x2 12 (lt ((σ.1 2 (x2).toNatClampNeg)) (fun v2 => if 0 ≤ v2 then if 8 ≤ v2 then bn (fn_X6_leads σ x3 (v2 - 8) x1) (fun r6 => cb r6 (some r6)) else bn (fn_X6_leads σ x1 v2 x3) (fun r9 => cb r9 (some r9)) else if x3 = x1 then some 1 else some 0))
set_option maxHeartbeats 4000000 in
set_option maxRecDepth 100000 in
theorem ct_X6_isValue (l : Launch) (D : va_G) (A : Nat → Prop) (ad : Nat → Nat) (cA : Nat → ClassId) (rs : va_W) (tr : List (ClassId × FieldType)) (σ : S2) (x1 : Int32) (x2 : Int32) (x3 : Int32) {res : Int32} (hf : fn_X6_isValue σ x1 x2 x3 = some res) : Met l yX6_isValue (.code yX6_isValue cX6_isValue 5 (some .boolean) :: tb) rm_X6_isValue (va_Pc [.ref (ad 0), .int x1, .int x2, .int x3] (zN D vwCl (tyM cA tr) A (wM ad cA rs) nl σ)) (va_Qi (fun r' u' => r' = res ∧ u' = σ) (zB D vwCl (tyM cA tr) A (wM ad cA rs)) A) 0 0 A := by
  refine Met.ofW (cc := cX6_isValue) (maxL := 5) (ret := (some .boolean)) (by decide) rfl ?_
  intro p e s m args below meth c s₁ B hml hv
  obtain ⟨rfl, hB, hnw0⟩ := hv
  have htt : ∀ w ∈ tb, w.before (([.ref (ad 0), .int x1, .int x2, .int x3] : List Value).toArray) s = true := fun w h => atoms_spec (ws := (.code yX6_isValue cX6_isValue 5 (some .boolean) :: tb)) B.pre w (List.mem_cons_of_mem _ h)
  have C0 : cx p m meth c cX6_isValue (some .boolean) 5 s (([.ref (ad 0), .int x1, .int x2, .int x3] : List Value).toArray) tb nl RX6 := ⟨B.exec, B.bytes, B.returns, hml, findClass_of_methodNamed B.named, htt, B.notSynchronized, hnw0⟩
  obtain ⟨hx, hb, hr, hml, hown, htt, hlocks, hnw⟩ := id C0
  have hZ := z_start hB
  have hl := lv_entry ([.ref (ad 0), .int x1, .int x2, .int x3]) (n := 5) (Nat.le_of_ble_eq_true rfl)
  rw [lg_entry_eq]
  generalize (lg_sl ([.ref (ad 0), .int x1, .int x2, .int x3]) ++ List.replicate (5 - (lg_sl ([.ref (ad 0), .int x1, .int x2, .int x3])).length) Slot.unset).toArray = ls at hl ⊢
  have hl : lv_has ls 5 [(0, .ref (ad 0)), (1, .int x1), (2, .int x2), (3, .int x3)] := hl
  unfold fn_X6_isValue at hf
  refine lv_aload_n hx hb dX6_isValue_0 rfl (lv_at hl 0 rfl) ?_
  refine z_get hx hb htt iw_X6 hown hZ 0 rfl rfl 3 (by decide) lf_X6_13 rfl dX6_isValue_1 ?_
  refine lv_iload_n hx hb dX6_isValue_4 rfl (lv_at hl 2 rfl) ?_
  obtain ⟨h_1, hf⟩ := ck_s hf
  refine z_ild hx hb hZ 2 1 rfl rfl h_1 dX6_isValue_5 ?_
  refine lv_topi (fun v2 e_v2 => ?_)
  have hf := lt_n e_v2 hf
  refine lv_istore (lv' := [(4, .int v2), (0, .ref (ad 0)), (1, .int x1), (2, .int x2), (3, .int x3)]) hx hb dX6_isValue_6 hl (by decide) rfl (fun ls hl => ?_)
  refine lv_iload hx hb dX6_isValue_8 (lv_at hl 0 rfl) ?_
  refine lv_if_ge (tgt := 26) hx hb dX6_isValue_10 (by decide) (fun c_3 => ?_) (fun c_3 => ?_)
  · have hf := ite_t c_3 hf
    refine lv_iload hx hb dX6_isValue_26 (lv_at hl 0 rfl) ?_
    refine lv_bipush (v := 8) hx hb dX6_isValue_28 (by decide) ?_
    refine lv_icmp_ge (tgt := 44) hx hb dX6_isValue_30 (by decide) (fun c_4 => ?_) (fun c_4 => ?_)
    · have hf := ite_t c_4 hf
      refine lv_aload_n hx hb dX6_isValue_44 rfl (lv_at hl 1 rfl) ?_
      refine lv_iload_n hx hb dX6_isValue_45 rfl (lv_at hl 4 rfl) ?_
      refine lv_iload hx hb dX6_isValue_46 (lv_at hl 0 rfl) ?_
      refine lv_bipush (v := 8) hx hb dX6_isValue_48 (by decide) ?_
      refine lv_isub hx hb dX6_isValue_50 ?_
      refine lv_iload_n hx hb dX6_isValue_51 rfl (lv_at hl 2 rfl) ?_
      obtain ⟨r6, k_5, hf⟩ := bn_s hf
      refine z_calli (z_runV (As := [.int x3, .int (v2 - 8), .int x1]) (rest := []) ⟨hx, hb, hml, hown, htt⟩ gT (ct_X6_leads l D A ad cA rs tr σ x3 (v2 - 8) x1 k_5) md_X6_leads lm_X6_77 rfl rfl ⟨Nat.le_of_ble_eq_true rfl, Nat.le_of_ble_eq_true rfl⟩ (z_preV gN hnw hZ rfl (q0 := 0) (ci := 6) rfl) rfl rfl hl.1 rfl (lv_room (Nat.le_of_ble_eq_true rfl)) dX6_isValue_52 ⟨Nat.le_of_ble_eq_true rfl, Nat.le_of_ble_eq_true rfl⟩) hZ (fun H locs hZ => ?_)
      obtain ⟨h_7, hf⟩ := cb_s hf
      exact z_zret hx hb hr hlocks hZ h_7 (Option.some.inj hf) rfl dX6_isValue_55
    · have hf := ite_f c_4 hf
      refine lv_aload_n hx hb dX6_isValue_33 rfl (lv_at hl 1 rfl) ?_
      refine lv_iload_n hx hb dX6_isValue_34 rfl (lv_at hl 2 rfl) ?_
      refine lv_iload hx hb dX6_isValue_35 (lv_at hl 0 rfl) ?_
      refine lv_iload_n hx hb dX6_isValue_37 rfl (lv_at hl 4 rfl) ?_
      obtain ⟨r9, k_8, hf⟩ := bn_s hf
      refine z_calli (z_runV (As := [.int x1, .int v2, .int x3]) (rest := []) ⟨hx, hb, hml, hown, htt⟩ gT (ct_X6_leads l D A ad cA rs tr σ x1 v2 x3 k_8) md_X6_leads lm_X6_77 rfl rfl ⟨Nat.le_of_ble_eq_true rfl, Nat.le_of_ble_eq_true rfl⟩ (z_preV gN hnw hZ rfl (q0 := 0) (ci := 6) rfl) rfl rfl hl.1 rfl (lv_room (Nat.le_of_ble_eq_true rfl)) dX6_isValue_38 ⟨Nat.le_of_ble_eq_true rfl, Nat.le_of_ble_eq_true rfl⟩) hZ (fun H locs hZ => ?_)
      refine lv_goto (tgt := 55) hx hb dX6_isValue_41 (by decide) ?_
      obtain ⟨h_10, hf⟩ := cb_s hf
      exact z_zret hx hb hr hlocks hZ h_10 (Option.some.inj hf) rfl dX6_isValue_55
  · have hf := ite_f c_3 hf
    refine lv_iload_n hx hb dX6_isValue_13 rfl (lv_at hl 4 rfl) ?_
    refine lv_iload_n hx hb dX6_isValue_14 rfl (lv_at hl 2 rfl) ?_
    refine lv_icmp_ne (tgt := 22) hx hb dX6_isValue_15 (by decide) (fun c_11 => ?_) (fun c_11 => ?_)
    · have hf := ite_f c_11 hf
      refine lv_iconst (v := 0) hx hb dX6_isValue_22 (by decide) ?_
      refine lv_goto (tgt := 55) hx hb dX6_isValue_23 (by decide) ?_
      exact z_zret hx hb hr hlocks hZ rfl (Option.some.inj hf) rfl dX6_isValue_55
    · have hf := ite_t c_11 hf
      refine lv_iconst (v := 1) hx hb dX6_isValue_18 (by decide) ?_
      refine lv_goto (tgt := 55) hx hb dX6_isValue_19 (by decide) ?_
      exact z_zret hx hb hr hlocks hZ rfl (Option.some.inj hf) rfl dX6_isValue_55
abbrev rm_X6_isFor : Room := { frames := 2, cells := 0, slots := 0, locals := 48 }
def fn_X6_isFor_120 (K5 : S2 → Int32 → Int32 → Int32 → Int32 → Option (Int32 × S2)) (K91 : S2 → Int32 → Int32 → Int32 → Int32 → Int32 → Int32 → Int32 → Option (Int32 × S2)) (σ : S2) (x1 : Int32) (x2 : Int32) (x4 : Int32) (x5 : Int32) (x6 : Int32) (x7 : Int32) : Option (Int32 × S2) := if x6 = 3 then bn (fn_X6_leads σ x7 x5 x2) (fun r4 => if r4 = 0 then lt (x7 + 1) (fun v6 => K91 σ x1 x2 0 x4 x5 x6 v6) else lt (x7 + 1) (fun v7 => K91 σ x1 x2 1 x4 x5 x6 v7)) else lt (x7 + 1) (fun v2 => K91 σ x1 x2 0 x4 x5 x6 v2)
def fn_X6_isFor_91 (K5 : S2 → Int32 → Int32 → Int32 → Int32 → Option (Int32 × S2)) : Nat → S2 → Int32 → Int32 → Int32 → Int32 → Int32 → Int32 → Int32 → Option (Int32 × S2)
  | 0, _, _, _, _, _, _, _, _ => none
  | n + 1, σ, x1, x2, x3, x4, x5, x6, x7 => if 32 ≤ x7 then lt (x4 + 1) (fun v2 => K5 σ x1 x2 x3 v2) else if x3 = 0 then if x6 = 2 then bn (fn_X6_leads σ x2 x5 x7) (fun r7 => if r7 = 0 then fn_X6_isFor_120 K5 (fn_X6_isFor_91 K5 n) σ x1 x2 x4 x5 x6 x7 else lt (x7 + 1) (fun v9 => fn_X6_isFor_91 K5 n σ x1 x2 1 x4 x5 x6 v9)) else fn_X6_isFor_120 K5 (fn_X6_isFor_91 K5 n) σ x1 x2 x4 x5 x6 x7 else lt (x7 + 1) (fun v4 => fn_X6_isFor_91 K5 n σ x1 x2 1 x4 x5 x6 v4)
def fn_X6_isFor_5 : Nat → S2 → Int32 → Int32 → Int32 → Int32 → Option (Int32 × S2)
  | 0, _, _, _, _, _ => none
  | n + 1, σ, x1, x2, x3, x4 => if (σ.1 22 0) ≤ x4 then cb x3 (some (x3, σ)) else if x3 = 0 then ck x4 24 (if (σ.1 4 (x4).toNatClampNeg) = x1 then ck x4 24 (lt ((σ.1 6 (x4).toNatClampNeg)) (fun v9 => ck x4 24 (lt ((σ.1 5 (x4).toNatClampNeg)) (fun v11 => if v11 = 0 then if x2 = v9 then fn_X6_isFor_91 (fn_X6_isFor_5 n) fu σ x1 x2 1 x4 v9 v11 0 else fn_X6_isFor_91 (fn_X6_isFor_5 n) fu σ x1 x2 0 x4 v9 v11 0 else if v11 = 1 then bn2 (fn_X6_isOfClass σ x2 v9) (fun r16 σ15 => if r16 = 0 then fn_X6_isFor_91 (fn_X6_isFor_5 n) fu σ15 x1 x2 0 x4 v9 v11 0 else fn_X6_isFor_91 (fn_X6_isFor_5 n) fu σ15 x1 x2 1 x4 v9 v11 0) else fn_X6_isFor_91 (fn_X6_isFor_5 n) fu σ x1 x2 0 x4 v9 v11 0)))) else lt (x4 + 1) (fun v7 => fn_X6_isFor_5 n σ x1 x2 x3 v7)) else cb x3 (some (x3, σ))
def fn_X6_isFor (σ : S2) (x1 : Int32) (x2 : Int32) : Option (Int32 × S2) := fn_X6_isFor_5 fu σ x1 x2 0 0
set_option maxHeartbeats 4000000 in
set_option maxRecDepth 100000 in
theorem wk_X6_isFor_120 {p : Program} {l : Launch} {e : Env} {s : State} {m : MethodId} {args : Array Value} {below : List Frame} {meth : Method} {c : Code} {D : va_G} {A : Nat → Prop} {ad : Nat → Nat} {cA : Nat → ClassId} {rs : va_W} {tr : List (ClassId × FieldType)} {res : Int32 × S2} (C0 : cx p m meth c cX6_isFor (some .boolean) 8 s args tb nl RX6) (K5 : S2 → Int32 → Int32 → Int32 → Int32 → Option (Int32 × S2)) (hK5 : ∀ (σ : S2) (x1 : Int32) (x2 : Int32) (x3 : Int32) (x4 : Int32), ∀ (H : Heap) (locs : List Loc) (ls : Array Slot), zz D vwCl (tyM cA tr) A (wM ad cA rs) s s.heap H locs σ → lv_has ls 8 [(0, .ref (ad 0)), (1, .int x1), (2, .int x2), (3, .int x3), (4, .int x4)] → K5 σ x1 x2 x3 x4 = some res → W p l e rm_X6_isFor s m args below meth c H locs 0 0 (MQ below (va_Qi (fun r' u' => r' = res.1 ∧ u' = res.2) (zB D vwCl (tyM cA tr) A (wM ad cA rs)) A) args s 0 0 A) (F0 m 5 ls [])) (K91 : S2 → Int32 → Int32 → Int32 → Int32 → Int32 → Int32 → Int32 → Option (Int32 × S2)) (hK91 : ∀ (σ : S2) (x1 : Int32) (x2 : Int32) (x3 : Int32) (x4 : Int32) (x5 : Int32) (x6 : Int32) (x7 : Int32), ∀ (H : Heap) (locs : List Loc) (ls : Array Slot), zz D vwCl (tyM cA tr) A (wM ad cA rs) s s.heap H locs σ → lv_has ls 8 [(0, .ref (ad 0)), (1, .int x1), (2, .int x2), (3, .int x3), (4, .int x4), (5, .int x5), (6, .int x6), (7, .int x7)] → K91 σ x1 x2 x3 x4 x5 x6 x7 = some res → W p l e rm_X6_isFor s m args below meth c H locs 0 0 (MQ below (va_Qi (fun r' u' => r' = res.1 ∧ u' = res.2) (zB D vwCl (tyM cA tr) A (wM ad cA rs)) A) args s 0 0 A) (F0 m 91 ls [])) : ∀ (σ : S2) (x1 : Int32) (x2 : Int32) (x4 : Int32) (x5 : Int32) (x6 : Int32) (x7 : Int32), ∀ (H : Heap) (locs : List Loc) (ls : Array Slot), zz D vwCl (tyM cA tr) A (wM ad cA rs) s s.heap H locs σ → lv_has ls 8 [(0, .ref (ad 0)), (1, .int x1), (2, .int x2), (4, .int x4), (5, .int x5), (6, .int x6), (7, .int x7)] → fn_X6_isFor_120 K5 K91 σ x1 x2 x4 x5 x6 x7 = some res → W p l e rm_X6_isFor s m args below meth c H locs 0 0 (MQ below (va_Qi (fun r' u' => r' = res.1 ∧ u' = res.2) (zB D vwCl (tyM cA tr) A (wM ad cA rs)) A) args s 0 0 A) (F0 m 120 ls []) := by
  obtain ⟨hx, hb, hr, hml, hown, htt, hlocks, hnw⟩ := id C0
  intro σ x1 x2 x4 x5 x6 x7 H locs ls hZ hl hf
  unfold fn_X6_isFor_120 at hf
  refine lv_iload hx hb dX6_isFor_120 (lv_at hl 5 rfl) ?_
  refine lv_iconst (v := 3) hx hb dX6_isFor_122 (by decide) ?_
  refine lv_icmp_ne (tgt := 142) hx hb dX6_isFor_123 (by decide) (fun c_1 => ?_) (fun c_1 => ?_)
  · have hf := ite_f c_1 hf
    refine lv_iconst (v := 0) hx hb dX6_isFor_142 (by decide) ?_
    refine lv_istore_n (lv' := [(3, .int 0), (0, .ref (ad 0)), (1, .int x1), (2, .int x2), (4, .int x4), (5, .int x5), (6, .int x6), (7, .int x7)]) hx hb dX6_isFor_143 rfl hl (by decide) rfl (fun ls hl => ?_)
    obtain ⟨v2, e_v2⟩ : ∃ y : Int32, y = x7 + 1 := ⟨_, rfl⟩
    have hf := lt_n e_v2 hf
    refine lv_iinc (v := v2) (lv' := [(7, .int v2), (3, .int 0), (0, .ref (ad 0)), (1, .int x1), (2, .int x2), (4, .int x4), (5, .int x5), (6, .int x6)]) hx hb dX6_isFor_144 hl (k := 7) rfl (by rw [e_v2]; rfl) (by decide) rfl (fun ls hl => ?_)
    refine lv_goto (tgt := 91) hx hb dX6_isFor_147 (by decide) ?_
    exact hK91 σ x1 x2 0 x4 x5 x6 v2 _ _ _ hZ (lv_sub hl [2, 3, 4, 1, 5, 6, 7, 0] rfl) hf
  · have hf := ite_t c_1 hf
    refine lv_aload_n hx hb dX6_isFor_126 rfl (lv_at hl 0 rfl) ?_
    refine lv_iload hx hb dX6_isFor_127 (lv_at hl 6 rfl) ?_
    refine lv_iload hx hb dX6_isFor_129 (lv_at hl 4 rfl) ?_
    refine lv_iload_n hx hb dX6_isFor_131 rfl (lv_at hl 2 rfl) ?_
    obtain ⟨r4, k_3, hf⟩ := bn_s hf
    refine z_calli (z_runV (As := [.int x7, .int x5, .int x2]) (rest := []) ⟨hx, hb, hml, hown, htt⟩ gT (ct_X6_leads l D A ad cA rs tr σ x7 x5 x2 k_3) md_X6_leads lm_X6_77 rfl rfl ⟨Nat.le_of_ble_eq_true rfl, Nat.le_of_ble_eq_true rfl⟩ (z_preV gN hnw hZ rfl (q0 := 0) (ci := 6) rfl) rfl rfl hl.1 rfl (lv_room (Nat.le_of_ble_eq_true rfl)) dX6_isFor_132 ⟨Nat.le_of_ble_eq_true rfl, Nat.le_of_ble_eq_true rfl⟩) hZ (fun H locs hZ => ?_)
    refine lv_if_eq (tgt := 142) hx hb dX6_isFor_135 (by decide) (fun c_5 => ?_) (fun c_5 => ?_)
    · have hf := ite_t c_5 hf
      refine lv_iconst (v := 0) hx hb dX6_isFor_142 (by decide) ?_
      refine lv_istore_n (lv' := [(3, .int 0), (0, .ref (ad 0)), (1, .int x1), (2, .int x2), (4, .int x4), (5, .int x5), (6, .int x6), (7, .int x7)]) hx hb dX6_isFor_143 rfl hl (by decide) rfl (fun ls hl => ?_)
      obtain ⟨v6, e_v6⟩ : ∃ y : Int32, y = x7 + 1 := ⟨_, rfl⟩
      have hf := lt_n e_v6 hf
      refine lv_iinc (v := v6) (lv' := [(7, .int v6), (3, .int 0), (0, .ref (ad 0)), (1, .int x1), (2, .int x2), (4, .int x4), (5, .int x5), (6, .int x6)]) hx hb dX6_isFor_144 hl (k := 7) rfl (by rw [e_v6]; rfl) (by decide) rfl (fun ls hl => ?_)
      refine lv_goto (tgt := 91) hx hb dX6_isFor_147 (by decide) ?_
      exact hK91 σ x1 x2 0 x4 x5 x6 v6 _ _ _ hZ (lv_sub hl [2, 3, 4, 1, 5, 6, 7, 0] rfl) hf
    · have hf := ite_f c_5 hf
      refine lv_iconst (v := 1) hx hb dX6_isFor_138 (by decide) ?_
      refine lv_goto (tgt := 143) hx hb dX6_isFor_139 (by decide) ?_
      refine lv_istore_n (lv' := [(3, .int 1), (0, .ref (ad 0)), (1, .int x1), (2, .int x2), (4, .int x4), (5, .int x5), (6, .int x6), (7, .int x7)]) hx hb dX6_isFor_143 rfl hl (by decide) rfl (fun ls hl => ?_)
      obtain ⟨v7, e_v7⟩ : ∃ y : Int32, y = x7 + 1 := ⟨_, rfl⟩
      have hf := lt_n e_v7 hf
      refine lv_iinc (v := v7) (lv' := [(7, .int v7), (3, .int 1), (0, .ref (ad 0)), (1, .int x1), (2, .int x2), (4, .int x4), (5, .int x5), (6, .int x6)]) hx hb dX6_isFor_144 hl (k := 7) rfl (by rw [e_v7]; rfl) (by decide) rfl (fun ls hl => ?_)
      refine lv_goto (tgt := 91) hx hb dX6_isFor_147 (by decide) ?_
      exact hK91 σ x1 x2 1 x4 x5 x6 v7 _ _ _ hZ (lv_sub hl [2, 3, 4, 1, 5, 6, 7, 0] rfl) hf
set_option maxHeartbeats 4000000 in
set_option maxRecDepth 100000 in
theorem wk_X6_isFor_91 {p : Program} {l : Launch} {e : Env} {s : State} {m : MethodId} {args : Array Value} {below : List Frame} {meth : Method} {c : Code} {D : va_G} {A : Nat → Prop} {ad : Nat → Nat} {cA : Nat → ClassId} {rs : va_W} {tr : List (ClassId × FieldType)} {res : Int32 × S2} (C0 : cx p m meth c cX6_isFor (some .boolean) 8 s args tb nl RX6) (K5 : S2 → Int32 → Int32 → Int32 → Int32 → Option (Int32 × S2)) (hK5 : ∀ (σ : S2) (x1 : Int32) (x2 : Int32) (x3 : Int32) (x4 : Int32), ∀ (H : Heap) (locs : List Loc) (ls : Array Slot), zz D vwCl (tyM cA tr) A (wM ad cA rs) s s.heap H locs σ → lv_has ls 8 [(0, .ref (ad 0)), (1, .int x1), (2, .int x2), (3, .int x3), (4, .int x4)] → K5 σ x1 x2 x3 x4 = some res → W p l e rm_X6_isFor s m args below meth c H locs 0 0 (MQ below (va_Qi (fun r' u' => r' = res.1 ∧ u' = res.2) (zB D vwCl (tyM cA tr) A (wM ad cA rs)) A) args s 0 0 A) (F0 m 5 ls [])) : ∀ (n : Nat) (σ : S2) (x1 : Int32) (x2 : Int32) (x3 : Int32) (x4 : Int32) (x5 : Int32) (x6 : Int32) (x7 : Int32), ∀ (H : Heap) (locs : List Loc) (ls : Array Slot), zz D vwCl (tyM cA tr) A (wM ad cA rs) s s.heap H locs σ → lv_has ls 8 [(0, .ref (ad 0)), (1, .int x1), (2, .int x2), (3, .int x3), (4, .int x4), (5, .int x5), (6, .int x6), (7, .int x7)] → fn_X6_isFor_91 K5 n σ x1 x2 x3 x4 x5 x6 x7 = some res → W p l e rm_X6_isFor s m args below meth c H locs 0 0 (MQ below (va_Qi (fun r' u' => r' = res.1 ∧ u' = res.2) (zB D vwCl (tyM cA tr) A (wM ad cA rs)) A) args s 0 0 A) (F0 m 91 ls []) := by
  obtain ⟨hx, hb, hr, hml, hown, htt, hlocks, hnw⟩ := id C0
  intro n
  induction n with
  | zero => intro σ x1 x2 x3 x4 x5 x6 x7 H locs ls hZ hl hf; exact no_some hf
  | succ n ih =>
    intro σ x1 x2 x3 x4 x5 x6 x7 H locs ls hZ hl hf
    rw [fn_X6_isFor_91] at hf
    refine lv_iload hx hb dX6_isFor_91 (lv_at hl 7 rfl) ?_
    refine lv_bipush (v := 32) hx hb dX6_isFor_93 (by decide) ?_
    refine lv_icmp_ge (tgt := 150) hx hb dX6_isFor_95 (by decide) (fun c_1 => ?_) (fun c_1 => ?_)
    · have hf := ite_t c_1 hf
      obtain ⟨v2, e_v2⟩ : ∃ y : Int32, y = x4 + 1 := ⟨_, rfl⟩
      have hf := lt_n e_v2 hf
      refine lv_iinc (v := v2) (lv' := [(4, .int v2), (0, .ref (ad 0)), (1, .int x1), (2, .int x2), (3, .int x3), (5, .int x5), (6, .int x6), (7, .int x7)]) hx hb dX6_isFor_150 hl (k := 4) rfl (by rw [e_v2]; rfl) (by decide) rfl (fun ls hl => ?_)
      refine lv_goto (tgt := 5) hx hb dX6_isFor_153 (by decide) ?_
      exact hK5 σ x1 x2 x3 v2 _ _ _ hZ (lv_sub hl [1, 2, 3, 4, 0] rfl) hf
    · have hf := ite_f c_1 hf
      refine lv_iload_n hx hb dX6_isFor_98 rfl (lv_at hl 3 rfl) ?_
      refine lv_if_ne (tgt := 138) hx hb dX6_isFor_99 (by decide) (fun c_3 => ?_) (fun c_3 => ?_)
      · have hf := ite_f c_3 hf
        refine lv_iconst (v := 1) hx hb dX6_isFor_138 (by decide) ?_
        refine lv_goto (tgt := 143) hx hb dX6_isFor_139 (by decide) ?_
        refine lv_istore_n (lv' := [(3, .int 1), (0, .ref (ad 0)), (1, .int x1), (2, .int x2), (4, .int x4), (5, .int x5), (6, .int x6), (7, .int x7)]) hx hb dX6_isFor_143 rfl hl (by decide) rfl (fun ls hl => ?_)
        obtain ⟨v4, e_v4⟩ : ∃ y : Int32, y = x7 + 1 := ⟨_, rfl⟩
        have hf := lt_n e_v4 hf
        refine lv_iinc (v := v4) (lv' := [(7, .int v4), (3, .int 1), (0, .ref (ad 0)), (1, .int x1), (2, .int x2), (4, .int x4), (5, .int x5), (6, .int x6)]) hx hb dX6_isFor_144 hl (k := 7) rfl (by rw [e_v4]; rfl) (by decide) rfl (fun ls hl => ?_)
        refine lv_goto (tgt := 91) hx hb dX6_isFor_147 (by decide) ?_
        exact ih σ x1 x2 1 x4 x5 x6 v4 _ _ _ hZ (lv_sub hl [2, 3, 4, 1, 5, 6, 7, 0] rfl) hf
      · have hf := ite_t c_3 hf
        refine lv_iload hx hb dX6_isFor_102 (lv_at hl 6 rfl) ?_
        refine lv_iconst (v := 2) hx hb dX6_isFor_104 (by decide) ?_
        refine lv_icmp_ne (tgt := 120) hx hb dX6_isFor_105 (by decide) (fun c_5 => ?_) (fun c_5 => ?_)
        · have hf := ite_f c_5 hf
          exact wk_X6_isFor_120 C0 K5 hK5 (fn_X6_isFor_91 K5 n) ih σ x1 x2 x4 x5 x6 x7 _ _ _ hZ (lv_sub hl [0, 1, 2, 4, 5, 6, 7] rfl) hf
        · have hf := ite_t c_5 hf
          refine lv_aload_n hx hb dX6_isFor_108 rfl (lv_at hl 0 rfl) ?_
          refine lv_iload_n hx hb dX6_isFor_109 rfl (lv_at hl 2 rfl) ?_
          refine lv_iload hx hb dX6_isFor_110 (lv_at hl 5 rfl) ?_
          refine lv_iload hx hb dX6_isFor_112 (lv_at hl 7 rfl) ?_
          obtain ⟨r7, k_6, hf⟩ := bn_s hf
          refine z_calli (z_runV (As := [.int x2, .int x5, .int x7]) (rest := []) ⟨hx, hb, hml, hown, htt⟩ gT (ct_X6_leads l D A ad cA rs tr σ x2 x5 x7 k_6) md_X6_leads lm_X6_77 rfl rfl ⟨Nat.le_of_ble_eq_true rfl, Nat.le_of_ble_eq_true rfl⟩ (z_preV gN hnw hZ rfl (q0 := 0) (ci := 6) rfl) rfl rfl hl.1 rfl (lv_room (Nat.le_of_ble_eq_true rfl)) dX6_isFor_114 ⟨Nat.le_of_ble_eq_true rfl, Nat.le_of_ble_eq_true rfl⟩) hZ (fun H locs hZ => ?_)
          refine lv_if_ne (tgt := 138) hx hb dX6_isFor_117 (by decide) (fun c_8 => ?_) (fun c_8 => ?_)
          · have hf := ite_f c_8 hf
            refine lv_iconst (v := 1) hx hb dX6_isFor_138 (by decide) ?_
            refine lv_goto (tgt := 143) hx hb dX6_isFor_139 (by decide) ?_
            refine lv_istore_n (lv' := [(3, .int 1), (0, .ref (ad 0)), (1, .int x1), (2, .int x2), (4, .int x4), (5, .int x5), (6, .int x6), (7, .int x7)]) hx hb dX6_isFor_143 rfl hl (by decide) rfl (fun ls hl => ?_)
            obtain ⟨v9, e_v9⟩ : ∃ y : Int32, y = x7 + 1 := ⟨_, rfl⟩
            have hf := lt_n e_v9 hf
            refine lv_iinc (v := v9) (lv' := [(7, .int v9), (3, .int 1), (0, .ref (ad 0)), (1, .int x1), (2, .int x2), (4, .int x4), (5, .int x5), (6, .int x6)]) hx hb dX6_isFor_144 hl (k := 7) rfl (by rw [e_v9]; rfl) (by decide) rfl (fun ls hl => ?_)
            refine lv_goto (tgt := 91) hx hb dX6_isFor_147 (by decide) ?_
            exact ih σ x1 x2 1 x4 x5 x6 v9 _ _ _ hZ (lv_sub hl [2, 3, 4, 1, 5, 6, 7, 0] rfl) hf
          · have hf := ite_t c_8 hf
            exact wk_X6_isFor_120 C0 K5 hK5 (fn_X6_isFor_91 K5 n) ih σ x1 x2 x4 x5 x6 x7 _ _ _ hZ (lv_sub hl [0, 1, 2, 4, 5, 6, 7] rfl) hf
set_option maxHeartbeats 4000000 in
set_option maxRecDepth 100000 in
theorem wk_X6_isFor_5 {p : Program} {l : Launch} {e : Env} {s : State} {m : MethodId} {args : Array Value} {below : List Frame} {meth : Method} {c : Code} {D : va_G} {A : Nat → Prop} {ad : Nat → Nat} {cA : Nat → ClassId} {rs : va_W} {tr : List (ClassId × FieldType)} {res : Int32 × S2} (C0 : cx p m meth c cX6_isFor (some .boolean) 8 s args tb nl RX6) : ∀ (n : Nat) (σ : S2) (x1 : Int32) (x2 : Int32) (x3 : Int32) (x4 : Int32), ∀ (H : Heap) (locs : List Loc) (ls : Array Slot), zz D vwCl (tyM cA tr) A (wM ad cA rs) s s.heap H locs σ → lv_has ls 8 [(0, .ref (ad 0)), (1, .int x1), (2, .int x2), (3, .int x3), (4, .int x4)] → fn_X6_isFor_5 n σ x1 x2 x3 x4 = some res → W p l e rm_X6_isFor s m args below meth c H locs 0 0 (MQ below (va_Qi (fun r' u' => r' = res.1 ∧ u' = res.2) (zB D vwCl (tyM cA tr) A (wM ad cA rs)) A) args s 0 0 A) (F0 m 5 ls []) := by
  obtain ⟨hx, hb, hr, hml, hown, htt, hlocks, hnw⟩ := id C0
  intro n
  induction n with
  | zero => intro σ x1 x2 x3 x4 H locs ls hZ hl hf; exact no_some hf
  | succ n ih =>
    intro σ x1 x2 x3 x4 H locs ls hZ hl hf
    rw [fn_X6_isFor_5] at hf
    refine lv_iload hx hb dX6_isFor_5 (lv_at hl 4 rfl) ?_
    refine lv_aload_n hx hb dX6_isFor_7 rfl (lv_at hl 0 rfl) ?_
    refine z_get hx hb htt iw_X6 hown hZ 0 rfl rfl 5 (by decide) lf_X6_87 rfl dX6_isFor_8 ?_
    refine lv_icmp_ge (tgt := 156) hx hb dX6_isFor_11 (by decide) (fun c_1 => ?_) (fun c_1 => ?_)
    · have hf := ite_t c_1 hf
      refine lv_iload_n hx hb dX6_isFor_156 rfl (lv_at hl 3 rfl) ?_
      obtain ⟨h_2, hf⟩ := cb_s hf
      exact z_zret hx hb hr hlocks hZ h_2 (sp_1 hf) (sp_2 hf) dX6_isFor_157
    · have hf := ite_f c_1 hf
      refine lv_iload_n hx hb dX6_isFor_14 rfl (lv_at hl 3 rfl) ?_
      refine lv_if_ne (tgt := 156) hx hb dX6_isFor_15 (by decide) (fun c_3 => ?_) (fun c_3 => ?_)
      · have hf := ite_f c_3 hf
        refine lv_iload_n hx hb dX6_isFor_156 rfl (lv_at hl 3 rfl) ?_
        obtain ⟨h_4, hf⟩ := cb_s hf
        exact z_zret hx hb hr hlocks hZ h_4 (sp_1 hf) (sp_2 hf) dX6_isFor_157
      · have hf := ite_t c_3 hf
        refine lv_aload_n hx hb dX6_isFor_18 rfl (lv_at hl 0 rfl) ?_
        refine z_get hx hb htt iw_X6 hown hZ 0 rfl rfl 6 (by decide) lf_X6_20 rfl dX6_isFor_19 ?_
        refine lv_iload hx hb dX6_isFor_22 (lv_at hl 4 rfl) ?_
        obtain ⟨h_5, hf⟩ := ck_s hf
        refine z_ild hx hb hZ 4 3 rfl rfl h_5 dX6_isFor_24 ?_
        refine lv_iload_n hx hb dX6_isFor_25 rfl (lv_at hl 1 rfl) ?_
        refine lv_icmp_ne (tgt := 150) hx hb dX6_isFor_26 (by decide) (fun c_6 => ?_) (fun c_6 => ?_)
        · have hf := ite_f c_6 hf
          obtain ⟨v7, e_v7⟩ : ∃ y : Int32, y = x4 + 1 := ⟨_, rfl⟩
          have hf := lt_n e_v7 hf
          refine lv_iinc (v := v7) (lv' := [(4, .int v7), (0, .ref (ad 0)), (1, .int x1), (2, .int x2), (3, .int x3)]) hx hb dX6_isFor_150 hl (k := 4) rfl (by rw [e_v7]; rfl) (by decide) rfl (fun ls hl => ?_)
          refine lv_goto (tgt := 5) hx hb dX6_isFor_153 (by decide) ?_
          exact ih σ x1 x2 x3 v7 _ _ _ hZ (lv_sub hl [1, 2, 3, 4, 0] rfl) hf
        · have hf := ite_t c_6 hf
          refine lv_aload_n hx hb dX6_isFor_29 rfl (lv_at hl 0 rfl) ?_
          refine z_get hx hb htt iw_X6 hown hZ 0 rfl rfl 8 (by decide) lf_X6_26 rfl dX6_isFor_30 ?_
          refine lv_iload hx hb dX6_isFor_33 (lv_at hl 4 rfl) ?_
          obtain ⟨h_8, hf⟩ := ck_s hf
          refine z_ild hx hb hZ 6 5 rfl rfl h_8 dX6_isFor_35 ?_
          refine lv_topi (fun v9 e_v9 => ?_)
          have hf := lt_n e_v9 hf
          refine lv_istore (lv' := [(5, .int v9), (0, .ref (ad 0)), (1, .int x1), (2, .int x2), (3, .int x3), (4, .int x4)]) hx hb dX6_isFor_36 hl (by decide) rfl (fun ls hl => ?_)
          refine lv_aload_n hx hb dX6_isFor_38 rfl (lv_at hl 1 rfl) ?_
          refine z_get hx hb htt iw_X6 hown hZ 0 rfl rfl 7 (by decide) lf_X6_23 rfl dX6_isFor_39 ?_
          refine lv_iload hx hb dX6_isFor_42 (lv_at hl 5 rfl) ?_
          obtain ⟨h_10, hf⟩ := ck_s hf
          refine z_ild hx hb hZ 5 4 rfl rfl h_10 dX6_isFor_44 ?_
          refine lv_topi (fun v11 e_v11 => ?_)
          have hf := lt_n e_v11 hf
          refine lv_istore (lv' := [(6, .int v11), (5, .int v9), (0, .ref (ad 0)), (1, .int x1), (2, .int x2), (3, .int x3), (4, .int x4)]) hx hb dX6_isFor_45 hl (by decide) rfl (fun ls hl => ?_)
          refine lv_iload hx hb dX6_isFor_47 (lv_at hl 0 rfl) ?_
          refine lv_if_ne (tgt := 66) hx hb dX6_isFor_49 (by decide) (fun c_12 => ?_) (fun c_12 => ?_)
          · have hf := ite_f c_12 hf
            refine lv_iload hx hb dX6_isFor_66 (lv_at hl 0 rfl) ?_
            refine lv_iconst (v := 1) hx hb dX6_isFor_68 (by decide) ?_
            refine lv_icmp_ne (tgt := 86) hx hb dX6_isFor_69 (by decide) (fun c_13 => ?_) (fun c_13 => ?_)
            · have hf := ite_f c_13 hf
              refine lv_iconst (v := 0) hx hb dX6_isFor_86 (by decide) ?_
              refine lv_istore_n (lv' := [(3, .int 0), (6, .int v11), (5, .int v9), (0, .ref (ad 0)), (1, .int x1), (2, .int x2), (4, .int x4)]) hx hb dX6_isFor_87 rfl hl (by decide) rfl (fun ls hl => ?_)
              refine lv_iconst (v := 0) hx hb dX6_isFor_88 (by decide) ?_
              refine lv_istore (lv' := [(7, .int 0), (3, .int 0), (6, .int v11), (5, .int v9), (0, .ref (ad 0)), (1, .int x1), (2, .int x2), (4, .int x4)]) hx hb dX6_isFor_89 hl (by decide) rfl (fun ls hl => ?_)
              exact wk_X6_isFor_91 C0 (fn_X6_isFor_5 n) ih fu σ x1 x2 0 x4 v9 v11 0 _ _ _ hZ (lv_sub hl [4, 5, 6, 1, 7, 3, 2, 0] rfl) hf
            · have hf := ite_t c_13 hf
              refine lv_aload_n hx hb dX6_isFor_72 rfl (lv_at hl 2 rfl) ?_
              refine lv_iload_n hx hb dX6_isFor_73 rfl (lv_at hl 4 rfl) ?_
              refine lv_iload hx hb dX6_isFor_74 (lv_at hl 1 rfl) ?_
              obtain ⟨r16, σ15, k_14, hf⟩ := bn2_s hf
              refine z_calli (r := r16) (u := σ15) (z_runV (As := [.int x2, .int v9]) (rest := []) ⟨hx, hb, hml, hown, htt⟩ gT (ct_X6_isOfClass l D A ad cA rs tr σ x2 v9 k_14) md_X6_isOfClass lm_X6_106 rfl rfl ⟨Nat.le_of_ble_eq_true rfl, Nat.le_of_ble_eq_true rfl⟩ (z_preV gN hnw hZ rfl (q0 := 0) (ci := 6) rfl) rfl rfl hl.1 rfl (lv_room (Nat.le_of_ble_eq_true rfl)) dX6_isFor_76 ⟨Nat.le_of_ble_eq_true rfl, Nat.le_of_ble_eq_true rfl⟩) hZ (fun H locs hZ => ?_)
              refine lv_if_eq (tgt := 86) hx hb dX6_isFor_79 (by decide) (fun c_17 => ?_) (fun c_17 => ?_)
              · have hf := ite_t c_17 hf
                refine lv_iconst (v := 0) hx hb dX6_isFor_86 (by decide) ?_
                refine lv_istore_n (lv' := [(3, .int 0), (6, .int v11), (5, .int v9), (0, .ref (ad 0)), (1, .int x1), (2, .int x2), (4, .int x4)]) hx hb dX6_isFor_87 rfl hl (by decide) rfl (fun ls hl => ?_)
                refine lv_iconst (v := 0) hx hb dX6_isFor_88 (by decide) ?_
                refine lv_istore (lv' := [(7, .int 0), (3, .int 0), (6, .int v11), (5, .int v9), (0, .ref (ad 0)), (1, .int x1), (2, .int x2), (4, .int x4)]) hx hb dX6_isFor_89 hl (by decide) rfl (fun ls hl => ?_)
                exact wk_X6_isFor_91 C0 (fn_X6_isFor_5 n) ih fu σ15 x1 x2 0 x4 v9 v11 0 _ _ _ hZ (lv_sub hl [4, 5, 6, 1, 7, 3, 2, 0] rfl) hf
              · have hf := ite_f c_17 hf
                refine lv_iconst (v := 1) hx hb dX6_isFor_82 (by decide) ?_
                refine lv_goto (tgt := 87) hx hb dX6_isFor_83 (by decide) ?_
                refine lv_istore_n (lv' := [(3, .int 1), (6, .int v11), (5, .int v9), (0, .ref (ad 0)), (1, .int x1), (2, .int x2), (4, .int x4)]) hx hb dX6_isFor_87 rfl hl (by decide) rfl (fun ls hl => ?_)
                refine lv_iconst (v := 0) hx hb dX6_isFor_88 (by decide) ?_
                refine lv_istore (lv' := [(7, .int 0), (3, .int 1), (6, .int v11), (5, .int v9), (0, .ref (ad 0)), (1, .int x1), (2, .int x2), (4, .int x4)]) hx hb dX6_isFor_89 hl (by decide) rfl (fun ls hl => ?_)
                exact wk_X6_isFor_91 C0 (fn_X6_isFor_5 n) ih fu σ15 x1 x2 1 x4 v9 v11 0 _ _ _ hZ (lv_sub hl [4, 5, 6, 1, 7, 3, 2, 0] rfl) hf
          · have hf := ite_t c_12 hf
            refine lv_iload_n hx hb dX6_isFor_52 rfl (lv_at hl 4 rfl) ?_
            refine lv_iload hx hb dX6_isFor_53 (lv_at hl 1 rfl) ?_
            refine lv_icmp_ne (tgt := 62) hx hb dX6_isFor_55 (by decide) (fun c_18 => ?_) (fun c_18 => ?_)
            · have hf := ite_f c_18 hf
              refine lv_iconst (v := 0) hx hb dX6_isFor_62 (by decide) ?_
              refine lv_goto (tgt := 87) hx hb dX6_isFor_63 (by decide) ?_
              refine lv_istore_n (lv' := [(3, .int 0), (6, .int v11), (5, .int v9), (0, .ref (ad 0)), (1, .int x1), (2, .int x2), (4, .int x4)]) hx hb dX6_isFor_87 rfl hl (by decide) rfl (fun ls hl => ?_)
              refine lv_iconst (v := 0) hx hb dX6_isFor_88 (by decide) ?_
              refine lv_istore (lv' := [(7, .int 0), (3, .int 0), (6, .int v11), (5, .int v9), (0, .ref (ad 0)), (1, .int x1), (2, .int x2), (4, .int x4)]) hx hb dX6_isFor_89 hl (by decide) rfl (fun ls hl => ?_)
              exact wk_X6_isFor_91 C0 (fn_X6_isFor_5 n) ih fu σ x1 x2 0 x4 v9 v11 0 _ _ _ hZ (lv_sub hl [4, 5, 6, 1, 7, 3, 2, 0] rfl) hf
            · have hf := ite_t c_18 hf
              refine lv_iconst (v := 1) hx hb dX6_isFor_58 (by decide) ?_
              refine lv_goto (tgt := 87) hx hb dX6_isFor_59 (by decide) ?_
              refine lv_istore_n (lv' := [(3, .int 1), (6, .int v11), (5, .int v9), (0, .ref (ad 0)), (1, .int x1), (2, .int x2), (4, .int x4)]) hx hb dX6_isFor_87 rfl hl (by decide) rfl (fun ls hl => ?_)
              refine lv_iconst (v := 0) hx hb dX6_isFor_88 (by decide) ?_
              refine lv_istore (lv' := [(7, .int 0), (3, .int 1), (6, .int v11), (5, .int v9), (0, .ref (ad 0)), (1, .int x1), (2, .int x2), (4, .int x4)]) hx hb dX6_isFor_89 hl (by decide) rfl (fun ls hl => ?_)
              exact wk_X6_isFor_91 C0 (fn_X6_isFor_5 n) ih fu σ x1 x2 1 x4 v9 v11 0 _ _ _ hZ (lv_sub hl [4, 5, 6, 1, 7, 3, 2, 0] rfl) hf
set_option maxHeartbeats 4000000 in
set_option maxRecDepth 100000 in
theorem ct_X6_isFor (l : Launch) (D : va_G) (A : Nat → Prop) (ad : Nat → Nat) (cA : Nat → ClassId) (rs : va_W) (tr : List (ClassId × FieldType)) (σ : S2) (x1 : Int32) (x2 : Int32) {res : Int32 × S2} (hf : fn_X6_isFor σ x1 x2 = some res) : Met l yX6_isFor (.code yX6_isFor cX6_isFor 8 (some .boolean) :: tb) rm_X6_isFor (va_Pc [.ref (ad 0), .int x1, .int x2] (zN D vwCl (tyM cA tr) A (wM ad cA rs) nl σ)) (va_Qi (fun r' u' => r' = res.1 ∧ u' = res.2) (zB D vwCl (tyM cA tr) A (wM ad cA rs)) A) 0 0 A := by
  refine Met.ofW (cc := cX6_isFor) (maxL := 8) (ret := (some .boolean)) (by decide) rfl ?_
  intro p e s m args below meth c s₁ B hml hv
  obtain ⟨rfl, hB, hnw0⟩ := hv
  have htt : ∀ w ∈ tb, w.before (([.ref (ad 0), .int x1, .int x2] : List Value).toArray) s = true := fun w h => atoms_spec (ws := (.code yX6_isFor cX6_isFor 8 (some .boolean) :: tb)) B.pre w (List.mem_cons_of_mem _ h)
  have C0 : cx p m meth c cX6_isFor (some .boolean) 8 s (([.ref (ad 0), .int x1, .int x2] : List Value).toArray) tb nl RX6 := ⟨B.exec, B.bytes, B.returns, hml, findClass_of_methodNamed B.named, htt, B.notSynchronized, hnw0⟩
  obtain ⟨hx, hb, hr, hml, hown, htt, hlocks, hnw⟩ := id C0
  have hZ := z_start hB
  have hl := lv_entry ([.ref (ad 0), .int x1, .int x2]) (n := 8) (Nat.le_of_ble_eq_true rfl)
  rw [lg_entry_eq]
  generalize (lg_sl ([.ref (ad 0), .int x1, .int x2]) ++ List.replicate (8 - (lg_sl ([.ref (ad 0), .int x1, .int x2])).length) Slot.unset).toArray = ls at hl ⊢
  have hl : lv_has ls 8 [(0, .ref (ad 0)), (1, .int x1), (2, .int x2)] := hl
  unfold fn_X6_isFor at hf
  refine lv_iconst (v := 0) hx hb dX6_isFor_0 (by decide) ?_
  refine lv_istore_n (lv' := [(3, .int 0), (0, .ref (ad 0)), (1, .int x1), (2, .int x2)]) hx hb dX6_isFor_1 rfl hl (by decide) rfl (fun ls hl => ?_)
  refine lv_iconst (v := 0) hx hb dX6_isFor_2 (by decide) ?_
  refine lv_istore (lv' := [(4, .int 0), (3, .int 0), (0, .ref (ad 0)), (1, .int x1), (2, .int x2)]) hx hb dX6_isFor_3 hl (by decide) rfl (fun ls hl => ?_)
  exact wk_X6_isFor_5 C0  fu σ x1 x2 0 0 _ _ _ hZ (lv_sub hl [2, 3, 4, 1, 0] rfl) hf
abbrev rm_X6_isBelowAll : Room := { frames := 1, cells := 0, slots := 0, locals := 23 }
def fn_X6_isBelowAll_6 : Nat → S2 → Int32 → Int32 → Int32 → Int32 → Int32 → Option (Int32)
  | 0, _, _, _, _, _, _ => none
  | n + 1, σ, x1, x2, x3, x4, x5 => if 32 ≤ x5 then cb x4 (some x4) else if x4 = 0 then lt (x5 + 1) (fun v4 => fn_X6_isBelowAll_6 n σ x1 x2 x3 0 v4) else bn (fn_X6_leads σ x1 x2 x5) (fun r6 => if r6 = 0 then lt (x5 + 1) (fun v8 => fn_X6_isBelowAll_6 n σ x1 x2 x3 1 v8) else lt (fn_X6_isLiteral x5) (fun r9 => if r9 = 0 then lt (x5 + 1) (fun v11 => fn_X6_isBelowAll_6 n σ x1 x2 x3 0 v11) else lt (fn_X6_numberOf x5) (fun r12 => lt (fn_X6_numberOf x3) (fun r13 => if r12 ≤ r13 then lt (x5 + 1) (fun v15 => fn_X6_isBelowAll_6 n σ x1 x2 x3 0 v15) else lt (x5 + 1) (fun v16 => fn_X6_isBelowAll_6 n σ x1 x2 x3 1 v16)))))
def fn_X6_isBelowAll (σ : S2) (x1 : Int32) (x2 : Int32) (x3 : Int32) : Option (Int32) := fn_X6_isBelowAll_6 fu σ x1 x2 x3 1 0
set_option maxHeartbeats 4000000 in
set_option maxRecDepth 100000 in
theorem wk_X6_isBelowAll_6 {p : Program} {l : Launch} {e : Env} {s : State} {m : MethodId} {args : Array Value} {below : List Frame} {meth : Method} {c : Code} {D : va_G} {A : Nat → Prop} {ad : Nat → Nat} {cA : Nat → ClassId} {rs : va_W} {tr : List (ClassId × FieldType)} {σ : S2} {res : Int32} (C0 : cx p m meth c cX6_isBelowAll (some .boolean) 6 s args tb nl RX6) : ∀ (n : Nat) (x1 : Int32) (x2 : Int32) (x3 : Int32) (x4 : Int32) (x5 : Int32), ∀ (H : Heap) (locs : List Loc) (ls : Array Slot), zz D vwCl (tyM cA tr) A (wM ad cA rs) s s.heap H locs σ → lv_has ls 6 [(0, .ref (ad 0)), (1, .int x1), (2, .int x2), (3, .int x3), (4, .int x4), (5, .int x5)] → fn_X6_isBelowAll_6 n σ x1 x2 x3 x4 x5 = some res → W p l e rm_X6_isBelowAll s m args below meth c H locs 0 0 (MQ below (va_Qi (fun r' u' => r' = res ∧ u' = σ) (zB D vwCl (tyM cA tr) A (wM ad cA rs)) A) args s 0 0 A) (F0 m 6 ls []) := by
  obtain ⟨hx, hb, hr, hml, hown, htt, hlocks, hnw⟩ := id C0
  intro n
  induction n with
  | zero => intro x1 x2 x3 x4 x5 H locs ls hZ hl hf; exact no_some hf
  | succ n ih =>
    intro x1 x2 x3 x4 x5 H locs ls hZ hl hf
    rw [fn_X6_isBelowAll_6] at hf
    refine lv_iload hx hb dX6_isBelowAll_6 (lv_at hl 5 rfl) ?_
    refine lv_bipush (v := 32) hx hb dX6_isBelowAll_8 (by decide) ?_
    refine lv_icmp_ge (tgt := 62) hx hb dX6_isBelowAll_10 (by decide) (fun c_1 => ?_) (fun c_1 => ?_)
    · have hf := ite_t c_1 hf
      refine lv_iload hx hb dX6_isBelowAll_62 (lv_at hl 4 rfl) ?_
      obtain ⟨h_2, hf⟩ := cb_s hf
      exact z_zret hx hb hr hlocks hZ h_2 (Option.some.inj hf) rfl dX6_isBelowAll_64
    · have hf := ite_f c_1 hf
      refine lv_iload hx hb dX6_isBelowAll_13 (lv_at hl 4 rfl) ?_
      refine lv_if_eq (tgt := 53) hx hb dX6_isBelowAll_15 (by decide) (fun c_3 => ?_) (fun c_3 => ?_)
      · have hf := ite_t c_3 hf
        refine lv_iconst (v := 0) hx hb dX6_isBelowAll_53 (by decide) ?_
        refine lv_istore (lv' := [(4, .int 0), (0, .ref (ad 0)), (1, .int x1), (2, .int x2), (3, .int x3), (5, .int x5)]) hx hb dX6_isBelowAll_54 hl (by decide) rfl (fun ls hl => ?_)
        obtain ⟨v4, e_v4⟩ : ∃ y : Int32, y = x5 + 1 := ⟨_, rfl⟩
        have hf := lt_n e_v4 hf
        refine lv_iinc (v := v4) (lv' := [(5, .int v4), (4, .int 0), (0, .ref (ad 0)), (1, .int x1), (2, .int x2), (3, .int x3)]) hx hb dX6_isBelowAll_56 hl (k := 5) rfl (by rw [e_v4]; rfl) (by decide) rfl (fun ls hl => ?_)
        refine lv_goto (tgt := 6) hx hb dX6_isBelowAll_59 (by decide) ?_
        exact ih x1 x2 x3 0 v4 _ _ _ hZ (lv_sub hl [2, 3, 4, 5, 1, 0] rfl) hf
      · have hf := ite_f c_3 hf
        refine lv_aload_n hx hb dX6_isBelowAll_18 rfl (lv_at hl 0 rfl) ?_
        refine lv_iload_n hx hb dX6_isBelowAll_19 rfl (lv_at hl 1 rfl) ?_
        refine lv_iload_n hx hb dX6_isBelowAll_20 rfl (lv_at hl 2 rfl) ?_
        refine lv_iload hx hb dX6_isBelowAll_21 (lv_at hl 5 rfl) ?_
        obtain ⟨r6, k_5, hf⟩ := bn_s hf
        refine z_calli (z_runV (As := [.int x1, .int x2, .int x5]) (rest := []) ⟨hx, hb, hml, hown, htt⟩ gT (ct_X6_leads l D A ad cA rs tr σ x1 x2 x5 k_5) md_X6_leads lm_X6_77 rfl rfl ⟨Nat.le_of_ble_eq_true rfl, Nat.le_of_ble_eq_true rfl⟩ (z_preV gN hnw hZ rfl (q0 := 0) (ci := 6) rfl) rfl rfl hl.1 rfl (lv_room (Nat.le_of_ble_eq_true rfl)) dX6_isBelowAll_23 ⟨Nat.le_of_ble_eq_true rfl, Nat.le_of_ble_eq_true rfl⟩) hZ (fun H locs hZ => ?_)
        refine lv_if_eq (tgt := 49) hx hb dX6_isBelowAll_26 (by decide) (fun c_7 => ?_) (fun c_7 => ?_)
        · have hf := ite_t c_7 hf
          refine lv_iconst (v := 1) hx hb dX6_isBelowAll_49 (by decide) ?_
          refine lv_goto (tgt := 54) hx hb dX6_isBelowAll_50 (by decide) ?_
          refine lv_istore (lv' := [(4, .int 1), (0, .ref (ad 0)), (1, .int x1), (2, .int x2), (3, .int x3), (5, .int x5)]) hx hb dX6_isBelowAll_54 hl (by decide) rfl (fun ls hl => ?_)
          obtain ⟨v8, e_v8⟩ : ∃ y : Int32, y = x5 + 1 := ⟨_, rfl⟩
          have hf := lt_n e_v8 hf
          refine lv_iinc (v := v8) (lv' := [(5, .int v8), (4, .int 1), (0, .ref (ad 0)), (1, .int x1), (2, .int x2), (3, .int x3)]) hx hb dX6_isBelowAll_56 hl (k := 5) rfl (by rw [e_v8]; rfl) (by decide) rfl (fun ls hl => ?_)
          refine lv_goto (tgt := 6) hx hb dX6_isBelowAll_59 (by decide) ?_
          exact ih x1 x2 x3 1 v8 _ _ _ hZ (lv_sub hl [2, 3, 4, 5, 1, 0] rfl) hf
        · have hf := ite_f c_7 hf
          refine lv_iload hx hb dX6_isBelowAll_29 (lv_at hl 5 rfl) ?_
          refine z_pcalli (z_runS (As := [.int x5]) (rest := []) ⟨hx, hb, hml, hown, htt⟩ gT (ct_X6_isLiteral l x5 rfl) md_X6_isLiteral lm_X6_109 rfl rfl ⟨Nat.le_of_ble_eq_true rfl, Nat.le_of_ble_eq_true rfl⟩ z_preP rfl rfl hl.1 rfl (lv_room (Nat.le_of_ble_eq_true rfl)) dX6_isBelowAll_31 ⟨Nat.le_of_ble_eq_true rfl, Nat.le_of_ble_eq_true rfl⟩) ?_
          refine lv_topi (fun r9 e_r9 => ?_)
          have hf := lt_n e_r9 hf
          refine lv_if_eq (tgt := 53) hx hb dX6_isBelowAll_34 (by decide) (fun c_10 => ?_) (fun c_10 => ?_)
          · have hf := ite_t c_10 hf
            refine lv_iconst (v := 0) hx hb dX6_isBelowAll_53 (by decide) ?_
            refine lv_istore (lv' := [(4, .int 0), (0, .ref (ad 0)), (1, .int x1), (2, .int x2), (3, .int x3), (5, .int x5)]) hx hb dX6_isBelowAll_54 hl (by decide) rfl (fun ls hl => ?_)
            obtain ⟨v11, e_v11⟩ : ∃ y : Int32, y = x5 + 1 := ⟨_, rfl⟩
            have hf := lt_n e_v11 hf
            refine lv_iinc (v := v11) (lv' := [(5, .int v11), (4, .int 0), (0, .ref (ad 0)), (1, .int x1), (2, .int x2), (3, .int x3)]) hx hb dX6_isBelowAll_56 hl (k := 5) rfl (by rw [e_v11]; rfl) (by decide) rfl (fun ls hl => ?_)
            refine lv_goto (tgt := 6) hx hb dX6_isBelowAll_59 (by decide) ?_
            exact ih x1 x2 x3 0 v11 _ _ _ hZ (lv_sub hl [2, 3, 4, 5, 1, 0] rfl) hf
          · have hf := ite_f c_10 hf
            refine lv_iload hx hb dX6_isBelowAll_37 (lv_at hl 5 rfl) ?_
            refine z_pcalli (z_runS (As := [.int x5]) (rest := []) ⟨hx, hb, hml, hown, htt⟩ gT (ct_X6_numberOf l x5 rfl) md_X6_numberOf lm_X6_116 rfl rfl ⟨Nat.le_of_ble_eq_true rfl, Nat.le_of_ble_eq_true rfl⟩ z_preP rfl rfl hl.1 rfl (lv_room (Nat.le_of_ble_eq_true rfl)) dX6_isBelowAll_39 ⟨Nat.le_of_ble_eq_true rfl, Nat.le_of_ble_eq_true rfl⟩) ?_
            refine lv_topi (fun r12 e_r12 => ?_)
            have hf := lt_n e_r12 hf
            refine lv_iload_n hx hb dX6_isBelowAll_42 rfl (lv_at hl 3 rfl) ?_
            refine z_pcalli (z_runS (As := [.int x3]) (rest := [.int r12]) ⟨hx, hb, hml, hown, htt⟩ gT (ct_X6_numberOf l x3 rfl) md_X6_numberOf lm_X6_116 rfl rfl ⟨Nat.le_of_ble_eq_true rfl, Nat.le_of_ble_eq_true rfl⟩ z_preP rfl rfl hl.1 rfl (lv_room (Nat.le_of_ble_eq_true rfl)) dX6_isBelowAll_43 ⟨Nat.le_of_ble_eq_true rfl, Nat.le_of_ble_eq_true rfl⟩) ?_
            refine lv_topi (fun r13 e_r13 => ?_)
            have hf := lt_n e_r13 hf
            refine lv_icmp_le (tgt := 53) hx hb dX6_isBelowAll_46 (by decide) (fun c_14 => ?_) (fun c_14 => ?_)
            · have hf := ite_t c_14 hf
              refine lv_iconst (v := 0) hx hb dX6_isBelowAll_53 (by decide) ?_
              refine lv_istore (lv' := [(4, .int 0), (0, .ref (ad 0)), (1, .int x1), (2, .int x2), (3, .int x3), (5, .int x5)]) hx hb dX6_isBelowAll_54 hl (by decide) rfl (fun ls hl => ?_)
              obtain ⟨v15, e_v15⟩ : ∃ y : Int32, y = x5 + 1 := ⟨_, rfl⟩
              have hf := lt_n e_v15 hf
              refine lv_iinc (v := v15) (lv' := [(5, .int v15), (4, .int 0), (0, .ref (ad 0)), (1, .int x1), (2, .int x2), (3, .int x3)]) hx hb dX6_isBelowAll_56 hl (k := 5) rfl (by rw [e_v15]; rfl) (by decide) rfl (fun ls hl => ?_)
              refine lv_goto (tgt := 6) hx hb dX6_isBelowAll_59 (by decide) ?_
              exact ih x1 x2 x3 0 v15 _ _ _ hZ (lv_sub hl [2, 3, 4, 5, 1, 0] rfl) hf
            · have hf := ite_f c_14 hf
              refine lv_iconst (v := 1) hx hb dX6_isBelowAll_49 (by decide) ?_
              refine lv_goto (tgt := 54) hx hb dX6_isBelowAll_50 (by decide) ?_
              refine lv_istore (lv' := [(4, .int 1), (0, .ref (ad 0)), (1, .int x1), (2, .int x2), (3, .int x3), (5, .int x5)]) hx hb dX6_isBelowAll_54 hl (by decide) rfl (fun ls hl => ?_)
              obtain ⟨v16, e_v16⟩ : ∃ y : Int32, y = x5 + 1 := ⟨_, rfl⟩
              have hf := lt_n e_v16 hf
              refine lv_iinc (v := v16) (lv' := [(5, .int v16), (4, .int 1), (0, .ref (ad 0)), (1, .int x1), (2, .int x2), (3, .int x3)]) hx hb dX6_isBelowAll_56 hl (k := 5) rfl (by rw [e_v16]; rfl) (by decide) rfl (fun ls hl => ?_)
              refine lv_goto (tgt := 6) hx hb dX6_isBelowAll_59 (by decide) ?_
              exact ih x1 x2 x3 1 v16 _ _ _ hZ (lv_sub hl [2, 3, 4, 5, 1, 0] rfl) hf
set_option maxHeartbeats 4000000 in
set_option maxRecDepth 100000 in
theorem ct_X6_isBelowAll (l : Launch) (D : va_G) (A : Nat → Prop) (ad : Nat → Nat) (cA : Nat → ClassId) (rs : va_W) (tr : List (ClassId × FieldType)) (σ : S2) (x1 : Int32) (x2 : Int32) (x3 : Int32) {res : Int32} (hf : fn_X6_isBelowAll σ x1 x2 x3 = some res) : Met l yX6_isBelowAll (.code yX6_isBelowAll cX6_isBelowAll 6 (some .boolean) :: tb) rm_X6_isBelowAll (va_Pc [.ref (ad 0), .int x1, .int x2, .int x3] (zN D vwCl (tyM cA tr) A (wM ad cA rs) nl σ)) (va_Qi (fun r' u' => r' = res ∧ u' = σ) (zB D vwCl (tyM cA tr) A (wM ad cA rs)) A) 0 0 A := by
  refine Met.ofW (cc := cX6_isBelowAll) (maxL := 6) (ret := (some .boolean)) (by decide) rfl ?_
  intro p e s m args below meth c s₁ B hml hv
  obtain ⟨rfl, hB, hnw0⟩ := hv
  have htt : ∀ w ∈ tb, w.before (([.ref (ad 0), .int x1, .int x2, .int x3] : List Value).toArray) s = true := fun w h => atoms_spec (ws := (.code yX6_isBelowAll cX6_isBelowAll 6 (some .boolean) :: tb)) B.pre w (List.mem_cons_of_mem _ h)
  have C0 : cx p m meth c cX6_isBelowAll (some .boolean) 6 s (([.ref (ad 0), .int x1, .int x2, .int x3] : List Value).toArray) tb nl RX6 := ⟨B.exec, B.bytes, B.returns, hml, findClass_of_methodNamed B.named, htt, B.notSynchronized, hnw0⟩
  obtain ⟨hx, hb, hr, hml, hown, htt, hlocks, hnw⟩ := id C0
  have hZ := z_start hB
  have hl := lv_entry ([.ref (ad 0), .int x1, .int x2, .int x3]) (n := 6) (Nat.le_of_ble_eq_true rfl)
  rw [lg_entry_eq]
  generalize (lg_sl ([.ref (ad 0), .int x1, .int x2, .int x3]) ++ List.replicate (6 - (lg_sl ([.ref (ad 0), .int x1, .int x2, .int x3])).length) Slot.unset).toArray = ls at hl ⊢
  have hl : lv_has ls 6 [(0, .ref (ad 0)), (1, .int x1), (2, .int x2), (3, .int x3)] := hl
  unfold fn_X6_isBelowAll at hf
  refine lv_iconst (v := 1) hx hb dX6_isBelowAll_0 (by decide) ?_
  refine lv_istore (lv' := [(4, .int 1), (0, .ref (ad 0)), (1, .int x1), (2, .int x2), (3, .int x3)]) hx hb dX6_isBelowAll_1 hl (by decide) rfl (fun ls hl => ?_)
  refine lv_iconst (v := 0) hx hb dX6_isBelowAll_3 (by decide) ?_
  refine lv_istore (lv' := [(5, .int 0), (4, .int 1), (0, .ref (ad 0)), (1, .int x1), (2, .int x2), (3, .int x3)]) hx hb dX6_isBelowAll_4 hl (by decide) rfl (fun ls hl => ?_)
  exact wk_X6_isBelowAll_6 C0  fu x1 x2 x3 1 0 _ _ _ hZ (lv_sub hl [2, 3, 4, 5, 1, 0] rfl) hf
