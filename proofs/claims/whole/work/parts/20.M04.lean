abbrev rm_X6_look : Room := { frames := 3, cells := 0, slots := 0, locals := 73 }
def fn_X6_look_451 : Nat → S2 → Int32 → Int32 → Option (Int32 × S2)
  | 0, _, _, _ => none
  | n + 1, σ, x7, x8 => if 32 < x8 then cb x7 (some (x7, σ)) else if x7 = 0 then ck x8 33 (if (σ.1 16 (x8).toNatClampNeg) = 0 then lt (x8 + 1) (fun v7 => fn_X6_look_451 n σ 0 v7) else lt (x8 + 1) (fun v8 => fn_X6_look_451 n σ 1 v8)) else lt (x8 + 1) (fun v4 => fn_X6_look_451 n σ 1 v4)
def fn_X6_look_90 (K48 : S2 → Int32 → Int32 → Int32 → Int32 → Int32 → Int32 → Int32 → Option (Int32 × S2)) (σ : S2) (x1 : Int32) (x2 : Int32) (x3 : Int32) (x4 : Int32) (x5 : Int32) (x6 : Int32) (x7 : Int32) : Option (Int32 × S2) := ck x7 32 (if (σ.1 15 (x7).toNatClampNeg) = 0 then lt ((x6 + 0)) (fun v3 => lt (x7 + 1) (fun v4 => K48 σ x1 x2 x3 x4 x5 v3 v4)) else ck x1 40 (if (σ.1 8 (x1).toNatClampNeg) = 17 then ck ((32 * x4) + x7) 384 (if (σ.1 11 (((32 * x4) + x7)).toNatClampNeg) = 0 then lt ((x6 + 0)) (fun v11 => lt (x7 + 1) (fun v12 => K48 σ x1 x2 x3 x4 x5 v11 v12)) else lt ((x6 + 1)) (fun v13 => lt (x7 + 1) (fun v14 => K48 σ x1 x2 x3 x4 x5 v13 v14))) else lt ((x6 + 0)) (fun v7 => lt (x7 + 1) (fun v8 => K48 σ x1 x2 x3 x4 x5 v7 v8))))
def fn_X6_look_397 : Nat → S2 → Int32 → Int32 → Int32 → Option (Int32 × S2)
  | 0, _, _, _, _ => none
  | n + 1, σ, x1, x2, x7 => if 32 ≤ x7 then fn_X6_look_451 fu σ 0 0 else ck x7 32 (if (σ.1 15 (x7).toNatClampNeg) = 0 then ck (x7 + 1) 33 (lt (st σ 16 ((x7 + 1)).toNatClampNeg 0) (fun σ5 => lt (x7 + 1) (fun v6 => fn_X6_look_397 n σ5 x1 x2 v6))) else bn2 (fn_X6_isWrong σ x1 x2 x7) (fun r9 σ8 => if r9 = 0 then ck (x7 + 1) 33 (lt (st σ8 16 ((x7 + 1)).toNatClampNeg 0) (fun σ12 => lt (x7 + 1) (fun v13 => fn_X6_look_397 n σ12 x1 x2 v13))) else ck (x7 + 1) 33 (lt (st σ8 16 ((x7 + 1)).toNatClampNeg 1) (fun σ15 => lt (x7 + 1) (fun v16 => fn_X6_look_397 n σ15 x1 x2 v16)))))
def fn_X6_look_287 : Nat → S2 → Int32 → Int32 → Int32 → Option (Int32 × S2)
  | 0, _, _, _, _ => none
  | n + 1, σ, x2, x4, x7 => if 32 ≤ x7 then fn_X6_look_451 fu σ 0 0 else ck x7 32 (bn (fn_X6_leads σ x2 x4 x7) (fun r4 => if (σ.1 15 (x7).toNatClampNeg) = r4 then ck (x7 + 1) 33 (lt (st σ 16 ((x7 + 1)).toNatClampNeg 0) (fun σ7 => lt (x7 + 1) (fun v8 => fn_X6_look_287 n σ7 x2 x4 v8))) else ck (x7 + 1) 33 (lt (st σ 16 ((x7 + 1)).toNatClampNeg 1) (fun σ10 => lt (x7 + 1) (fun v11 => fn_X6_look_287 n σ10 x2 x4 v11)))))
def fn_X6_look_48 : Nat → S2 → Int32 → Int32 → Int32 → Int32 → Int32 → Int32 → Int32 → Option (Int32 × S2)
  | 0, _, _, _, _, _, _, _, _ => none
  | n + 1, σ, x1, x2, x3, x4, x5, x6, x7 => if 32 ≤ x7 then ck x1 40 (if (σ.1 8 (x1).toNatClampNeg) = 2 then if x5 < x4 then ck 0 33 (lt (st σ 16 (0 : Int32).toNatClampNeg 1) (fun σ6 => fn_X6_look_451 fu σ6 0 0)) else ck x1 40 (if x5 ≤ (σ.1 10 (x1).toNatClampNeg) then ck 0 33 (lt (st σ 16 (0 : Int32).toNatClampNeg 0) (fun σ10 => fn_X6_look_451 fu σ10 0 0)) else ck 0 33 (lt (st σ 16 (0 : Int32).toNatClampNeg 1) (fun σ12 => fn_X6_look_451 fu σ12 0 0))) else if (σ.1 8 (x1).toNatClampNeg) = 5 then ck x4 32 (if (σ.1 15 (x4).toNatClampNeg) = 0 then ck 0 33 (lt (st σ 16 (0 : Int32).toNatClampNeg 1) (fun σ19 => fn_X6_look_451 fu σ19 0 0)) else ck 0 33 (lt (st σ 16 (0 : Int32).toNatClampNeg 0) (fun σ17 => fn_X6_look_451 fu σ17 0 0))) else if (σ.1 8 (x1).toNatClampNeg) = 6 then fn_X6_look_287 fu σ x2 x4 0 else if (σ.1 8 (x1).toNatClampNeg) = 9 then bn (fn_X6_lookAtTags σ) (fun σ23 => fn_X6_look_451 fu σ23 0 0) else if (σ.1 8 (x1).toNatClampNeg) = 10 then bn (fn_X6_lookAtOthers σ x4) (fun σ26 => fn_X6_look_451 fu σ26 0 0) else if (σ.1 8 (x1).toNatClampNeg) = 17 then ck x1 40 (if x6 < ((σ.1 10 (x1).toNatClampNeg) / 16) then ck 0 33 (lt (st σ 16 (0 : Int32).toNatClampNeg 1) (fun σ31 => fn_X6_look_451 fu σ31 0 0)) else ck x1 40 (if x6 ≤ ((σ.1 10 (x1).toNatClampNeg) - (σ.1 10 (x1).toNatClampNeg) / 16 * 16) then ck 0 33 (lt (st σ 16 (0 : Int32).toNatClampNeg 0) (fun σ35 => fn_X6_look_451 fu σ35 0 0)) else ck 0 33 (lt (st σ 16 (0 : Int32).toNatClampNeg 1) (fun σ37 => fn_X6_look_451 fu σ37 0 0)))) else fn_X6_look_397 fu σ x1 x2 0) else bn (fn_X6_isValue σ x2 x3 x7) (fun r40 => ck x7 32 (lt (st σ 15 (x7).toNatClampNeg (vp_nar .boolean r40)) (fun σ42 => ck x7 32 (if (σ42.1 15 (x7).toNatClampNeg) = 0 then lt ((x5 + 0)) (fun v45 => fn_X6_look_90 (fn_X6_look_48 n) σ42 x1 x2 x3 x4 v45 x6 x7) else lt ((x5 + 1)) (fun v46 => fn_X6_look_90 (fn_X6_look_48 n) σ42 x1 x2 x3 x4 v46 x6 x7)))))
def fn_X6_look_24 : Nat → S2 → Int32 → Int32 → Int32 → Int32 → Int32 → Int32 → Int32 → Option (Int32 × S2)
  | 0, _, _, _, _, _, _, _, _ => none
  | n + 1, σ, x1, x2, x3, x4, x5, x6, x7 => if 32 < x7 then fn_X6_look_48 fu σ x1 x2 x3 x4 x5 x6 0 else ck x7 33 (lt (st σ 16 (x7).toNatClampNeg 0) (fun σ3 => lt (x7 + 1) (fun v4 => fn_X6_look_24 n σ3 x1 x2 x3 x4 x5 x6 v4)))
def fn_X6_look (σ : S2) (x1 : Int32) (x2 : Int32) : Option (Int32 × S2) := ck x1 40 (lt ((σ.1 7 (x1).toNatClampNeg)) (fun v2 => ck x1 40 (lt ((σ.1 9 (x1).toNatClampNeg)) (fun v4 => fn_X6_look_24 fu σ x1 x2 v2 v4 0 0 0))))
set_option maxHeartbeats 4000000 in
set_option maxRecDepth 100000 in
theorem wk_X6_look_451 {p : Program} {l : Launch} {e : Env} {s : State} {m : MethodId} {args : Array Value} {below : List Frame} {meth : Method} {c : Code} {D : va_G} {A : Nat → Prop} {ad : Nat → Nat} {cA : Nat → ClassId} {rs : va_W} {tr : List (ClassId × FieldType)} {res : Int32 × S2} (C0 : cx p m meth c cX6_look (some .boolean) 9 s args tb nl RX6) : ∀ (n : Nat) (σ : S2) (x7 : Int32) (x8 : Int32), ∀ (H : Heap) (locs : List Loc) (ls : Array Slot), zz D vwCl (tyM cA tr) A (wM ad cA rs) s s.heap H locs σ → lv_has ls 9 [(0, .ref (ad 0)), (7, .int x7), (8, .int x8)] → fn_X6_look_451 n σ x7 x8 = some res → W p l e rm_X6_look s m args below meth c H locs 0 0 (MQ below (va_Qi (fun r' u' => r' = res.1 ∧ u' = res.2) (zB D vwCl (tyM cA tr) A (wM ad cA rs)) A) args s 0 0 A) (F0 m 451 ls []) := by
  obtain ⟨hx, hb, hr, hml, hown, htt, hlocks, hnw⟩ := id C0
  intro n
  induction n with
  | zero => intro σ x7 x8 H locs ls hZ hl hf; exact no_some hf
  | succ n ih =>
    intro σ x7 x8 H locs ls hZ hl hf
    rw [fn_X6_look_451] at hf
    refine lv_iload hx hb dX6_look_451 (lv_at hl 2 rfl) ?_
    refine lv_bipush (v := 32) hx hb dX6_look_453 (by decide) ?_
    refine lv_icmp_gt (tgt := 486) hx hb dX6_look_455 (by decide) (fun c_1 => ?_) (fun c_1 => ?_)
    · have hf := ite_t c_1 hf
      refine lv_iload hx hb dX6_look_486 (lv_at hl 1 rfl) ?_
      obtain ⟨h_2, hf⟩ := cb_s hf
      exact z_zret hx hb hr hlocks hZ h_2 (sp_1 hf) (sp_2 hf) dX6_look_488
    · have hf := ite_f c_1 hf
      refine lv_iload hx hb dX6_look_458 (lv_at hl 1 rfl) ?_
      refine lv_if_ne (tgt := 473) hx hb dX6_look_460 (by decide) (fun c_3 => ?_) (fun c_3 => ?_)
      · have hf := ite_f c_3 hf
        refine lv_iconst (v := 1) hx hb dX6_look_473 (by decide) ?_
        refine lv_goto (tgt := 478) hx hb dX6_look_474 (by decide) ?_
        refine lv_istore (lv' := [(7, .int 1), (0, .ref (ad 0)), (8, .int x8)]) hx hb dX6_look_478 hl (by decide) rfl (fun ls hl => ?_)
        obtain ⟨v4, e_v4⟩ : ∃ y : Int32, y = x8 + 1 := ⟨_, rfl⟩
        have hf := lt_n e_v4 hf
        refine lv_iinc (v := v4) (lv' := [(8, .int v4), (7, .int 1), (0, .ref (ad 0))]) hx hb dX6_look_480 hl (k := 2) rfl (by rw [e_v4]; rfl) (by decide) rfl (fun ls hl => ?_)
        refine lv_goto (tgt := 451) hx hb dX6_look_483 (by decide) ?_
        exact ih σ 1 v4 _ _ _ hZ (lv_sub hl [2, 1, 0] rfl) hf
      · have hf := ite_t c_3 hf
        refine lv_aload_n hx hb dX6_look_463 rfl (lv_at hl 0 rfl) ?_
        refine z_get hx hb htt iw_X6 hown hZ 0 rfl rfl 19 (by decide) lf_X6_56 rfl dX6_look_464 ?_
        refine lv_iload hx hb dX6_look_467 (lv_at hl 2 rfl) ?_
        obtain ⟨h_5, hf⟩ := ck_s hf
        refine z_zld hx hb hZ 16 15 rfl rfl h_5 dX6_look_469 ?_
        refine lv_if_eq (tgt := 477) hx hb dX6_look_470 (by decide) (fun c_6 => ?_) (fun c_6 => ?_)
        · have hf := ite_t c_6 hf
          refine lv_iconst (v := 0) hx hb dX6_look_477 (by decide) ?_
          refine lv_istore (lv' := [(7, .int 0), (0, .ref (ad 0)), (8, .int x8)]) hx hb dX6_look_478 hl (by decide) rfl (fun ls hl => ?_)
          obtain ⟨v7, e_v7⟩ : ∃ y : Int32, y = x8 + 1 := ⟨_, rfl⟩
          have hf := lt_n e_v7 hf
          refine lv_iinc (v := v7) (lv' := [(8, .int v7), (7, .int 0), (0, .ref (ad 0))]) hx hb dX6_look_480 hl (k := 2) rfl (by rw [e_v7]; rfl) (by decide) rfl (fun ls hl => ?_)
          refine lv_goto (tgt := 451) hx hb dX6_look_483 (by decide) ?_
          exact ih σ 0 v7 _ _ _ hZ (lv_sub hl [2, 1, 0] rfl) hf
        · have hf := ite_f c_6 hf
          refine lv_iconst (v := 1) hx hb dX6_look_473 (by decide) ?_
          refine lv_goto (tgt := 478) hx hb dX6_look_474 (by decide) ?_
          refine lv_istore (lv' := [(7, .int 1), (0, .ref (ad 0)), (8, .int x8)]) hx hb dX6_look_478 hl (by decide) rfl (fun ls hl => ?_)
          obtain ⟨v8, e_v8⟩ : ∃ y : Int32, y = x8 + 1 := ⟨_, rfl⟩
          have hf := lt_n e_v8 hf
          refine lv_iinc (v := v8) (lv' := [(8, .int v8), (7, .int 1), (0, .ref (ad 0))]) hx hb dX6_look_480 hl (k := 2) rfl (by rw [e_v8]; rfl) (by decide) rfl (fun ls hl => ?_)
          refine lv_goto (tgt := 451) hx hb dX6_look_483 (by decide) ?_
          exact ih σ 1 v8 _ _ _ hZ (lv_sub hl [2, 1, 0] rfl) hf
set_option maxHeartbeats 4000000 in
set_option maxRecDepth 100000 in
theorem wk_X6_look_90 {p : Program} {l : Launch} {e : Env} {s : State} {m : MethodId} {args : Array Value} {below : List Frame} {meth : Method} {c : Code} {D : va_G} {A : Nat → Prop} {ad : Nat → Nat} {cA : Nat → ClassId} {rs : va_W} {tr : List (ClassId × FieldType)} {res : Int32 × S2} (C0 : cx p m meth c cX6_look (some .boolean) 9 s args tb nl RX6) (K48 : S2 → Int32 → Int32 → Int32 → Int32 → Int32 → Int32 → Int32 → Option (Int32 × S2)) (hK48 : ∀ (σ : S2) (x1 : Int32) (x2 : Int32) (x3 : Int32) (x4 : Int32) (x5 : Int32) (x6 : Int32) (x7 : Int32), ∀ (H : Heap) (locs : List Loc) (ls : Array Slot), zz D vwCl (tyM cA tr) A (wM ad cA rs) s s.heap H locs σ → lv_has ls 9 [(0, .ref (ad 0)), (1, .int x1), (2, .int x2), (3, .int x3), (4, .int x4), (5, .int x5), (6, .int x6), (7, .int x7)] → K48 σ x1 x2 x3 x4 x5 x6 x7 = some res → W p l e rm_X6_look s m args below meth c H locs 0 0 (MQ below (va_Qi (fun r' u' => r' = res.1 ∧ u' = res.2) (zB D vwCl (tyM cA tr) A (wM ad cA rs)) A) args s 0 0 A) (F0 m 48 ls [])) : ∀ (σ : S2) (x1 : Int32) (x2 : Int32) (x3 : Int32) (x4 : Int32) (x5 : Int32) (x6 : Int32) (x7 : Int32), ∀ (H : Heap) (locs : List Loc) (ls : Array Slot), zz D vwCl (tyM cA tr) A (wM ad cA rs) s s.heap H locs σ → lv_has ls 9 [(0, .ref (ad 0)), (1, .int x1), (2, .int x2), (3, .int x3), (4, .int x4), (5, .int x5), (6, .int x6), (7, .int x7)] → fn_X6_look_90 K48 σ x1 x2 x3 x4 x5 x6 x7 = some res → W p l e rm_X6_look s m args below meth c H locs 0 0 (MQ below (va_Qi (fun r' u' => r' = res.1 ∧ u' = res.2) (zB D vwCl (tyM cA tr) A (wM ad cA rs)) A) args s 0 0 A) (F0 m 90 ls []) := by
  obtain ⟨hx, hb, hr, hml, hown, htt, hlocks, hnw⟩ := id C0
  intro σ x1 x2 x3 x4 x5 x6 x7 H locs ls hZ hl hf
  unfold fn_X6_look_90 at hf
  refine lv_iload hx hb dX6_look_90 (lv_at hl 6 rfl) ?_
  refine lv_aload_n hx hb dX6_look_92 rfl (lv_at hl 0 rfl) ?_
  refine z_get hx hb htt iw_X6 hown hZ 0 rfl rfl 18 (by decide) lf_X6_53 rfl dX6_look_93 ?_
  refine lv_iload hx hb dX6_look_96 (lv_at hl 7 rfl) ?_
  obtain ⟨h_1, hf⟩ := ck_s hf
  refine z_zld hx hb hZ 15 14 rfl rfl h_1 dX6_look_98 ?_
  refine lv_if_eq (tgt := 133) hx hb dX6_look_99 (by decide) (fun c_2 => ?_) (fun c_2 => ?_)
  · have hf := ite_t c_2 hf
    refine lv_iconst (v := 0) hx hb dX6_look_133 (by decide) ?_
    refine lv_iadd hx hb dX6_look_134 ?_
    refine lv_topi (fun v3 e_v3 => ?_)
    have hf := lt_n e_v3 hf
    refine lv_istore (lv' := [(6, .int v3), (0, .ref (ad 0)), (1, .int x1), (2, .int x2), (3, .int x3), (4, .int x4), (5, .int x5), (7, .int x7)]) hx hb dX6_look_135 hl (by decide) rfl (fun ls hl => ?_)
    obtain ⟨v4, e_v4⟩ : ∃ y : Int32, y = x7 + 1 := ⟨_, rfl⟩
    have hf := lt_n e_v4 hf
    refine lv_iinc (v := v4) (lv' := [(7, .int v4), (6, .int v3), (0, .ref (ad 0)), (1, .int x1), (2, .int x2), (3, .int x3), (4, .int x4), (5, .int x5)]) hx hb dX6_look_137 hl (k := 7) rfl (by rw [e_v4]; rfl) (by decide) rfl (fun ls hl => ?_)
    refine lv_goto (tgt := 48) hx hb dX6_look_140 (by decide) ?_
    exact hK48 σ x1 x2 x3 x4 x5 v3 v4 _ _ _ hZ (lv_sub hl [2, 3, 4, 5, 6, 7, 1, 0] rfl) hf
  · have hf := ite_f c_2 hf
    refine lv_aload_n hx hb dX6_look_102 rfl (lv_at hl 0 rfl) ?_
    refine z_get hx hb htt iw_X6 hown hZ 0 rfl rfl 11 (by decide) lf_X6_32 rfl dX6_look_103 ?_
    refine lv_iload_n hx hb dX6_look_106 rfl (lv_at hl 1 rfl) ?_
    obtain ⟨h_5, hf⟩ := ck_s hf
    refine z_ild hx hb hZ 8 7 rfl rfl h_5 dX6_look_107 ?_
    refine lv_bipush (v := 17) hx hb dX6_look_108 (by decide) ?_
    refine lv_icmp_ne (tgt := 133) hx hb dX6_look_110 (by decide) (fun c_6 => ?_) (fun c_6 => ?_)
    · have hf := ite_f c_6 hf
      refine lv_iconst (v := 0) hx hb dX6_look_133 (by decide) ?_
      refine lv_iadd hx hb dX6_look_134 ?_
      refine lv_topi (fun v7 e_v7 => ?_)
      have hf := lt_n e_v7 hf
      refine lv_istore (lv' := [(6, .int v7), (0, .ref (ad 0)), (1, .int x1), (2, .int x2), (3, .int x3), (4, .int x4), (5, .int x5), (7, .int x7)]) hx hb dX6_look_135 hl (by decide) rfl (fun ls hl => ?_)
      obtain ⟨v8, e_v8⟩ : ∃ y : Int32, y = x7 + 1 := ⟨_, rfl⟩
      have hf := lt_n e_v8 hf
      refine lv_iinc (v := v8) (lv' := [(7, .int v8), (6, .int v7), (0, .ref (ad 0)), (1, .int x1), (2, .int x2), (3, .int x3), (4, .int x4), (5, .int x5)]) hx hb dX6_look_137 hl (k := 7) rfl (by rw [e_v8]; rfl) (by decide) rfl (fun ls hl => ?_)
      refine lv_goto (tgt := 48) hx hb dX6_look_140 (by decide) ?_
      exact hK48 σ x1 x2 x3 x4 x5 v7 v8 _ _ _ hZ (lv_sub hl [2, 3, 4, 5, 6, 7, 1, 0] rfl) hf
    · have hf := ite_t c_6 hf
      refine lv_aload_n hx hb dX6_look_113 rfl (lv_at hl 0 rfl) ?_
      refine z_get hx hb htt iw_X6 hown hZ 0 rfl rfl 14 (by decide) lf_X6_41 rfl dX6_look_114 ?_
      refine lv_bipush (v := 32) hx hb dX6_look_117 (by decide) ?_
      refine lv_iload hx hb dX6_look_119 (lv_at hl 4 rfl) ?_
      refine lv_imul hx hb dX6_look_121 ?_
      refine lv_iload hx hb dX6_look_122 (lv_at hl 7 rfl) ?_
      refine lv_iadd hx hb dX6_look_124 ?_
      obtain ⟨h_9, hf⟩ := ck_s hf
      refine z_zld hx hb hZ 11 10 rfl rfl h_9 dX6_look_125 ?_
      refine lv_if_eq (tgt := 133) hx hb dX6_look_126 (by decide) (fun c_10 => ?_) (fun c_10 => ?_)
      · have hf := ite_t c_10 hf
        refine lv_iconst (v := 0) hx hb dX6_look_133 (by decide) ?_
        refine lv_iadd hx hb dX6_look_134 ?_
        refine lv_topi (fun v11 e_v11 => ?_)
        have hf := lt_n e_v11 hf
        refine lv_istore (lv' := [(6, .int v11), (0, .ref (ad 0)), (1, .int x1), (2, .int x2), (3, .int x3), (4, .int x4), (5, .int x5), (7, .int x7)]) hx hb dX6_look_135 hl (by decide) rfl (fun ls hl => ?_)
        obtain ⟨v12, e_v12⟩ : ∃ y : Int32, y = x7 + 1 := ⟨_, rfl⟩
        have hf := lt_n e_v12 hf
        refine lv_iinc (v := v12) (lv' := [(7, .int v12), (6, .int v11), (0, .ref (ad 0)), (1, .int x1), (2, .int x2), (3, .int x3), (4, .int x4), (5, .int x5)]) hx hb dX6_look_137 hl (k := 7) rfl (by rw [e_v12]; rfl) (by decide) rfl (fun ls hl => ?_)
        refine lv_goto (tgt := 48) hx hb dX6_look_140 (by decide) ?_
        exact hK48 σ x1 x2 x3 x4 x5 v11 v12 _ _ _ hZ (lv_sub hl [2, 3, 4, 5, 6, 7, 1, 0] rfl) hf
      · have hf := ite_f c_10 hf
        refine lv_iconst (v := 1) hx hb dX6_look_129 (by decide) ?_
        refine lv_goto (tgt := 134) hx hb dX6_look_130 (by decide) ?_
        refine lv_iadd hx hb dX6_look_134 ?_
        refine lv_topi (fun v13 e_v13 => ?_)
        have hf := lt_n e_v13 hf
        refine lv_istore (lv' := [(6, .int v13), (0, .ref (ad 0)), (1, .int x1), (2, .int x2), (3, .int x3), (4, .int x4), (5, .int x5), (7, .int x7)]) hx hb dX6_look_135 hl (by decide) rfl (fun ls hl => ?_)
        obtain ⟨v14, e_v14⟩ : ∃ y : Int32, y = x7 + 1 := ⟨_, rfl⟩
        have hf := lt_n e_v14 hf
        refine lv_iinc (v := v14) (lv' := [(7, .int v14), (6, .int v13), (0, .ref (ad 0)), (1, .int x1), (2, .int x2), (3, .int x3), (4, .int x4), (5, .int x5)]) hx hb dX6_look_137 hl (k := 7) rfl (by rw [e_v14]; rfl) (by decide) rfl (fun ls hl => ?_)
        refine lv_goto (tgt := 48) hx hb dX6_look_140 (by decide) ?_
        exact hK48 σ x1 x2 x3 x4 x5 v13 v14 _ _ _ hZ (lv_sub hl [2, 3, 4, 5, 6, 7, 1, 0] rfl) hf
set_option maxHeartbeats 4000000 in
set_option maxRecDepth 100000 in
theorem wk_X6_look_397 {p : Program} {l : Launch} {e : Env} {s : State} {m : MethodId} {args : Array Value} {below : List Frame} {meth : Method} {c : Code} {D : va_G} {A : Nat → Prop} {ad : Nat → Nat} {cA : Nat → ClassId} {rs : va_W} {tr : List (ClassId × FieldType)} {res : Int32 × S2} (C0 : cx p m meth c cX6_look (some .boolean) 9 s args tb nl RX6) : ∀ (n : Nat) (σ : S2) (x1 : Int32) (x2 : Int32) (x7 : Int32), ∀ (H : Heap) (locs : List Loc) (ls : Array Slot), zz D vwCl (tyM cA tr) A (wM ad cA rs) s s.heap H locs σ → lv_has ls 9 [(0, .ref (ad 0)), (1, .int x1), (2, .int x2), (7, .int x7)] → fn_X6_look_397 n σ x1 x2 x7 = some res → W p l e rm_X6_look s m args below meth c H locs 0 0 (MQ below (va_Qi (fun r' u' => r' = res.1 ∧ u' = res.2) (zB D vwCl (tyM cA tr) A (wM ad cA rs)) A) args s 0 0 A) (F0 m 397 ls []) := by
  obtain ⟨hx, hb, hr, hml, hown, htt, hlocks, hnw⟩ := id C0
  intro n
  induction n with
  | zero => intro σ x1 x2 x7 H locs ls hZ hl hf; exact no_some hf
  | succ n ih =>
    intro σ x1 x2 x7 H locs ls hZ hl hf
    rw [fn_X6_look_397] at hf
    refine lv_iload hx hb dX6_look_397 (lv_at hl 3 rfl) ?_
    refine lv_bipush (v := 32) hx hb dX6_look_399 (by decide) ?_
    refine lv_icmp_ge (tgt := 445) hx hb dX6_look_401 (by decide) (fun c_1 => ?_) (fun c_1 => ?_)
    · have hf := ite_t c_1 hf
      refine lv_iconst (v := 0) hx hb dX6_look_445 (by decide) ?_
      refine lv_istore (lv' := [(7, .int 0), (0, .ref (ad 0)), (1, .int x1), (2, .int x2)]) hx hb dX6_look_446 hl (by decide) rfl (fun ls hl => ?_)
      refine lv_iconst (v := 0) hx hb dX6_look_448 (by decide) ?_
      refine lv_istore (lv' := [(8, .int 0), (7, .int 0), (0, .ref (ad 0)), (1, .int x1), (2, .int x2)]) hx hb dX6_look_449 hl (by decide) rfl (fun ls hl => ?_)
      exact wk_X6_look_451 C0  fu σ 0 0 _ _ _ hZ (lv_sub hl [2, 1, 0] rfl) hf
    · have hf := ite_f c_1 hf
      refine lv_aload_n hx hb dX6_look_404 rfl (lv_at hl 0 rfl) ?_
      refine z_get hx hb htt iw_X6 hown hZ 0 rfl rfl 19 (by decide) lf_X6_56 rfl dX6_look_405 ?_
      refine lv_iload hx hb dX6_look_408 (lv_at hl 3 rfl) ?_
      refine lv_iconst (v := 1) hx hb dX6_look_410 (by decide) ?_
      refine lv_iadd hx hb dX6_look_411 ?_
      refine lv_aload_n hx hb dX6_look_412 rfl (lv_at hl 0 rfl) ?_
      refine z_get hx hb htt iw_X6 hown hZ 0 rfl rfl 18 (by decide) lf_X6_53 rfl dX6_look_413 ?_
      refine lv_iload hx hb dX6_look_416 (lv_at hl 3 rfl) ?_
      obtain ⟨h_2, hf⟩ := ck_s hf
      refine z_zld hx hb hZ 15 14 rfl rfl h_2 dX6_look_418 ?_
      refine lv_if_eq (tgt := 437) hx hb dX6_look_419 (by decide) (fun c_3 => ?_) (fun c_3 => ?_)
      · have hf := ite_t c_3 hf
        refine lv_iconst (v := 0) hx hb dX6_look_437 (by decide) ?_
        obtain ⟨h_4, hf⟩ := ck_s hf
        refine z_zst (σ' := st σ 16 ((x7 + 1)).toNatClampNeg 0) hx hb hZ 16 15 rfl rfl h_4 dX6_look_438 rfl (fun σ5 H locs e_σ5 hZ => ?_)
        have hf := lt_n e_σ5 hf
        obtain ⟨v6, e_v6⟩ : ∃ y : Int32, y = x7 + 1 := ⟨_, rfl⟩
        have hf := lt_n e_v6 hf
        refine lv_iinc (v := v6) (lv' := [(7, .int v6), (0, .ref (ad 0)), (1, .int x1), (2, .int x2)]) hx hb dX6_look_439 hl (k := 3) rfl (by rw [e_v6]; rfl) (by decide) rfl (fun ls hl => ?_)
        refine lv_goto (tgt := 397) hx hb dX6_look_442 (by decide) ?_
        exact ih σ5 x1 x2 v6 _ _ _ hZ (lv_sub hl [1, 2, 3, 0] rfl) hf
      · have hf := ite_f c_3 hf
        refine lv_aload_n hx hb dX6_look_422 rfl (lv_at hl 0 rfl) ?_
        refine lv_iload_n hx hb dX6_look_423 rfl (lv_at hl 1 rfl) ?_
        refine lv_iload_n hx hb dX6_look_424 rfl (lv_at hl 2 rfl) ?_
        refine lv_iload hx hb dX6_look_425 (lv_at hl 3 rfl) ?_
        obtain ⟨r9, σ8, k_7, hf⟩ := bn2_s hf
        refine z_calli (r := r9) (u := σ8) (z_runV (As := [.int x1, .int x2, .int x7]) (rest := [.int (x7 + 1), .ref (ad 16)]) ⟨hx, hb, hml, hown, htt⟩ gT (ct_X6_isWrong l D A ad cA rs tr σ x1 x2 x7 k_7) md_X6_isWrong lm_X6_132 rfl rfl ⟨Nat.le_of_ble_eq_true rfl, Nat.le_of_ble_eq_true rfl⟩ (z_preV gN hnw hZ rfl (q0 := 0) (ci := 6) rfl) rfl rfl hl.1 rfl (lv_room (Nat.le_of_ble_eq_true rfl)) dX6_look_427 ⟨Nat.le_of_ble_eq_true rfl, Nat.le_of_ble_eq_true rfl⟩) hZ (fun H locs hZ => ?_)
        refine lv_if_eq (tgt := 437) hx hb dX6_look_430 (by decide) (fun c_10 => ?_) (fun c_10 => ?_)
        · have hf := ite_t c_10 hf
          refine lv_iconst (v := 0) hx hb dX6_look_437 (by decide) ?_
          obtain ⟨h_11, hf⟩ := ck_s hf
          refine z_zst (σ' := st σ8 16 ((x7 + 1)).toNatClampNeg 0) hx hb hZ 16 15 rfl rfl h_11 dX6_look_438 rfl (fun σ12 H locs e_σ12 hZ => ?_)
          have hf := lt_n e_σ12 hf
          obtain ⟨v13, e_v13⟩ : ∃ y : Int32, y = x7 + 1 := ⟨_, rfl⟩
          have hf := lt_n e_v13 hf
          refine lv_iinc (v := v13) (lv' := [(7, .int v13), (0, .ref (ad 0)), (1, .int x1), (2, .int x2)]) hx hb dX6_look_439 hl (k := 3) rfl (by rw [e_v13]; rfl) (by decide) rfl (fun ls hl => ?_)
          refine lv_goto (tgt := 397) hx hb dX6_look_442 (by decide) ?_
          exact ih σ12 x1 x2 v13 _ _ _ hZ (lv_sub hl [1, 2, 3, 0] rfl) hf
        · have hf := ite_f c_10 hf
          refine lv_iconst (v := 1) hx hb dX6_look_433 (by decide) ?_
          refine lv_goto (tgt := 438) hx hb dX6_look_434 (by decide) ?_
          obtain ⟨h_14, hf⟩ := ck_s hf
          refine z_zst (σ' := st σ8 16 ((x7 + 1)).toNatClampNeg 1) hx hb hZ 16 15 rfl rfl h_14 dX6_look_438 rfl (fun σ15 H locs e_σ15 hZ => ?_)
          have hf := lt_n e_σ15 hf
          obtain ⟨v16, e_v16⟩ : ∃ y : Int32, y = x7 + 1 := ⟨_, rfl⟩
          have hf := lt_n e_v16 hf
          refine lv_iinc (v := v16) (lv' := [(7, .int v16), (0, .ref (ad 0)), (1, .int x1), (2, .int x2)]) hx hb dX6_look_439 hl (k := 3) rfl (by rw [e_v16]; rfl) (by decide) rfl (fun ls hl => ?_)
          refine lv_goto (tgt := 397) hx hb dX6_look_442 (by decide) ?_
          exact ih σ15 x1 x2 v16 _ _ _ hZ (lv_sub hl [1, 2, 3, 0] rfl) hf
set_option maxHeartbeats 4000000 in
set_option maxRecDepth 100000 in
theorem wk_X6_look_287 {p : Program} {l : Launch} {e : Env} {s : State} {m : MethodId} {args : Array Value} {below : List Frame} {meth : Method} {c : Code} {D : va_G} {A : Nat → Prop} {ad : Nat → Nat} {cA : Nat → ClassId} {rs : va_W} {tr : List (ClassId × FieldType)} {res : Int32 × S2} (C0 : cx p m meth c cX6_look (some .boolean) 9 s args tb nl RX6) : ∀ (n : Nat) (σ : S2) (x2 : Int32) (x4 : Int32) (x7 : Int32), ∀ (H : Heap) (locs : List Loc) (ls : Array Slot), zz D vwCl (tyM cA tr) A (wM ad cA rs) s s.heap H locs σ → lv_has ls 9 [(0, .ref (ad 0)), (2, .int x2), (4, .int x4), (7, .int x7)] → fn_X6_look_287 n σ x2 x4 x7 = some res → W p l e rm_X6_look s m args below meth c H locs 0 0 (MQ below (va_Qi (fun r' u' => r' = res.1 ∧ u' = res.2) (zB D vwCl (tyM cA tr) A (wM ad cA rs)) A) args s 0 0 A) (F0 m 287 ls []) := by
  obtain ⟨hx, hb, hr, hml, hown, htt, hlocks, hnw⟩ := id C0
  intro n
  induction n with
  | zero => intro σ x2 x4 x7 H locs ls hZ hl hf; exact no_some hf
  | succ n ih =>
    intro σ x2 x4 x7 H locs ls hZ hl hf
    rw [fn_X6_look_287] at hf
    refine lv_iload hx hb dX6_look_287 (lv_at hl 3 rfl) ?_
    refine lv_bipush (v := 32) hx hb dX6_look_289 (by decide) ?_
    refine lv_icmp_ge (tgt := 333) hx hb dX6_look_291 (by decide) (fun c_1 => ?_) (fun c_1 => ?_)
    · have hf := ite_t c_1 hf
      refine lv_goto (tgt := 445) hx hb dX6_look_333 (by decide) ?_
      refine lv_iconst (v := 0) hx hb dX6_look_445 (by decide) ?_
      refine lv_istore (lv' := [(7, .int 0), (0, .ref (ad 0)), (2, .int x2), (4, .int x4)]) hx hb dX6_look_446 hl (by decide) rfl (fun ls hl => ?_)
      refine lv_iconst (v := 0) hx hb dX6_look_448 (by decide) ?_
      refine lv_istore (lv' := [(8, .int 0), (7, .int 0), (0, .ref (ad 0)), (2, .int x2), (4, .int x4)]) hx hb dX6_look_449 hl (by decide) rfl (fun ls hl => ?_)
      exact wk_X6_look_451 C0  fu σ 0 0 _ _ _ hZ (lv_sub hl [2, 1, 0] rfl) hf
    · have hf := ite_f c_1 hf
      refine lv_aload_n hx hb dX6_look_294 rfl (lv_at hl 0 rfl) ?_
      refine z_get hx hb htt iw_X6 hown hZ 0 rfl rfl 19 (by decide) lf_X6_56 rfl dX6_look_295 ?_
      refine lv_iload hx hb dX6_look_298 (lv_at hl 3 rfl) ?_
      refine lv_iconst (v := 1) hx hb dX6_look_300 (by decide) ?_
      refine lv_iadd hx hb dX6_look_301 ?_
      refine lv_aload_n hx hb dX6_look_302 rfl (lv_at hl 0 rfl) ?_
      refine z_get hx hb htt iw_X6 hown hZ 0 rfl rfl 18 (by decide) lf_X6_53 rfl dX6_look_303 ?_
      refine lv_iload hx hb dX6_look_306 (lv_at hl 3 rfl) ?_
      obtain ⟨h_2, hf⟩ := ck_s hf
      refine z_zld hx hb hZ 15 14 rfl rfl h_2 dX6_look_308 ?_
      refine lv_aload_n hx hb dX6_look_309 rfl (lv_at hl 0 rfl) ?_
      refine lv_iload_n hx hb dX6_look_310 rfl (lv_at hl 1 rfl) ?_
      refine lv_iload hx hb dX6_look_311 (lv_at hl 2 rfl) ?_
      refine lv_iload hx hb dX6_look_313 (lv_at hl 3 rfl) ?_
      obtain ⟨r4, k_3, hf⟩ := bn_s hf
      refine z_calli (z_runV (As := [.int x2, .int x4, .int x7]) (rest := [.int (σ.1 15 (x7).toNatClampNeg), .int (x7 + 1), .ref (ad 16)]) ⟨hx, hb, hml, hown, htt⟩ gT (ct_X6_leads l D A ad cA rs tr σ x2 x4 x7 k_3) md_X6_leads lm_X6_77 rfl rfl ⟨Nat.le_of_ble_eq_true rfl, Nat.le_of_ble_eq_true rfl⟩ (z_preV gN hnw hZ rfl (q0 := 0) (ci := 6) rfl) rfl rfl hl.1 rfl (lv_room (Nat.le_of_ble_eq_true rfl)) dX6_look_315 ⟨Nat.le_of_ble_eq_true rfl, Nat.le_of_ble_eq_true rfl⟩) hZ (fun H locs hZ => ?_)
      refine lv_icmp_eq (tgt := 325) hx hb dX6_look_318 (by decide) (fun c_5 => ?_) (fun c_5 => ?_)
      · have hf := ite_t c_5 hf
        refine lv_iconst (v := 0) hx hb dX6_look_325 (by decide) ?_
        obtain ⟨h_6, hf⟩ := ck_s hf
        refine z_zst (σ' := st σ 16 ((x7 + 1)).toNatClampNeg 0) hx hb hZ 16 15 rfl rfl h_6 dX6_look_326 rfl (fun σ7 H locs e_σ7 hZ => ?_)
        have hf := lt_n e_σ7 hf
        obtain ⟨v8, e_v8⟩ : ∃ y : Int32, y = x7 + 1 := ⟨_, rfl⟩
        have hf := lt_n e_v8 hf
        refine lv_iinc (v := v8) (lv' := [(7, .int v8), (0, .ref (ad 0)), (2, .int x2), (4, .int x4)]) hx hb dX6_look_327 hl (k := 3) rfl (by rw [e_v8]; rfl) (by decide) rfl (fun ls hl => ?_)
        refine lv_goto (tgt := 287) hx hb dX6_look_330 (by decide) ?_
        exact ih σ7 x2 x4 v8 _ _ _ hZ (lv_sub hl [1, 2, 3, 0] rfl) hf
      · have hf := ite_f c_5 hf
        refine lv_iconst (v := 1) hx hb dX6_look_321 (by decide) ?_
        refine lv_goto (tgt := 326) hx hb dX6_look_322 (by decide) ?_
        obtain ⟨h_9, hf⟩ := ck_s hf
        refine z_zst (σ' := st σ 16 ((x7 + 1)).toNatClampNeg 1) hx hb hZ 16 15 rfl rfl h_9 dX6_look_326 rfl (fun σ10 H locs e_σ10 hZ => ?_)
        have hf := lt_n e_σ10 hf
        obtain ⟨v11, e_v11⟩ : ∃ y : Int32, y = x7 + 1 := ⟨_, rfl⟩
        have hf := lt_n e_v11 hf
        refine lv_iinc (v := v11) (lv' := [(7, .int v11), (0, .ref (ad 0)), (2, .int x2), (4, .int x4)]) hx hb dX6_look_327 hl (k := 3) rfl (by rw [e_v11]; rfl) (by decide) rfl (fun ls hl => ?_)
        refine lv_goto (tgt := 287) hx hb dX6_look_330 (by decide) ?_
        exact ih σ10 x2 x4 v11 _ _ _ hZ (lv_sub hl [1, 2, 3, 0] rfl) hf
set_option maxHeartbeats 4000000 in
set_option maxRecDepth 100000 in
theorem wk_X6_look_48 {p : Program} {l : Launch} {e : Env} {s : State} {m : MethodId} {args : Array Value} {below : List Frame} {meth : Method} {c : Code} {D : va_G} {A : Nat → Prop} {ad : Nat → Nat} {cA : Nat → ClassId} {rs : va_W} {tr : List (ClassId × FieldType)} {res : Int32 × S2} (C0 : cx p m meth c cX6_look (some .boolean) 9 s args tb nl RX6) : ∀ (n : Nat) (σ : S2) (x1 : Int32) (x2 : Int32) (x3 : Int32) (x4 : Int32) (x5 : Int32) (x6 : Int32) (x7 : Int32), ∀ (H : Heap) (locs : List Loc) (ls : Array Slot), zz D vwCl (tyM cA tr) A (wM ad cA rs) s s.heap H locs σ → lv_has ls 9 [(0, .ref (ad 0)), (1, .int x1), (2, .int x2), (3, .int x3), (4, .int x4), (5, .int x5), (6, .int x6), (7, .int x7)] → fn_X6_look_48 n σ x1 x2 x3 x4 x5 x6 x7 = some res → W p l e rm_X6_look s m args below meth c H locs 0 0 (MQ below (va_Qi (fun r' u' => r' = res.1 ∧ u' = res.2) (zB D vwCl (tyM cA tr) A (wM ad cA rs)) A) args s 0 0 A) (F0 m 48 ls []) := by
  obtain ⟨hx, hb, hr, hml, hown, htt, hlocks, hnw⟩ := id C0
  intro n
  induction n with
  | zero => intro σ x1 x2 x3 x4 x5 x6 x7 H locs ls hZ hl hf; exact no_some hf
  | succ n ih =>
    intro σ x1 x2 x3 x4 x5 x6 x7 H locs ls hZ hl hf
    rw [fn_X6_look_48] at hf
    refine lv_iload hx hb dX6_look_48 (lv_at hl 7 rfl) ?_
    refine lv_bipush (v := 32) hx hb dX6_look_50 (by decide) ?_
    refine lv_icmp_ge (tgt := 143) hx hb dX6_look_52 (by decide) (fun c_1 => ?_) (fun c_1 => ?_)
    · have hf := ite_t c_1 hf
      refine lv_aload_n hx hb dX6_look_143 rfl (lv_at hl 0 rfl) ?_
      refine z_get hx hb htt iw_X6 hown hZ 0 rfl rfl 11 (by decide) lf_X6_32 rfl dX6_look_144 ?_
      refine lv_iload_n hx hb dX6_look_147 rfl (lv_at hl 1 rfl) ?_
      obtain ⟨h_2, hf⟩ := ck_s hf
      refine z_ild hx hb hZ 8 7 rfl rfl h_2 dX6_look_148 ?_
      by_cases c_3 : (σ.1 8 (x1).toNatClampNeg) = 2
      · have hf := ite_t c_3 hf
        refine lv_tableIn (tgt := 228) hx hb dX6_look_149 (by rw [c_3]; decide) (by rw [c_3]; decide) (by rw [c_3]; rfl) (by decide) ?_
        refine lv_aload_n hx hb dX6_look_228 rfl (lv_at hl 0 rfl) ?_
        refine z_get hx hb htt iw_X6 hown hZ 0 rfl rfl 19 (by decide) lf_X6_56 rfl dX6_look_229 ?_
        refine lv_iconst (v := 0) hx hb dX6_look_232 (by decide) ?_
        refine lv_iload hx hb dX6_look_233 (lv_at hl 5 rfl) ?_
        refine lv_iload hx hb dX6_look_235 (lv_at hl 4 rfl) ?_
        refine lv_icmp_lt (tgt := 251) hx hb dX6_look_237 (by decide) (fun c_4 => ?_) (fun c_4 => ?_)
        · have hf := ite_t c_4 hf
          refine lv_iconst (v := 1) hx hb dX6_look_251 (by decide) ?_
          refine lv_goto (tgt := 256) hx hb dX6_look_252 (by decide) ?_
          obtain ⟨h_5, hf⟩ := ck_s hf
          refine z_zst (σ' := st σ 16 (0 : Int32).toNatClampNeg 1) hx hb hZ 16 15 rfl rfl h_5 dX6_look_256 rfl (fun σ6 H locs e_σ6 hZ => ?_)
          have hf := lt_n e_σ6 hf
          refine lv_goto (tgt := 445) hx hb dX6_look_257 (by decide) ?_
          refine lv_iconst (v := 0) hx hb dX6_look_445 (by decide) ?_
          refine lv_istore (lv' := [(7, .int 0), (0, .ref (ad 0)), (1, .int x1), (2, .int x2), (3, .int x3), (4, .int x4), (5, .int x5), (6, .int x6)]) hx hb dX6_look_446 hl (by decide) rfl (fun ls hl => ?_)
          refine lv_iconst (v := 0) hx hb dX6_look_448 (by decide) ?_
          refine lv_istore (lv' := [(8, .int 0), (7, .int 0), (0, .ref (ad 0)), (1, .int x1), (2, .int x2), (3, .int x3), (4, .int x4), (5, .int x5), (6, .int x6)]) hx hb dX6_look_449 hl (by decide) rfl (fun ls hl => ?_)
          exact wk_X6_look_451 C0  fu σ6 0 0 _ _ _ hZ (lv_sub hl [2, 1, 0] rfl) hf
        · have hf := ite_f c_4 hf
          refine lv_iload hx hb dX6_look_240 (lv_at hl 5 rfl) ?_
          refine lv_aload_n hx hb dX6_look_242 rfl (lv_at hl 0 rfl) ?_
          refine z_get hx hb htt iw_X6 hown hZ 0 rfl rfl 13 (by decide) lf_X6_38 rfl dX6_look_243 ?_
          refine lv_iload_n hx hb dX6_look_246 rfl (lv_at hl 1 rfl) ?_
          obtain ⟨h_7, hf⟩ := ck_s hf
          refine z_ild hx hb hZ 10 9 rfl rfl h_7 dX6_look_247 ?_
          refine lv_icmp_le (tgt := 255) hx hb dX6_look_248 (by decide) (fun c_8 => ?_) (fun c_8 => ?_)
          · have hf := ite_t c_8 hf
            refine lv_iconst (v := 0) hx hb dX6_look_255 (by decide) ?_
            obtain ⟨h_9, hf⟩ := ck_s hf
            refine z_zst (σ' := st σ 16 (0 : Int32).toNatClampNeg 0) hx hb hZ 16 15 rfl rfl h_9 dX6_look_256 rfl (fun σ10 H locs e_σ10 hZ => ?_)
            have hf := lt_n e_σ10 hf
            refine lv_goto (tgt := 445) hx hb dX6_look_257 (by decide) ?_
            refine lv_iconst (v := 0) hx hb dX6_look_445 (by decide) ?_
            refine lv_istore (lv' := [(7, .int 0), (0, .ref (ad 0)), (1, .int x1), (2, .int x2), (3, .int x3), (4, .int x4), (5, .int x5), (6, .int x6)]) hx hb dX6_look_446 hl (by decide) rfl (fun ls hl => ?_)
            refine lv_iconst (v := 0) hx hb dX6_look_448 (by decide) ?_
            refine lv_istore (lv' := [(8, .int 0), (7, .int 0), (0, .ref (ad 0)), (1, .int x1), (2, .int x2), (3, .int x3), (4, .int x4), (5, .int x5), (6, .int x6)]) hx hb dX6_look_449 hl (by decide) rfl (fun ls hl => ?_)
            exact wk_X6_look_451 C0  fu σ10 0 0 _ _ _ hZ (lv_sub hl [2, 1, 0] rfl) hf
          · have hf := ite_f c_8 hf
            refine lv_iconst (v := 1) hx hb dX6_look_251 (by decide) ?_
            refine lv_goto (tgt := 256) hx hb dX6_look_252 (by decide) ?_
            obtain ⟨h_11, hf⟩ := ck_s hf
            refine z_zst (σ' := st σ 16 (0 : Int32).toNatClampNeg 1) hx hb hZ 16 15 rfl rfl h_11 dX6_look_256 rfl (fun σ12 H locs e_σ12 hZ => ?_)
            have hf := lt_n e_σ12 hf
            refine lv_goto (tgt := 445) hx hb dX6_look_257 (by decide) ?_
            refine lv_iconst (v := 0) hx hb dX6_look_445 (by decide) ?_
            refine lv_istore (lv' := [(7, .int 0), (0, .ref (ad 0)), (1, .int x1), (2, .int x2), (3, .int x3), (4, .int x4), (5, .int x5), (6, .int x6)]) hx hb dX6_look_446 hl (by decide) rfl (fun ls hl => ?_)
            refine lv_iconst (v := 0) hx hb dX6_look_448 (by decide) ?_
            refine lv_istore (lv' := [(8, .int 0), (7, .int 0), (0, .ref (ad 0)), (1, .int x1), (2, .int x2), (3, .int x3), (4, .int x4), (5, .int x5), (6, .int x6)]) hx hb dX6_look_449 hl (by decide) rfl (fun ls hl => ?_)
            exact wk_X6_look_451 C0  fu σ12 0 0 _ _ _ hZ (lv_sub hl [2, 1, 0] rfl) hf
      have hf := ite_f c_3 hf
      by_cases c_13 : (σ.1 8 (x1).toNatClampNeg) = 5
      · have hf := ite_t c_13 hf
        refine lv_tableIn (tgt := 260) hx hb dX6_look_149 (by rw [c_13]; decide) (by rw [c_13]; decide) (by rw [c_13]; rfl) (by decide) ?_
        refine lv_aload_n hx hb dX6_look_260 rfl (lv_at hl 0 rfl) ?_
        refine z_get hx hb htt iw_X6 hown hZ 0 rfl rfl 19 (by decide) lf_X6_56 rfl dX6_look_261 ?_
        refine lv_iconst (v := 0) hx hb dX6_look_264 (by decide) ?_
        refine lv_aload_n hx hb dX6_look_265 rfl (lv_at hl 0 rfl) ?_
        refine z_get hx hb htt iw_X6 hown hZ 0 rfl rfl 18 (by decide) lf_X6_53 rfl dX6_look_266 ?_
        refine lv_iload hx hb dX6_look_269 (lv_at hl 4 rfl) ?_
        obtain ⟨h_14, hf⟩ := ck_s hf
        refine z_zld hx hb hZ 15 14 rfl rfl h_14 dX6_look_271 ?_
        refine lv_if_ne (tgt := 279) hx hb dX6_look_272 (by decide) (fun c_15 => ?_) (fun c_15 => ?_)
        · have hf := ite_f c_15 hf
          refine lv_iconst (v := 0) hx hb dX6_look_279 (by decide) ?_
          obtain ⟨h_16, hf⟩ := ck_s hf
          refine z_zst (σ' := st σ 16 (0 : Int32).toNatClampNeg 0) hx hb hZ 16 15 rfl rfl h_16 dX6_look_280 rfl (fun σ17 H locs e_σ17 hZ => ?_)
          have hf := lt_n e_σ17 hf
          refine lv_goto (tgt := 445) hx hb dX6_look_281 (by decide) ?_
          refine lv_iconst (v := 0) hx hb dX6_look_445 (by decide) ?_
          refine lv_istore (lv' := [(7, .int 0), (0, .ref (ad 0)), (1, .int x1), (2, .int x2), (3, .int x3), (4, .int x4), (5, .int x5), (6, .int x6)]) hx hb dX6_look_446 hl (by decide) rfl (fun ls hl => ?_)
          refine lv_iconst (v := 0) hx hb dX6_look_448 (by decide) ?_
          refine lv_istore (lv' := [(8, .int 0), (7, .int 0), (0, .ref (ad 0)), (1, .int x1), (2, .int x2), (3, .int x3), (4, .int x4), (5, .int x5), (6, .int x6)]) hx hb dX6_look_449 hl (by decide) rfl (fun ls hl => ?_)
          exact wk_X6_look_451 C0  fu σ17 0 0 _ _ _ hZ (lv_sub hl [2, 1, 0] rfl) hf
        · have hf := ite_t c_15 hf
          refine lv_iconst (v := 1) hx hb dX6_look_275 (by decide) ?_
          refine lv_goto (tgt := 280) hx hb dX6_look_276 (by decide) ?_
          obtain ⟨h_18, hf⟩ := ck_s hf
          refine z_zst (σ' := st σ 16 (0 : Int32).toNatClampNeg 1) hx hb hZ 16 15 rfl rfl h_18 dX6_look_280 rfl (fun σ19 H locs e_σ19 hZ => ?_)
          have hf := lt_n e_σ19 hf
          refine lv_goto (tgt := 445) hx hb dX6_look_281 (by decide) ?_
          refine lv_iconst (v := 0) hx hb dX6_look_445 (by decide) ?_
          refine lv_istore (lv' := [(7, .int 0), (0, .ref (ad 0)), (1, .int x1), (2, .int x2), (3, .int x3), (4, .int x4), (5, .int x5), (6, .int x6)]) hx hb dX6_look_446 hl (by decide) rfl (fun ls hl => ?_)
          refine lv_iconst (v := 0) hx hb dX6_look_448 (by decide) ?_
          refine lv_istore (lv' := [(8, .int 0), (7, .int 0), (0, .ref (ad 0)), (1, .int x1), (2, .int x2), (3, .int x3), (4, .int x4), (5, .int x5), (6, .int x6)]) hx hb dX6_look_449 hl (by decide) rfl (fun ls hl => ?_)
          exact wk_X6_look_451 C0  fu σ19 0 0 _ _ _ hZ (lv_sub hl [2, 1, 0] rfl) hf
      have hf := ite_f c_13 hf
      by_cases c_20 : (σ.1 8 (x1).toNatClampNeg) = 6
      · have hf := ite_t c_20 hf
        refine lv_tableIn (tgt := 284) hx hb dX6_look_149 (by rw [c_20]; decide) (by rw [c_20]; decide) (by rw [c_20]; rfl) (by decide) ?_
        refine lv_iconst (v := 0) hx hb dX6_look_284 (by decide) ?_
        refine lv_istore (lv' := [(7, .int 0), (0, .ref (ad 0)), (1, .int x1), (2, .int x2), (3, .int x3), (4, .int x4), (5, .int x5), (6, .int x6)]) hx hb dX6_look_285 hl (by decide) rfl (fun ls hl => ?_)
        exact wk_X6_look_287 C0  fu σ x2 x4 0 _ _ _ hZ (lv_sub hl [1, 3, 5, 0] rfl) hf
      have hf := ite_f c_20 hf
      by_cases c_21 : (σ.1 8 (x1).toNatClampNeg) = 9
      · have hf := ite_t c_21 hf
        refine lv_tableIn (tgt := 336) hx hb dX6_look_149 (by rw [c_21]; decide) (by rw [c_21]; decide) (by rw [c_21]; rfl) (by decide) ?_
        refine lv_aload_n hx hb dX6_look_336 rfl (lv_at hl 0 rfl) ?_
        obtain ⟨σ23, k_22, hf⟩ := bn_s hf
        refine z_callv (u := σ23) (z_runV (As := []) (rest := []) ⟨hx, hb, hml, hown, htt⟩ gT (ct_X6_lookAtTags l D A ad cA rs tr σ  k_22) md_X6_lookAtTags lm_X6_125 rfl rfl ⟨Nat.le_of_ble_eq_true rfl, Nat.le_of_ble_eq_true rfl⟩ (z_preV gN hnw hZ rfl (q0 := 0) (ci := 6) rfl) rfl rfl hl.1 rfl (lv_room (Nat.le_of_ble_eq_true rfl)) dX6_look_337 ⟨Nat.le_of_ble_eq_true rfl, Nat.le_of_ble_eq_true rfl⟩) hZ (fun H locs hZ => ?_)
        refine lv_goto (tgt := 445) hx hb dX6_look_340 (by decide) ?_
        refine lv_iconst (v := 0) hx hb dX6_look_445 (by decide) ?_
        refine lv_istore (lv' := [(7, .int 0), (0, .ref (ad 0)), (1, .int x1), (2, .int x2), (3, .int x3), (4, .int x4), (5, .int x5), (6, .int x6)]) hx hb dX6_look_446 hl (by decide) rfl (fun ls hl => ?_)
        refine lv_iconst (v := 0) hx hb dX6_look_448 (by decide) ?_
        refine lv_istore (lv' := [(8, .int 0), (7, .int 0), (0, .ref (ad 0)), (1, .int x1), (2, .int x2), (3, .int x3), (4, .int x4), (5, .int x5), (6, .int x6)]) hx hb dX6_look_449 hl (by decide) rfl (fun ls hl => ?_)
        exact wk_X6_look_451 C0  fu σ23 0 0 _ _ _ hZ (lv_sub hl [2, 1, 0] rfl) hf
      have hf := ite_f c_21 hf
      by_cases c_24 : (σ.1 8 (x1).toNatClampNeg) = 10
      · have hf := ite_t c_24 hf
        refine lv_tableIn (tgt := 343) hx hb dX6_look_149 (by rw [c_24]; decide) (by rw [c_24]; decide) (by rw [c_24]; rfl) (by decide) ?_
        refine lv_aload_n hx hb dX6_look_343 rfl (lv_at hl 0 rfl) ?_
        refine lv_iload hx hb dX6_look_344 (lv_at hl 4 rfl) ?_
        obtain ⟨σ26, k_25, hf⟩ := bn_s hf
        refine z_callv (u := σ26) (z_runV (As := [.int x4]) (rest := []) ⟨hx, hb, hml, hown, htt⟩ gT (ct_X6_lookAtOthers l D A ad cA rs tr σ x4 k_25) md_X6_lookAtOthers lm_X6_128 rfl rfl ⟨Nat.le_of_ble_eq_true rfl, Nat.le_of_ble_eq_true rfl⟩ (z_preV gN hnw hZ rfl (q0 := 0) (ci := 6) rfl) rfl rfl hl.1 rfl (lv_room (Nat.le_of_ble_eq_true rfl)) dX6_look_346 ⟨Nat.le_of_ble_eq_true rfl, Nat.le_of_ble_eq_true rfl⟩) hZ (fun H locs hZ => ?_)
        refine lv_goto (tgt := 445) hx hb dX6_look_349 (by decide) ?_
        refine lv_iconst (v := 0) hx hb dX6_look_445 (by decide) ?_
        refine lv_istore (lv' := [(7, .int 0), (0, .ref (ad 0)), (1, .int x1), (2, .int x2), (3, .int x3), (4, .int x4), (5, .int x5), (6, .int x6)]) hx hb dX6_look_446 hl (by decide) rfl (fun ls hl => ?_)
        refine lv_iconst (v := 0) hx hb dX6_look_448 (by decide) ?_
        refine lv_istore (lv' := [(8, .int 0), (7, .int 0), (0, .ref (ad 0)), (1, .int x1), (2, .int x2), (3, .int x3), (4, .int x4), (5, .int x5), (6, .int x6)]) hx hb dX6_look_449 hl (by decide) rfl (fun ls hl => ?_)
        exact wk_X6_look_451 C0  fu σ26 0 0 _ _ _ hZ (lv_sub hl [2, 1, 0] rfl) hf
      have hf := ite_f c_24 hf
      by_cases c_27 : (σ.1 8 (x1).toNatClampNeg) = 17
      · have hf := ite_t c_27 hf
        refine lv_tableIn (tgt := 352) hx hb dX6_look_149 (by rw [c_27]; decide) (by rw [c_27]; decide) (by rw [c_27]; rfl) (by decide) ?_
        refine lv_aload_n hx hb dX6_look_352 rfl (lv_at hl 0 rfl) ?_
        refine z_get hx hb htt iw_X6 hown hZ 0 rfl rfl 19 (by decide) lf_X6_56 rfl dX6_look_353 ?_
        refine lv_iconst (v := 0) hx hb dX6_look_356 (by decide) ?_
        refine lv_iload hx hb dX6_look_357 (lv_at hl 6 rfl) ?_
        refine lv_aload_n hx hb dX6_look_359 rfl (lv_at hl 0 rfl) ?_
        refine z_get hx hb htt iw_X6 hown hZ 0 rfl rfl 13 (by decide) lf_X6_38 rfl dX6_look_360 ?_
        refine lv_iload_n hx hb dX6_look_363 rfl (lv_at hl 1 rfl) ?_
        obtain ⟨h_28, hf⟩ := ck_s hf
        refine z_ild hx hb hZ 10 9 rfl rfl h_28 dX6_look_364 ?_
        refine lv_bipush (v := 16) hx hb dX6_look_365 (by decide) ?_
        refine lv_idiv hx hb dX6_look_367 (by decide) ?_
        refine lv_icmp_lt (tgt := 385) hx hb dX6_look_368 (by decide) (fun c_29 => ?_) (fun c_29 => ?_)
        · have hf := ite_t c_29 hf
          refine lv_iconst (v := 1) hx hb dX6_look_385 (by decide) ?_
          refine lv_goto (tgt := 390) hx hb dX6_look_386 (by decide) ?_
          obtain ⟨h_30, hf⟩ := ck_s hf
          refine z_zst (σ' := st σ 16 (0 : Int32).toNatClampNeg 1) hx hb hZ 16 15 rfl rfl h_30 dX6_look_390 rfl (fun σ31 H locs e_σ31 hZ => ?_)
          have hf := lt_n e_σ31 hf
          refine lv_goto (tgt := 445) hx hb dX6_look_391 (by decide) ?_
          refine lv_iconst (v := 0) hx hb dX6_look_445 (by decide) ?_
          refine lv_istore (lv' := [(7, .int 0), (0, .ref (ad 0)), (1, .int x1), (2, .int x2), (3, .int x3), (4, .int x4), (5, .int x5), (6, .int x6)]) hx hb dX6_look_446 hl (by decide) rfl (fun ls hl => ?_)
          refine lv_iconst (v := 0) hx hb dX6_look_448 (by decide) ?_
          refine lv_istore (lv' := [(8, .int 0), (7, .int 0), (0, .ref (ad 0)), (1, .int x1), (2, .int x2), (3, .int x3), (4, .int x4), (5, .int x5), (6, .int x6)]) hx hb dX6_look_449 hl (by decide) rfl (fun ls hl => ?_)
          exact wk_X6_look_451 C0  fu σ31 0 0 _ _ _ hZ (lv_sub hl [2, 1, 0] rfl) hf
        · have hf := ite_f c_29 hf
          refine lv_iload hx hb dX6_look_371 (lv_at hl 6 rfl) ?_
          refine lv_aload_n hx hb dX6_look_373 rfl (lv_at hl 0 rfl) ?_
          refine z_get hx hb htt iw_X6 hown hZ 0 rfl rfl 13 (by decide) lf_X6_38 rfl dX6_look_374 ?_
          refine lv_iload_n hx hb dX6_look_377 rfl (lv_at hl 1 rfl) ?_
          obtain ⟨h_32, hf⟩ := ck_s hf
          refine z_ild hx hb hZ 10 9 rfl rfl h_32 dX6_look_378 ?_
          refine lv_bipush (v := 16) hx hb dX6_look_379 (by decide) ?_
          refine lv_irem hx hb dX6_look_381 (by decide) ?_
          refine lv_icmp_le (tgt := 389) hx hb dX6_look_382 (by decide) (fun c_33 => ?_) (fun c_33 => ?_)
          · have hf := ite_t c_33 hf
            refine lv_iconst (v := 0) hx hb dX6_look_389 (by decide) ?_
            obtain ⟨h_34, hf⟩ := ck_s hf
            refine z_zst (σ' := st σ 16 (0 : Int32).toNatClampNeg 0) hx hb hZ 16 15 rfl rfl h_34 dX6_look_390 rfl (fun σ35 H locs e_σ35 hZ => ?_)
            have hf := lt_n e_σ35 hf
            refine lv_goto (tgt := 445) hx hb dX6_look_391 (by decide) ?_
            refine lv_iconst (v := 0) hx hb dX6_look_445 (by decide) ?_
            refine lv_istore (lv' := [(7, .int 0), (0, .ref (ad 0)), (1, .int x1), (2, .int x2), (3, .int x3), (4, .int x4), (5, .int x5), (6, .int x6)]) hx hb dX6_look_446 hl (by decide) rfl (fun ls hl => ?_)
            refine lv_iconst (v := 0) hx hb dX6_look_448 (by decide) ?_
            refine lv_istore (lv' := [(8, .int 0), (7, .int 0), (0, .ref (ad 0)), (1, .int x1), (2, .int x2), (3, .int x3), (4, .int x4), (5, .int x5), (6, .int x6)]) hx hb dX6_look_449 hl (by decide) rfl (fun ls hl => ?_)
            exact wk_X6_look_451 C0  fu σ35 0 0 _ _ _ hZ (lv_sub hl [2, 1, 0] rfl) hf
          · have hf := ite_f c_33 hf
            refine lv_iconst (v := 1) hx hb dX6_look_385 (by decide) ?_
            refine lv_goto (tgt := 390) hx hb dX6_look_386 (by decide) ?_
            obtain ⟨h_36, hf⟩ := ck_s hf
            refine z_zst (σ' := st σ 16 (0 : Int32).toNatClampNeg 1) hx hb hZ 16 15 rfl rfl h_36 dX6_look_390 rfl (fun σ37 H locs e_σ37 hZ => ?_)
            have hf := lt_n e_σ37 hf
            refine lv_goto (tgt := 445) hx hb dX6_look_391 (by decide) ?_
            refine lv_iconst (v := 0) hx hb dX6_look_445 (by decide) ?_
            refine lv_istore (lv' := [(7, .int 0), (0, .ref (ad 0)), (1, .int x1), (2, .int x2), (3, .int x3), (4, .int x4), (5, .int x5), (6, .int x6)]) hx hb dX6_look_446 hl (by decide) rfl (fun ls hl => ?_)
            refine lv_iconst (v := 0) hx hb dX6_look_448 (by decide) ?_
            refine lv_istore (lv' := [(8, .int 0), (7, .int 0), (0, .ref (ad 0)), (1, .int x1), (2, .int x2), (3, .int x3), (4, .int x4), (5, .int x5), (6, .int x6)]) hx hb dX6_look_449 hl (by decide) rfl (fun ls hl => ?_)
            exact wk_X6_look_451 C0  fu σ37 0 0 _ _ _ hZ (lv_sub hl [2, 1, 0] rfl) hf
      have hf := ite_f c_27 hf
      have nc_3 := lv_neT c_3 (show (2 : Int32).toInt = 2 from by decide)
      have nc_13 := lv_neT c_13 (show (5 : Int32).toInt = 5 from by decide)
      have nc_20 := lv_neT c_20 (show (6 : Int32).toInt = 6 from by decide)
      have nc_21 := lv_neT c_21 (show (9 : Int32).toInt = 9 from by decide)
      have nc_24 := lv_neT c_24 (show (10 : Int32).toInt = 10 from by decide)
      have nc_27 := lv_neT c_27 (show (17 : Int32).toInt = 17 from by decide)
      have h_38 : ((σ.1 8 (x1).toNatClampNeg)).toInt < 2 ∨ 17 < ((σ.1 8 (x1).toNatClampNeg)).toInt ∨ ((σ.1 8 (x1).toNatClampNeg)).toInt = 3 ∨ ((σ.1 8 (x1).toNatClampNeg)).toInt = 4 ∨ ((σ.1 8 (x1).toNatClampNeg)).toInt = 7 ∨ ((σ.1 8 (x1).toNatClampNeg)).toInt = 8 ∨ ((σ.1 8 (x1).toNatClampNeg)).toInt = 11 ∨ ((σ.1 8 (x1).toNatClampNeg)).toInt = 12 ∨ ((σ.1 8 (x1).toNatClampNeg)).toInt = 13 ∨ ((σ.1 8 (x1).toNatClampNeg)).toInt = 14 ∨ ((σ.1 8 (x1).toNatClampNeg)).toInt = 15 ∨ ((σ.1 8 (x1).toNatClampNeg)).toInt = 16 := by omega
      refine z_tdef (tgt := 394) hx hb dX6_look_149 (by
        rcases h_38 with h_38 | h_38 | h_38 | h_38 | h_38 | h_38 | h_38 | h_38 | h_38 | h_38 | h_38 | h_38
        · exact Or.inl h_38
        · exact Or.inr (Or.inl h_38)
        · exact Or.inr (Or.inr (by rw [h_38]; rfl))
        · exact Or.inr (Or.inr (by rw [h_38]; rfl))
        · exact Or.inr (Or.inr (by rw [h_38]; rfl))
        · exact Or.inr (Or.inr (by rw [h_38]; rfl))
        · exact Or.inr (Or.inr (by rw [h_38]; rfl))
        · exact Or.inr (Or.inr (by rw [h_38]; rfl))
        · exact Or.inr (Or.inr (by rw [h_38]; rfl))
        · exact Or.inr (Or.inr (by rw [h_38]; rfl))
        · exact Or.inr (Or.inr (by rw [h_38]; rfl))
        · exact Or.inr (Or.inr (by rw [h_38]; rfl))) (by decide) ?_
      refine lv_iconst (v := 0) hx hb dX6_look_394 (by decide) ?_
      refine lv_istore (lv' := [(7, .int 0), (0, .ref (ad 0)), (1, .int x1), (2, .int x2), (3, .int x3), (4, .int x4), (5, .int x5), (6, .int x6)]) hx hb dX6_look_395 hl (by decide) rfl (fun ls hl => ?_)
      exact wk_X6_look_397 C0  fu σ x1 x2 0 _ _ _ hZ (lv_sub hl [1, 2, 3, 0] rfl) hf
    · have hf := ite_f c_1 hf
      refine lv_aload_n hx hb dX6_look_55 rfl (lv_at hl 0 rfl) ?_
      refine z_get hx hb htt iw_X6 hown hZ 0 rfl rfl 18 (by decide) lf_X6_53 rfl dX6_look_56 ?_
      refine lv_iload hx hb dX6_look_59 (lv_at hl 7 rfl) ?_
      refine lv_aload_n hx hb dX6_look_61 rfl (lv_at hl 0 rfl) ?_
      refine lv_iload_n hx hb dX6_look_62 rfl (lv_at hl 2 rfl) ?_
      refine lv_iload_n hx hb dX6_look_63 rfl (lv_at hl 3 rfl) ?_
      refine lv_iload hx hb dX6_look_64 (lv_at hl 7 rfl) ?_
      obtain ⟨r40, k_39, hf⟩ := bn_s hf
      refine z_calli (z_runV (As := [.int x2, .int x3, .int x7]) (rest := [.int x7, .ref (ad 15)]) ⟨hx, hb, hml, hown, htt⟩ gT (ct_X6_isValue l D A ad cA rs tr σ x2 x3 x7 k_39) md_X6_isValue lm_X6_122 rfl rfl ⟨Nat.le_of_ble_eq_true rfl, Nat.le_of_ble_eq_true rfl⟩ (z_preV gN hnw hZ rfl (q0 := 0) (ci := 6) rfl) rfl rfl hl.1 rfl (lv_room (Nat.le_of_ble_eq_true rfl)) dX6_look_66 ⟨Nat.le_of_ble_eq_true rfl, Nat.le_of_ble_eq_true rfl⟩) hZ (fun H locs hZ => ?_)
      obtain ⟨h_41, hf⟩ := ck_s hf
      refine z_zst (σ' := st σ 15 (x7).toNatClampNeg (vp_nar .boolean r40)) hx hb hZ 15 14 rfl rfl h_41 dX6_look_69 rfl (fun σ42 H locs e_σ42 hZ => ?_)
      have hf := lt_n e_σ42 hf
      refine lv_iload hx hb dX6_look_70 (lv_at hl 5 rfl) ?_
      refine lv_aload_n hx hb dX6_look_72 rfl (lv_at hl 0 rfl) ?_
      refine z_get hx hb htt iw_X6 hown hZ 0 rfl rfl 18 (by decide) lf_X6_53 rfl dX6_look_73 ?_
      refine lv_iload hx hb dX6_look_76 (lv_at hl 7 rfl) ?_
      obtain ⟨h_43, hf⟩ := ck_s hf
      refine z_zld hx hb hZ 15 14 rfl rfl h_43 dX6_look_78 ?_
      refine lv_if_eq (tgt := 86) hx hb dX6_look_79 (by decide) (fun c_44 => ?_) (fun c_44 => ?_)
      · have hf := ite_t c_44 hf
        refine lv_iconst (v := 0) hx hb dX6_look_86 (by decide) ?_
        refine lv_iadd hx hb dX6_look_87 ?_
        refine lv_topi (fun v45 e_v45 => ?_)
        have hf := lt_n e_v45 hf
        refine lv_istore (lv' := [(5, .int v45), (0, .ref (ad 0)), (1, .int x1), (2, .int x2), (3, .int x3), (4, .int x4), (6, .int x6), (7, .int x7)]) hx hb dX6_look_88 hl (by decide) rfl (fun ls hl => ?_)
        exact wk_X6_look_90 C0 (fn_X6_look_48 n) ih σ42 x1 x2 x3 x4 v45 x6 x7 _ _ _ hZ (lv_sub hl [1, 2, 3, 4, 5, 0, 6, 7] rfl) hf
      · have hf := ite_f c_44 hf
        refine lv_iconst (v := 1) hx hb dX6_look_82 (by decide) ?_
        refine lv_goto (tgt := 87) hx hb dX6_look_83 (by decide) ?_
        refine lv_iadd hx hb dX6_look_87 ?_
        refine lv_topi (fun v46 e_v46 => ?_)
        have hf := lt_n e_v46 hf
        refine lv_istore (lv' := [(5, .int v46), (0, .ref (ad 0)), (1, .int x1), (2, .int x2), (3, .int x3), (4, .int x4), (6, .int x6), (7, .int x7)]) hx hb dX6_look_88 hl (by decide) rfl (fun ls hl => ?_)
        exact wk_X6_look_90 C0 (fn_X6_look_48 n) ih σ42 x1 x2 x3 x4 v46 x6 x7 _ _ _ hZ (lv_sub hl [1, 2, 3, 4, 5, 0, 6, 7] rfl) hf
set_option maxHeartbeats 4000000 in
set_option maxRecDepth 100000 in
theorem wk_X6_look_24 {p : Program} {l : Launch} {e : Env} {s : State} {m : MethodId} {args : Array Value} {below : List Frame} {meth : Method} {c : Code} {D : va_G} {A : Nat → Prop} {ad : Nat → Nat} {cA : Nat → ClassId} {rs : va_W} {tr : List (ClassId × FieldType)} {res : Int32 × S2} (C0 : cx p m meth c cX6_look (some .boolean) 9 s args tb nl RX6) : ∀ (n : Nat) (σ : S2) (x1 : Int32) (x2 : Int32) (x3 : Int32) (x4 : Int32) (x5 : Int32) (x6 : Int32) (x7 : Int32), ∀ (H : Heap) (locs : List Loc) (ls : Array Slot), zz D vwCl (tyM cA tr) A (wM ad cA rs) s s.heap H locs σ → lv_has ls 9 [(0, .ref (ad 0)), (1, .int x1), (2, .int x2), (3, .int x3), (4, .int x4), (5, .int x5), (6, .int x6), (7, .int x7)] → fn_X6_look_24 n σ x1 x2 x3 x4 x5 x6 x7 = some res → W p l e rm_X6_look s m args below meth c H locs 0 0 (MQ below (va_Qi (fun r' u' => r' = res.1 ∧ u' = res.2) (zB D vwCl (tyM cA tr) A (wM ad cA rs)) A) args s 0 0 A) (F0 m 24 ls []) := by
  obtain ⟨hx, hb, hr, hml, hown, htt, hlocks, hnw⟩ := id C0
  intro n
  induction n with
  | zero => intro σ x1 x2 x3 x4 x5 x6 x7 H locs ls hZ hl hf; exact no_some hf
  | succ n ih =>
    intro σ x1 x2 x3 x4 x5 x6 x7 H locs ls hZ hl hf
    rw [fn_X6_look_24] at hf
    refine lv_iload hx hb dX6_look_24 (lv_at hl 7 rfl) ?_
    refine lv_bipush (v := 32) hx hb dX6_look_26 (by decide) ?_
    refine lv_icmp_gt (tgt := 45) hx hb dX6_look_28 (by decide) (fun c_1 => ?_) (fun c_1 => ?_)
    · have hf := ite_t c_1 hf
      refine lv_iconst (v := 0) hx hb dX6_look_45 (by decide) ?_
      refine lv_istore (lv' := [(7, .int 0), (0, .ref (ad 0)), (1, .int x1), (2, .int x2), (3, .int x3), (4, .int x4), (5, .int x5), (6, .int x6)]) hx hb dX6_look_46 hl (by decide) rfl (fun ls hl => ?_)
      exact wk_X6_look_48 C0  fu σ x1 x2 x3 x4 x5 x6 0 _ _ _ hZ (lv_sub hl [1, 2, 3, 4, 5, 6, 7, 0] rfl) hf
    · have hf := ite_f c_1 hf
      refine lv_aload_n hx hb dX6_look_31 rfl (lv_at hl 0 rfl) ?_
      refine z_get hx hb htt iw_X6 hown hZ 0 rfl rfl 19 (by decide) lf_X6_56 rfl dX6_look_32 ?_
      refine lv_iload hx hb dX6_look_35 (lv_at hl 7 rfl) ?_
      refine lv_iconst (v := 0) hx hb dX6_look_37 (by decide) ?_
      obtain ⟨h_2, hf⟩ := ck_s hf
      refine z_zst (σ' := st σ 16 (x7).toNatClampNeg 0) hx hb hZ 16 15 rfl rfl h_2 dX6_look_38 rfl (fun σ3 H locs e_σ3 hZ => ?_)
      have hf := lt_n e_σ3 hf
      obtain ⟨v4, e_v4⟩ : ∃ y : Int32, y = x7 + 1 := ⟨_, rfl⟩
      have hf := lt_n e_v4 hf
      refine lv_iinc (v := v4) (lv' := [(7, .int v4), (0, .ref (ad 0)), (1, .int x1), (2, .int x2), (3, .int x3), (4, .int x4), (5, .int x5), (6, .int x6)]) hx hb dX6_look_39 hl (k := 7) rfl (by rw [e_v4]; rfl) (by decide) rfl (fun ls hl => ?_)
      refine lv_goto (tgt := 24) hx hb dX6_look_42 (by decide) ?_
      exact ih σ3 x1 x2 x3 x4 x5 x6 v4 _ _ _ hZ (lv_sub hl [1, 2, 3, 4, 5, 6, 7, 0] rfl) hf
set_option maxHeartbeats 4000000 in
set_option maxRecDepth 100000 in
theorem ct_X6_look (l : Launch) (D : va_G) (A : Nat → Prop) (ad : Nat → Nat) (cA : Nat → ClassId) (rs : va_W) (tr : List (ClassId × FieldType)) (σ : S2) (x1 : Int32) (x2 : Int32) {res : Int32 × S2} (hf : fn_X6_look σ x1 x2 = some res) : Met l yX6_look (.code yX6_look cX6_look 9 (some .boolean) :: tb) rm_X6_look (va_Pc [.ref (ad 0), .int x1, .int x2] (zN D vwCl (tyM cA tr) A (wM ad cA rs) nl σ)) (va_Qi (fun r' u' => r' = res.1 ∧ u' = res.2) (zB D vwCl (tyM cA tr) A (wM ad cA rs)) A) 0 0 A := by
  refine Met.ofW (cc := cX6_look) (maxL := 9) (ret := (some .boolean)) (by decide) rfl ?_
  intro p e s m args below meth c s₁ B hml hv
  obtain ⟨rfl, hB, hnw0⟩ := hv
  have htt : ∀ w ∈ tb, w.before (([.ref (ad 0), .int x1, .int x2] : List Value).toArray) s = true := fun w h => atoms_spec (ws := (.code yX6_look cX6_look 9 (some .boolean) :: tb)) B.pre w (List.mem_cons_of_mem _ h)
  have C0 : cx p m meth c cX6_look (some .boolean) 9 s (([.ref (ad 0), .int x1, .int x2] : List Value).toArray) tb nl RX6 := ⟨B.exec, B.bytes, B.returns, hml, findClass_of_methodNamed B.named, htt, B.notSynchronized, hnw0⟩
  obtain ⟨hx, hb, hr, hml, hown, htt, hlocks, hnw⟩ := id C0
  have hZ := z_start hB
  have hl := lv_entry ([.ref (ad 0), .int x1, .int x2]) (n := 9) (Nat.le_of_ble_eq_true rfl)
  rw [lg_entry_eq]
  generalize (lg_sl ([.ref (ad 0), .int x1, .int x2]) ++ List.replicate (9 - (lg_sl ([.ref (ad 0), .int x1, .int x2])).length) Slot.unset).toArray = ls at hl ⊢
  have hl : lv_has ls 9 [(0, .ref (ad 0)), (1, .int x1), (2, .int x2)] := hl
  unfold fn_X6_look at hf
  refine lv_aload_n hx hb dX6_look_0 rfl (lv_at hl 0 rfl) ?_
  refine z_get hx hb htt iw_X6 hown hZ 0 rfl rfl 10 (by decide) lf_X6_29 rfl dX6_look_1 ?_
  refine lv_iload_n hx hb dX6_look_4 rfl (lv_at hl 1 rfl) ?_
  obtain ⟨h_1, hf⟩ := ck_s hf
  refine z_ild hx hb hZ 7 6 rfl rfl h_1 dX6_look_5 ?_
  refine lv_topi (fun v2 e_v2 => ?_)
  have hf := lt_n e_v2 hf
  refine lv_istore_n (lv' := [(3, .int v2), (0, .ref (ad 0)), (1, .int x1), (2, .int x2)]) hx hb dX6_look_6 rfl hl (by decide) rfl (fun ls hl => ?_)
  refine lv_aload_n hx hb dX6_look_7 rfl (lv_at hl 1 rfl) ?_
  refine z_get hx hb htt iw_X6 hown hZ 0 rfl rfl 12 (by decide) lf_X6_35 rfl dX6_look_8 ?_
  refine lv_iload_n hx hb dX6_look_11 rfl (lv_at hl 2 rfl) ?_
  obtain ⟨h_3, hf⟩ := ck_s hf
  refine z_ild hx hb hZ 9 8 rfl rfl h_3 dX6_look_12 ?_
  refine lv_topi (fun v4 e_v4 => ?_)
  have hf := lt_n e_v4 hf
  refine lv_istore (lv' := [(4, .int v4), (3, .int v2), (0, .ref (ad 0)), (1, .int x1), (2, .int x2)]) hx hb dX6_look_13 hl (by decide) rfl (fun ls hl => ?_)
  refine lv_iconst (v := 0) hx hb dX6_look_15 (by decide) ?_
  refine lv_istore (lv' := [(5, .int 0), (4, .int v4), (3, .int v2), (0, .ref (ad 0)), (1, .int x1), (2, .int x2)]) hx hb dX6_look_16 hl (by decide) rfl (fun ls hl => ?_)
  refine lv_iconst (v := 0) hx hb dX6_look_18 (by decide) ?_
  refine lv_istore (lv' := [(6, .int 0), (5, .int 0), (4, .int v4), (3, .int v2), (0, .ref (ad 0)), (1, .int x1), (2, .int x2)]) hx hb dX6_look_19 hl (by decide) rfl (fun ls hl => ?_)
  refine lv_iconst (v := 0) hx hb dX6_look_21 (by decide) ?_
  refine lv_istore (lv' := [(7, .int 0), (6, .int 0), (5, .int 0), (4, .int v4), (3, .int v2), (0, .ref (ad 0)), (1, .int x1), (2, .int x2)]) hx hb dX6_look_22 hl (by decide) rfl (fun ls hl => ?_)
  exact wk_X6_look_24 C0  fu σ x1 x2 v2 v4 0 0 0 _ _ _ hZ (lv_sub hl [5, 6, 7, 4, 3, 2, 1, 0] rfl) hf
