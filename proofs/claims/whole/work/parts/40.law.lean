/-! THE CLAIM OUT OF ONE WALK OF THE LAW'S BODY. Your part is whole_start (and what it stands on); all else here is the same for every law, but numbers. -/
def R_law : String := "ShaclStepsLaw"
def lw_P (b : Addr) (xs : List Int32) (args : Array Value) (s : State) : Prop := args = #[.ref b] ∧ s.IntsAt b xs ∧ xs.length ≤ 2560 ∧ (Jvm.Cond.and given_1 narrow_1).before args s = true
def lw_Q (_ : Array Value) (s : State) (o : Outcome) (t : State) : Prop := o = .returned (some (.int 1)) ∧ Framed s o t [] 43 10303
def lw_Z (below : List Frame) (a : Array Value) (s : State) : State → Prop := fun t => ∃ o, t.status = .running ∧ Ended t below o ∧ lw_Q a s o t
/-- the law's own end, with 1 on the stack, nothing written that was there before, its room as the claim has it -/
theorem lw_ret {p : Program} {l : Launch} {e : Env} {s : State} {m : MethodId} {below : List Frame} {meth : Method} {c : Code} {b : Nat} (hx : p.tables.exec = Jvm.exec) (hb : c.code = code) (hr : meth.sig.returnType = ret) (hlocks : meth.locks = false) {pc : Nat} {H : Heap} {ls : Array Slot} (hdg : decode code pc = .ok (.ireturn, 1)) : W p l e room_1 s m #[Value.ref b] below meth c H [] 43 10303 (lw_Z below #[Value.ref b] s) (F0 m pc ls [.int 1]) := by
  intro T hT X
  obtain ⟨fs, hret, hrun, hended, hW, hframe⟩ := X.leave (v := some (.int 1)) (hlocks := hlocks) (fun h => by rw [hr] at h; cases h)
  have hmeth' : T.vm.method? m = some meth := X.method'
  refine ⟨T.setFrames fs, ?_, .returned (some (.int 1)), hrun, hended, rfl, ⟨_, rfl⟩, hW, hframe⟩
  jvm_step X.here [X.here.top, hx, hb, hdg, hmeth', hr, ret, narrow_b1]
  (try refine ⟨rfl, ?_⟩); (try refine ⟨rfl, ?_⟩)
  first | (intro acts; rw [hret _ acts rfl rfl rfl]) | rw [hret _ _ rfl rfl rfl]
  exact Steps.refl _
/-- what holds at the law's entry: the machine, the code, the tables' words (any of lw_tbl by 'hts w (by decide +kernel)'), the script of L ints xs at the cell b, what the Statement gives of the start (any of its parts by flat_of_before) -/
def lw_At (p : Program) (s : State) (m : MethodId) (meth : Method) (c : Code) (b L : Nat) (xs : Nat → Int32) : Prop :=
  p.tables.exec = Jvm.exec ∧ c.code = code ∧ meth.sig.returnType = ret ∧ c.maxLocals = 4 ∧ s.vm.findClass R_law = some m.cls ∧ (∀ w ∈ lw_tbl, w.before #[Value.ref b] s = true) ∧ va_X b L xs s s.heap ∧ b < s.heap.size ∧ meth.locks = false ∧ (Jvm.Cond.and given_1 narrow_1).before #[Value.ref b] s = true
set_option maxRecDepth 100000 in
theorem sw_CM {D : va_G} {A : Nat → Prop} {ad am : Nat → Nat} {cA cM : Nat → ClassId} {s : State} {H0 H : Heap} {locs : List Loc} {σ μ : S2} (h : zz D vwCl (tyC cA (tyM cM [])) A (wC ad cA (wM am cM [] μ)) s H0 H locs σ) : zz D vwCl (tyM cM (tyC cA [])) A (wM am cM (wC ad cA [] σ)) s H0 H locs μ := ⟨h.1.sub [19, 20, 21, 22, 23, 24, 25, 26, 27, 28, 29, 30, 31, 32, 33, 34, 35, 0, 1, 2, 3, 4, 5, 6, 7, 8, 9, 10, 11, 12, 13, 14, 15, 16, 17, 18] rfl, h.2.1.sub [25, 26, 27, 28, 29, 30, 31, 32, 33, 34, 35, 36, 37, 38, 39, 40, 41, 42, 0, 1, 2, 3, 4, 5, 6, 7, 8, 9, 10, 11, 12, 13, 14, 15, 16, 17, 18, 19, 20, 21, 22, 23, 24] rfl, h.2.2.1.sub [25, 26, 27, 28, 29, 30, 31, 32, 33, 34, 35, 36, 37, 38, 39, 40, 41, 42, 0, 1, 2, 3, 4, 5, 6, 7, 8, 9, 10, 11, 12, 13, 14, 15, 16, 17, 18, 19, 20, 21, 22, 23, 24] (by decide) rfl, h.2.2.2⟩
set_option maxRecDepth 100000 in
theorem sw_MC {D : va_G} {A : Nat → Prop} {ad am : Nat → Nat} {cA cM : Nat → ClassId} {s : State} {H0 H : Heap} {locs : List Loc} {σ μ : S2} (h : zz D vwCl (tyM cM (tyC cA [])) A (wM am cM (wC ad cA [] σ)) s H0 H locs μ) : zz D vwCl (tyC cA (tyM cM [])) A (wC ad cA (wM am cM [] μ)) s H0 H locs σ := ⟨h.1.sub [17, 18, 19, 20, 21, 22, 23, 24, 25, 26, 27, 28, 29, 30, 31, 32, 33, 34, 35, 0, 1, 2, 3, 4, 5, 6, 7, 8, 9, 10, 11, 12, 13, 14, 15, 16] rfl, h.2.1.sub [18, 19, 20, 21, 22, 23, 24, 25, 26, 27, 28, 29, 30, 31, 32, 33, 34, 35, 36, 37, 38, 39, 40, 41, 42, 0, 1, 2, 3, 4, 5, 6, 7, 8, 9, 10, 11, 12, 13, 14, 15, 16, 17] rfl, h.2.2.1.sub [18, 19, 20, 21, 22, 23, 24, 25, 26, 27, 28, 29, 30, 31, 32, 33, 34, 35, 36, 37, 38, 39, 40, 41, 42, 0, 1, 2, 3, 4, 5, 6, 7, 8, 9, 10, 11, 12, 13, 14, 15, 16, 17] (by decide) rfl, h.2.2.2⟩
/-- triple: both answer alike, and stay alike -/
def ok_triple (Rel : S2 → S2 → Prop) : Prop := ∀ σ μ : S2, Rel σ μ → ∀ a0 a1 a2 : Int32, ∃ r σ' μ', fn_X0_triple σ a0 a1 a2 = some (r, σ') ∧ fn_X6_triple μ a0 a1 a2 = some (r, μ') ∧ Rel σ' μ'
/-- drop: both answer alike, and stay alike -/
def ok_drop (Rel : S2 → S2 → Prop) : Prop := ∀ σ μ : S2, Rel σ μ → ∀ a0 a1 a2 : Int32, ∃ r σ' μ', fn_X0_drop σ a0 a1 a2 = some (r, σ') ∧ fn_X6_drop μ a0 a1 a2 = some (r, μ') ∧ Rel σ' μ'
/-- shape: both answer alike, and stay alike -/
def ok_shape (Rel : S2 → S2 → Prop) : Prop := ∀ σ μ : S2, Rel σ μ → ∀ a0 : Int32, ∃ r σ' μ', fn_X0_shape σ a0 = some (r, σ') ∧ fn_X6_shape μ a0 = some (r, μ') ∧ Rel σ' μ'
/-- severity: both answer alike, and stay alike -/
def ok_severity (Rel : S2 → S2 → Prop) : Prop := ∀ σ μ : S2, Rel σ μ → ∀ a0 a1 : Int32, ∃ r σ' μ', fn_X0_severity σ a0 a1 = some (r, σ') ∧ fn_X6_severity μ a0 a1 = some (r, μ') ∧ Rel σ' μ'
/-- target: both answer alike, and stay alike -/
def ok_target (Rel : S2 → S2 → Prop) : Prop := ∀ σ μ : S2, Rel σ μ → ∀ a0 a1 a2 : Int32, ∃ r σ' μ', fn_X0_target σ a0 a1 a2 = some (r, σ') ∧ fn_X6_target μ a0 a1 a2 = some (r, μ') ∧ Rel σ' μ'
/-- constraint: both answer alike, and stay alike -/
def ok_constraint (Rel : S2 → S2 → Prop) : Prop := ∀ σ μ : S2, Rel σ μ → ∀ a0 a1 a2 a3 : Int32, ∃ r σ' μ', fn_X0_constraint σ a0 a1 a2 a3 = some (r, σ') ∧ fn_X6_constraint μ a0 a1 a2 a3 = some (r, μ') ∧ Rel σ' μ'
/-- run: both answer alike, and stay alike -/
def ok_run (Rel : S2 → S2 → Prop) : Prop := ∀ σ μ : S2, Rel σ μ → ∃ r σ' μ', fn_X0_run σ = some (r, σ') ∧ fn_X6_run μ = some (r, μ') ∧ Rel σ' μ'
/-- result: both answer alike, and stay alike -/
def ok_result (Rel : S2 → S2 → Prop) : Prop := ∀ σ μ : S2, Rel σ μ → ∀ a0 a1 : Int32, ∃ r σ' μ', fn_X0_result σ a0 a1 = some (r, σ') ∧ fn_X6_result μ a0 a1 = some (r, μ') ∧ Rel σ' μ'
/-- worst: both answer alike, and stay alike -/
def ok_worst (Rel : S2 → S2 → Prop) : Prop := ∀ σ μ : S2, Rel σ μ → ∀ a0 : Int32, ∃ r σ' μ', fn_X0_worst σ a0 = some (r, σ') ∧ fn_X6_worst μ a0 = some (r, μ') ∧ Rel σ' μ'
/-- fits: both answer alike, and stay alike -/
def ok_fits (Rel : S2 → S2 → Prop) : Prop := ∀ σ μ : S2, Rel σ μ → ∀ a0 a1 : Int32, ∃ r σ' μ', fn_X0_fits σ a0 a1 = some (r, σ') ∧ fn_X6_fits μ a0 a1 = some (r, μ') ∧ Rel σ' μ'
/-- focus: both answer alike, and stay alike -/
def ok_focus (Rel : S2 → S2 → Prop) : Prop := ∀ σ μ : S2, Rel σ μ → ∀ a0 a1 : Int32, ∃ r μ', fn_X0_focus σ a0 a1 = some r ∧ fn_X6_focus μ a0 a1 = some (r, μ') ∧ Rel σ μ'
/-- value: both answer alike, and stay alike -/
def ok_value (Rel : S2 → S2 → Prop) : Prop := ∀ σ μ : S2, Rel σ μ → ∀ a0 a1 a2 : Int32, ∃ r, fn_X0_value σ a0 a1 a2 = some r ∧ fn_X6_value μ a0 a1 a2 = some r ∧ Rel σ μ
/-- isOf: both answer alike, and stay alike -/
def ok_isOf (Rel : S2 → S2 → Prop) : Prop := ∀ σ μ : S2, Rel σ μ → ∀ a0 a1 : Int32, ∃ r μ', fn_X0_isOf σ a0 a1 = some r ∧ fn_X6_isOf μ a0 a1 = some (r, μ') ∧ Rel σ μ'
/-- count: both answer alike, and stay alike -/
def ok_count (Rel : S2 → S2 → Prop) : Prop := ∀ σ μ : S2, Rel σ μ → ∀ a0 : Int32, ∃ r, fn_X0_count σ a0 = r ∧ fn_X6_count μ a0 = r ∧ Rel σ μ
def okAll (Rel : S2 → S2 → Prop) : Prop := ok_triple Rel ∧ ok_drop Rel ∧ ok_shape Rel ∧ ok_severity Rel ∧ ok_target Rel ∧ ok_constraint Rel ∧ ok_run Rel ∧ ok_result Rel ∧ ok_worst Rel ∧ ok_fits Rel ∧ ok_focus Rel ∧ ok_value Rel ∧ ok_isOf Rel ∧ ok_count Rel
set_option maxHeartbeats 4000000 in
set_option maxRecDepth 100000 in
theorem law_loop {Rel : S2 → S2 → Prop} (hO : okAll Rel) {p : Program} {l : Launch} {e : Env} {s : State} {m : MethodId} {below : List Frame} {meth : Method} {c : Code} {D : va_G} {b L : Nat} {xs : Nat → Int32} (hL : L ≤ 2560) (C0 : lw_At p s m meth c b L xs) {ad am : Nat → Nat} {cA cM : Nat → ClassId} :
    ∀ (n i : Nat) (x3 : Int32), i ≤ L → L + 1 ≤ i + n → x3 = nI i → ∀ (σ μ : S2), Rel σ μ → ∀ (H : Heap) (locs : List Loc) (ls : Array Slot), zz D vwCl (tyC cA (tyM cM [])) (fun q : Nat => s.heap.size ≤ q) (wC ad cA (wM am cM [] μ)) s s.heap H locs σ → lv_has ls 4 [(0, .ref b), (1, .ref (ad 0)), (2, .ref (am 0)), (3, .int x3)] → W p l e room_1 s m #[Value.ref b] below meth c H locs 43 10303 (lw_Z below #[Value.ref b] s) (F0 m 18 ls []) := by
  obtain ⟨hx, hb, hr, hml, hown, hts, hX, hbl, hlocks, hgv⟩ := C0
  have hbA : ¬ (fun q : Nat => s.heap.size ≤ q) b := Nat.not_le.mpr hbl
  have htt : ∀ w ∈ tb, w.before #[Value.ref b] s = true := fun w h => hts w (List.mem_filter.mp h).1
  have hnw : nwk nl s := nwk_of gN (args := #[Value.ref b]) (fun w h => hts w (List.mem_filter.mp h).1)
  have hown : s.vm.findClass RL = some m.cls := hown
  have hb : c.code = cL_law := hb
  intro n
  induction n with
  | zero =>
    intro i x3 h1 h2
    exact absurd h2 (by omega)
  | succ n ih =>
    intro i x3 hi hin ex3 σ μ hRel H locs ls hZ hl
    refine lv_iload_n hx hb dL_law_18 rfl (lv_at hl 3 rfl) ?_
    refine lv_aload_n hx hb dL_law_19 rfl (lv_at hl 0 rfl) ?_
    refine va_slen hx hb hX hbl hbA hZ.2.2.2 dL_law_20 ?_
    refine lv_iconst (v := 5) hx hb dL_law_21 (by decide) ?_
    refine lv_isub hx hb dL_law_22 ?_
    refine lv_icmp_gt (tgt := 582) hx hb dL_law_23 (by decide) (fun c_1 => ?_) (fun c_1 => ?_)
    · refine lv_iconst (v := 1) hx hb dL_law_582 (by decide) ?_
      refine va_forget (fun q hq => hZ.2.2.2.2.2 q hq) ?_
      exact lw_ret hx hb hr hlocks dL_law_583
    · have h5 : i + 5 ≤ L := by
        rw [ex3, Int32.lt_iff_toInt_lt, show (5 : Int32) = nI 5 from rfl, show Int32.ofNat L = nI L from rfl, pk_sub_toInt (by omega) (by omega), nI_toInt (by omega)] at c_1
        omega
      have h_0 : vp_in x3 L := by rw [ex3]; exact vp_in_nI (by omega) (by omega)
      have h_1 : vp_in (x3 + 1) L := by rw [ex3, show (1 : Int32) = nI 1 from rfl, nI_add]; exact vp_in_nI (by omega) (by omega)
      have h_2 : vp_in (x3 + 2) L := by rw [ex3, show (2 : Int32) = nI 2 from rfl, nI_add]; exact vp_in_nI (by omega) (by omega)
      have h_3 : vp_in (x3 + 3) L := by rw [ex3, show (3 : Int32) = nI 3 from rfl, nI_add]; exact vp_in_nI (by omega) (by omega)
      have h_4 : vp_in (x3 + 4) L := by rw [ex3, show (4 : Int32) = nI 4 from rfl, nI_add]; exact vp_in_nI (by omega) (by omega)
      refine lv_aload_n hx hb dL_law_26 rfl (lv_at hl 0 rfl) ?_
      refine lv_iload_n hx hb dL_law_27 rfl (lv_at hl 3 rfl) ?_
      refine va_sld hx hb hX hbl hbA hZ.2.2.2 h_0 dL_law_28 ?_
      refine lv_bipush (v := 15) hx hb dL_law_29 (by decide) ?_
      refine lv_iand hx hb dL_law_31 ?_
      refine lv_topi (fun y e_y => ?_)
      by_cases cs_0 : y = 0
      · refine lv_tableIn (tgt := 104) hx hb dL_law_32 (by rw [cs_0]; decide) (by rw [cs_0]; decide) (by rw [cs_0]; rfl) (by decide) ?_
        obtain ⟨r, σ', μ', hc1, hc2, hRel2⟩ := hO.1 σ μ hRel (xs (x3 + 1).toNatClampNeg) (xs (x3 + 2).toNatClampNeg) (xs (x3 + 3).toNatClampNeg)
        refine lv_aload_n hx hb dL_law_104 rfl (lv_at hl 1 rfl) ?_
        refine lv_aload_n hx hb dL_law_105 rfl (lv_at hl 0 rfl) ?_
        refine lv_iload_n hx hb dL_law_106 rfl (lv_at hl 3 rfl) ?_
        refine lv_iconst (v := 1) hx hb dL_law_107 (by decide) ?_
        refine lv_iadd hx hb dL_law_108 ?_
        refine va_sld hx hb hX hbl hbA hZ.2.2.2 h_1 dL_law_109 ?_
        refine lv_aload_n hx hb dL_law_110 rfl (lv_at hl 0 rfl) ?_
        refine lv_iload_n hx hb dL_law_111 rfl (lv_at hl 3 rfl) ?_
        refine lv_iconst (v := 2) hx hb dL_law_112 (by decide) ?_
        refine lv_iadd hx hb dL_law_113 ?_
        refine va_sld hx hb hX hbl hbA hZ.2.2.2 h_2 dL_law_114 ?_
        refine lv_aload_n hx hb dL_law_115 rfl (lv_at hl 0 rfl) ?_
        refine lv_iload_n hx hb dL_law_116 rfl (lv_at hl 3 rfl) ?_
        refine lv_iconst (v := 3) hx hb dL_law_117 (by decide) ?_
        refine lv_iadd hx hb dL_law_118 ?_
        refine va_sld hx hb hX hbl hbA hZ.2.2.2 h_3 dL_law_119 ?_
        refine z_calli (r := r) (u := σ') (z_runV (As := [.int (xs (x3 + 1).toNatClampNeg), .int (xs (x3 + 2).toNatClampNeg), .int (xs (x3 + 3).toNatClampNeg)]) (rest := []) ⟨hx, hb, hml, hown, htt⟩ gT (ct_X0_triple l D (fun q : Nat => s.heap.size ≤ q) ad cA (wM am cM [] μ) (tyM cM []) σ (xs (x3 + 1).toNatClampNeg) (xs (x3 + 2).toNatClampNeg) (xs (x3 + 3).toNatClampNeg) hc1) md_X0_triple lm_L_13 rfl rfl ⟨Nat.le_of_ble_eq_true rfl, Nat.le_of_ble_eq_true rfl⟩ (z_preV gN hnw hZ rfl (q0 := 0) (ci := 0) rfl) rfl rfl hl.1 rfl (lv_room (Nat.le_of_ble_eq_true rfl)) dL_law_120 ⟨Nat.le_of_ble_eq_true rfl, Nat.le_of_ble_eq_true rfl⟩) hZ (fun H locs hZ => ?_)
        refine lv_aload_n hx hb dL_law_123 rfl (lv_at hl 2 rfl) ?_
        refine lv_aload_n hx hb dL_law_124 rfl (lv_at hl 0 rfl) ?_
        refine lv_iload_n hx hb dL_law_125 rfl (lv_at hl 3 rfl) ?_
        refine lv_iconst (v := 1) hx hb dL_law_126 (by decide) ?_
        refine lv_iadd hx hb dL_law_127 ?_
        refine va_sld hx hb hX hbl hbA hZ.2.2.2 h_1 dL_law_128 ?_
        refine lv_aload_n hx hb dL_law_129 rfl (lv_at hl 0 rfl) ?_
        refine lv_iload_n hx hb dL_law_130 rfl (lv_at hl 3 rfl) ?_
        refine lv_iconst (v := 2) hx hb dL_law_131 (by decide) ?_
        refine lv_iadd hx hb dL_law_132 ?_
        refine va_sld hx hb hX hbl hbA hZ.2.2.2 h_2 dL_law_133 ?_
        refine lv_aload_n hx hb dL_law_134 rfl (lv_at hl 0 rfl) ?_
        refine lv_iload_n hx hb dL_law_135 rfl (lv_at hl 3 rfl) ?_
        refine lv_iconst (v := 3) hx hb dL_law_136 (by decide) ?_
        refine lv_iadd hx hb dL_law_137 ?_
        refine va_sld hx hb hX hbl hbA hZ.2.2.2 h_3 dL_law_138 ?_
        have hZ := sw_CM hZ
        refine z_calli (r := r) (u := μ') (z_runV (As := [.int (xs (x3 + 1).toNatClampNeg), .int (xs (x3 + 2).toNatClampNeg), .int (xs (x3 + 3).toNatClampNeg)]) (rest := [.int r]) ⟨hx, hb, hml, hown, htt⟩ gT (ct_X6_triple l D (fun q : Nat => s.heap.size ≤ q) am cM (wC ad cA [] σ') (tyC cA []) μ (xs (x3 + 1).toNatClampNeg) (xs (x3 + 2).toNatClampNeg) (xs (x3 + 3).toNatClampNeg) hc2) md_X6_triple lm_L_17 rfl rfl ⟨Nat.le_of_ble_eq_true rfl, Nat.le_of_ble_eq_true rfl⟩ (z_preV gN hnw hZ rfl (q0 := 0) (ci := 6) rfl) rfl rfl hl.1 rfl (lv_room (Nat.le_of_ble_eq_true rfl)) dL_law_139 ⟨Nat.le_of_ble_eq_true rfl, Nat.le_of_ble_eq_true rfl⟩) hZ (fun H locs hZ => ?_)
        have hZ := sw_MC hZ
        refine lv_icmp_eq (tgt := 576) hx hb dL_law_142 (by decide) (fun _ => ?_) (fun cn => absurd rfl cn)
        obtain ⟨x4, e_x4⟩ : ∃ y : Int32, y = x3 + 5 := ⟨_, rfl⟩
        refine lv_iinc (v := x4) (lv' := [(3, .int x4), (0, .ref b), (1, .ref (ad 0)), (2, .ref (am 0))]) hx hb dL_law_576 hl (k := 3) rfl (by rw [e_x4]; rfl) (by decide) rfl (fun ls hl => ?_)
        refine lv_goto (tgt := 18) hx hb dL_law_579 (by decide) ?_
        exact ih (i + 5) x4 (by omega) (by omega) (by rw [e_x4, ex3, show (5 : Int32) = nI 5 from rfl, nI_add]) σ' μ' hRel2 _ _ _ hZ (lv_sub hl [1, 2, 3, 0] rfl)
      by_cases cs_1 : y = 1
      · refine lv_tableIn (tgt := 147) hx hb dL_law_32 (by rw [cs_1]; decide) (by rw [cs_1]; decide) (by rw [cs_1]; rfl) (by decide) ?_
        obtain ⟨r, σ', μ', hc1, hc2, hRel2⟩ := hO.2.1 σ μ hRel (xs (x3 + 1).toNatClampNeg) (xs (x3 + 2).toNatClampNeg) (xs (x3 + 3).toNatClampNeg)
        refine lv_aload_n hx hb dL_law_147 rfl (lv_at hl 1 rfl) ?_
        refine lv_aload_n hx hb dL_law_148 rfl (lv_at hl 0 rfl) ?_
        refine lv_iload_n hx hb dL_law_149 rfl (lv_at hl 3 rfl) ?_
        refine lv_iconst (v := 1) hx hb dL_law_150 (by decide) ?_
        refine lv_iadd hx hb dL_law_151 ?_
        refine va_sld hx hb hX hbl hbA hZ.2.2.2 h_1 dL_law_152 ?_
        refine lv_aload_n hx hb dL_law_153 rfl (lv_at hl 0 rfl) ?_
        refine lv_iload_n hx hb dL_law_154 rfl (lv_at hl 3 rfl) ?_
        refine lv_iconst (v := 2) hx hb dL_law_155 (by decide) ?_
        refine lv_iadd hx hb dL_law_156 ?_
        refine va_sld hx hb hX hbl hbA hZ.2.2.2 h_2 dL_law_157 ?_
        refine lv_aload_n hx hb dL_law_158 rfl (lv_at hl 0 rfl) ?_
        refine lv_iload_n hx hb dL_law_159 rfl (lv_at hl 3 rfl) ?_
        refine lv_iconst (v := 3) hx hb dL_law_160 (by decide) ?_
        refine lv_iadd hx hb dL_law_161 ?_
        refine va_sld hx hb hX hbl hbA hZ.2.2.2 h_3 dL_law_162 ?_
        refine z_calli (r := r) (u := σ') (z_runV (As := [.int (xs (x3 + 1).toNatClampNeg), .int (xs (x3 + 2).toNatClampNeg), .int (xs (x3 + 3).toNatClampNeg)]) (rest := []) ⟨hx, hb, hml, hown, htt⟩ gT (ct_X0_drop l D (fun q : Nat => s.heap.size ≤ q) ad cA (wM am cM [] μ) (tyM cM []) σ (xs (x3 + 1).toNatClampNeg) (xs (x3 + 2).toNatClampNeg) (xs (x3 + 3).toNatClampNeg) hc1) md_X0_drop lm_L_18 rfl rfl ⟨Nat.le_of_ble_eq_true rfl, Nat.le_of_ble_eq_true rfl⟩ (z_preV gN hnw hZ rfl (q0 := 0) (ci := 0) rfl) rfl rfl hl.1 rfl (lv_room (Nat.le_of_ble_eq_true rfl)) dL_law_163 ⟨Nat.le_of_ble_eq_true rfl, Nat.le_of_ble_eq_true rfl⟩) hZ (fun H locs hZ => ?_)
        refine lv_aload_n hx hb dL_law_166 rfl (lv_at hl 2 rfl) ?_
        refine lv_aload_n hx hb dL_law_167 rfl (lv_at hl 0 rfl) ?_
        refine lv_iload_n hx hb dL_law_168 rfl (lv_at hl 3 rfl) ?_
        refine lv_iconst (v := 1) hx hb dL_law_169 (by decide) ?_
        refine lv_iadd hx hb dL_law_170 ?_
        refine va_sld hx hb hX hbl hbA hZ.2.2.2 h_1 dL_law_171 ?_
        refine lv_aload_n hx hb dL_law_172 rfl (lv_at hl 0 rfl) ?_
        refine lv_iload_n hx hb dL_law_173 rfl (lv_at hl 3 rfl) ?_
        refine lv_iconst (v := 2) hx hb dL_law_174 (by decide) ?_
        refine lv_iadd hx hb dL_law_175 ?_
        refine va_sld hx hb hX hbl hbA hZ.2.2.2 h_2 dL_law_176 ?_
        refine lv_aload_n hx hb dL_law_177 rfl (lv_at hl 0 rfl) ?_
        refine lv_iload_n hx hb dL_law_178 rfl (lv_at hl 3 rfl) ?_
        refine lv_iconst (v := 3) hx hb dL_law_179 (by decide) ?_
        refine lv_iadd hx hb dL_law_180 ?_
        refine va_sld hx hb hX hbl hbA hZ.2.2.2 h_3 dL_law_181 ?_
        have hZ := sw_CM hZ
        refine z_calli (r := r) (u := μ') (z_runV (As := [.int (xs (x3 + 1).toNatClampNeg), .int (xs (x3 + 2).toNatClampNeg), .int (xs (x3 + 3).toNatClampNeg)]) (rest := [.int r]) ⟨hx, hb, hml, hown, htt⟩ gT (ct_X6_drop l D (fun q : Nat => s.heap.size ≤ q) am cM (wC ad cA [] σ') (tyC cA []) μ (xs (x3 + 1).toNatClampNeg) (xs (x3 + 2).toNatClampNeg) (xs (x3 + 3).toNatClampNeg) hc2) md_X6_drop lm_L_21 rfl rfl ⟨Nat.le_of_ble_eq_true rfl, Nat.le_of_ble_eq_true rfl⟩ (z_preV gN hnw hZ rfl (q0 := 0) (ci := 6) rfl) rfl rfl hl.1 rfl (lv_room (Nat.le_of_ble_eq_true rfl)) dL_law_182 ⟨Nat.le_of_ble_eq_true rfl, Nat.le_of_ble_eq_true rfl⟩) hZ (fun H locs hZ => ?_)
        have hZ := sw_MC hZ
        refine lv_icmp_eq (tgt := 576) hx hb dL_law_185 (by decide) (fun _ => ?_) (fun cn => absurd rfl cn)
        obtain ⟨x4, e_x4⟩ : ∃ y : Int32, y = x3 + 5 := ⟨_, rfl⟩
        refine lv_iinc (v := x4) (lv' := [(3, .int x4), (0, .ref b), (1, .ref (ad 0)), (2, .ref (am 0))]) hx hb dL_law_576 hl (k := 3) rfl (by rw [e_x4]; rfl) (by decide) rfl (fun ls hl => ?_)
        refine lv_goto (tgt := 18) hx hb dL_law_579 (by decide) ?_
        exact ih (i + 5) x4 (by omega) (by omega) (by rw [e_x4, ex3, show (5 : Int32) = nI 5 from rfl, nI_add]) σ' μ' hRel2 _ _ _ hZ (lv_sub hl [1, 2, 3, 0] rfl)
      by_cases cs_2 : y = 2
      · refine lv_tableIn (tgt := 190) hx hb dL_law_32 (by rw [cs_2]; decide) (by rw [cs_2]; decide) (by rw [cs_2]; rfl) (by decide) ?_
        obtain ⟨r, σ', μ', hc1, hc2, hRel2⟩ := hO.2.2.1 σ μ hRel (xs (x3 + 1).toNatClampNeg)
        refine lv_aload_n hx hb dL_law_190 rfl (lv_at hl 1 rfl) ?_
        refine lv_aload_n hx hb dL_law_191 rfl (lv_at hl 0 rfl) ?_
        refine lv_iload_n hx hb dL_law_192 rfl (lv_at hl 3 rfl) ?_
        refine lv_iconst (v := 1) hx hb dL_law_193 (by decide) ?_
        refine lv_iadd hx hb dL_law_194 ?_
        refine va_sld hx hb hX hbl hbA hZ.2.2.2 h_1 dL_law_195 ?_
        refine z_calli (r := r) (u := σ') (z_runV (As := [.int (xs (x3 + 1).toNatClampNeg)]) (rest := []) ⟨hx, hb, hml, hown, htt⟩ gT (ct_X0_shape l D (fun q : Nat => s.heap.size ≤ q) ad cA (wM am cM [] μ) (tyM cM []) σ (xs (x3 + 1).toNatClampNeg) hc1) md_X0_shape lm_L_22 rfl rfl ⟨Nat.le_of_ble_eq_true rfl, Nat.le_of_ble_eq_true rfl⟩ (z_preV gN hnw hZ rfl (q0 := 0) (ci := 0) rfl) rfl rfl hl.1 rfl (lv_room (Nat.le_of_ble_eq_true rfl)) dL_law_196 ⟨Nat.le_of_ble_eq_true rfl, Nat.le_of_ble_eq_true rfl⟩) hZ (fun H locs hZ => ?_)
        refine lv_aload_n hx hb dL_law_199 rfl (lv_at hl 2 rfl) ?_
        refine lv_aload_n hx hb dL_law_200 rfl (lv_at hl 0 rfl) ?_
        refine lv_iload_n hx hb dL_law_201 rfl (lv_at hl 3 rfl) ?_
        refine lv_iconst (v := 1) hx hb dL_law_202 (by decide) ?_
        refine lv_iadd hx hb dL_law_203 ?_
        refine va_sld hx hb hX hbl hbA hZ.2.2.2 h_1 dL_law_204 ?_
        have hZ := sw_CM hZ
        refine z_calli (r := r) (u := μ') (z_runV (As := [.int (xs (x3 + 1).toNatClampNeg)]) (rest := [.int r]) ⟨hx, hb, hml, hown, htt⟩ gT (ct_X6_shape l D (fun q : Nat => s.heap.size ≤ q) am cM (wC ad cA [] σ') (tyC cA []) μ (xs (x3 + 1).toNatClampNeg) hc2) md_X6_shape lm_L_26 rfl rfl ⟨Nat.le_of_ble_eq_true rfl, Nat.le_of_ble_eq_true rfl⟩ (z_preV gN hnw hZ rfl (q0 := 0) (ci := 6) rfl) rfl rfl hl.1 rfl (lv_room (Nat.le_of_ble_eq_true rfl)) dL_law_205 ⟨Nat.le_of_ble_eq_true rfl, Nat.le_of_ble_eq_true rfl⟩) hZ (fun H locs hZ => ?_)
        have hZ := sw_MC hZ
        refine lv_icmp_eq (tgt := 576) hx hb dL_law_208 (by decide) (fun _ => ?_) (fun cn => absurd rfl cn)
        obtain ⟨x4, e_x4⟩ : ∃ y : Int32, y = x3 + 5 := ⟨_, rfl⟩
        refine lv_iinc (v := x4) (lv' := [(3, .int x4), (0, .ref b), (1, .ref (ad 0)), (2, .ref (am 0))]) hx hb dL_law_576 hl (k := 3) rfl (by rw [e_x4]; rfl) (by decide) rfl (fun ls hl => ?_)
        refine lv_goto (tgt := 18) hx hb dL_law_579 (by decide) ?_
        exact ih (i + 5) x4 (by omega) (by omega) (by rw [e_x4, ex3, show (5 : Int32) = nI 5 from rfl, nI_add]) σ' μ' hRel2 _ _ _ hZ (lv_sub hl [1, 2, 3, 0] rfl)
      by_cases cs_3 : y = 3
      · refine lv_tableIn (tgt := 213) hx hb dL_law_32 (by rw [cs_3]; decide) (by rw [cs_3]; decide) (by rw [cs_3]; rfl) (by decide) ?_
        obtain ⟨r, σ', μ', hc1, hc2, hRel2⟩ := hO.2.2.2.1 σ μ hRel (xs (x3 + 1).toNatClampNeg) (xs (x3 + 2).toNatClampNeg)
        refine lv_aload_n hx hb dL_law_213 rfl (lv_at hl 1 rfl) ?_
        refine lv_aload_n hx hb dL_law_214 rfl (lv_at hl 0 rfl) ?_
        refine lv_iload_n hx hb dL_law_215 rfl (lv_at hl 3 rfl) ?_
        refine lv_iconst (v := 1) hx hb dL_law_216 (by decide) ?_
        refine lv_iadd hx hb dL_law_217 ?_
        refine va_sld hx hb hX hbl hbA hZ.2.2.2 h_1 dL_law_218 ?_
        refine lv_aload_n hx hb dL_law_219 rfl (lv_at hl 0 rfl) ?_
        refine lv_iload_n hx hb dL_law_220 rfl (lv_at hl 3 rfl) ?_
        refine lv_iconst (v := 2) hx hb dL_law_221 (by decide) ?_
        refine lv_iadd hx hb dL_law_222 ?_
        refine va_sld hx hb hX hbl hbA hZ.2.2.2 h_2 dL_law_223 ?_
        refine z_calli (r := r) (u := σ') (z_runV (As := [.int (xs (x3 + 1).toNatClampNeg), .int (xs (x3 + 2).toNatClampNeg)]) (rest := []) ⟨hx, hb, hml, hown, htt⟩ gT (ct_X0_severity l D (fun q : Nat => s.heap.size ≤ q) ad cA (wM am cM [] μ) (tyM cM []) σ (xs (x3 + 1).toNatClampNeg) (xs (x3 + 2).toNatClampNeg) hc1) md_X0_severity lm_L_27 rfl rfl ⟨Nat.le_of_ble_eq_true rfl, Nat.le_of_ble_eq_true rfl⟩ (z_preV gN hnw hZ rfl (q0 := 0) (ci := 0) rfl) rfl rfl hl.1 rfl (lv_room (Nat.le_of_ble_eq_true rfl)) dL_law_224 ⟨Nat.le_of_ble_eq_true rfl, Nat.le_of_ble_eq_true rfl⟩) hZ (fun H locs hZ => ?_)
        refine lv_aload_n hx hb dL_law_227 rfl (lv_at hl 2 rfl) ?_
        refine lv_aload_n hx hb dL_law_228 rfl (lv_at hl 0 rfl) ?_
        refine lv_iload_n hx hb dL_law_229 rfl (lv_at hl 3 rfl) ?_
        refine lv_iconst (v := 1) hx hb dL_law_230 (by decide) ?_
        refine lv_iadd hx hb dL_law_231 ?_
        refine va_sld hx hb hX hbl hbA hZ.2.2.2 h_1 dL_law_232 ?_
        refine lv_aload_n hx hb dL_law_233 rfl (lv_at hl 0 rfl) ?_
        refine lv_iload_n hx hb dL_law_234 rfl (lv_at hl 3 rfl) ?_
        refine lv_iconst (v := 2) hx hb dL_law_235 (by decide) ?_
        refine lv_iadd hx hb dL_law_236 ?_
        refine va_sld hx hb hX hbl hbA hZ.2.2.2 h_2 dL_law_237 ?_
        have hZ := sw_CM hZ
        refine z_calli (r := r) (u := μ') (z_runV (As := [.int (xs (x3 + 1).toNatClampNeg), .int (xs (x3 + 2).toNatClampNeg)]) (rest := [.int r]) ⟨hx, hb, hml, hown, htt⟩ gT (ct_X6_severity l D (fun q : Nat => s.heap.size ≤ q) am cM (wC ad cA [] σ') (tyC cA []) μ (xs (x3 + 1).toNatClampNeg) (xs (x3 + 2).toNatClampNeg) hc2) md_X6_severity lm_L_31 rfl rfl ⟨Nat.le_of_ble_eq_true rfl, Nat.le_of_ble_eq_true rfl⟩ (z_preV gN hnw hZ rfl (q0 := 0) (ci := 6) rfl) rfl rfl hl.1 rfl (lv_room (Nat.le_of_ble_eq_true rfl)) dL_law_238 ⟨Nat.le_of_ble_eq_true rfl, Nat.le_of_ble_eq_true rfl⟩) hZ (fun H locs hZ => ?_)
        have hZ := sw_MC hZ
        refine lv_icmp_eq (tgt := 576) hx hb dL_law_241 (by decide) (fun _ => ?_) (fun cn => absurd rfl cn)
        obtain ⟨x4, e_x4⟩ : ∃ y : Int32, y = x3 + 5 := ⟨_, rfl⟩
        refine lv_iinc (v := x4) (lv' := [(3, .int x4), (0, .ref b), (1, .ref (ad 0)), (2, .ref (am 0))]) hx hb dL_law_576 hl (k := 3) rfl (by rw [e_x4]; rfl) (by decide) rfl (fun ls hl => ?_)
        refine lv_goto (tgt := 18) hx hb dL_law_579 (by decide) ?_
        exact ih (i + 5) x4 (by omega) (by omega) (by rw [e_x4, ex3, show (5 : Int32) = nI 5 from rfl, nI_add]) σ' μ' hRel2 _ _ _ hZ (lv_sub hl [1, 2, 3, 0] rfl)
      by_cases cs_4 : y = 4
      · refine lv_tableIn (tgt := 246) hx hb dL_law_32 (by rw [cs_4]; decide) (by rw [cs_4]; decide) (by rw [cs_4]; rfl) (by decide) ?_
        obtain ⟨r, σ', μ', hc1, hc2, hRel2⟩ := hO.2.2.2.2.1 σ μ hRel (xs (x3 + 1).toNatClampNeg) (xs (x3 + 2).toNatClampNeg) (xs (x3 + 3).toNatClampNeg)
        refine lv_aload_n hx hb dL_law_246 rfl (lv_at hl 1 rfl) ?_
        refine lv_aload_n hx hb dL_law_247 rfl (lv_at hl 0 rfl) ?_
        refine lv_iload_n hx hb dL_law_248 rfl (lv_at hl 3 rfl) ?_
        refine lv_iconst (v := 1) hx hb dL_law_249 (by decide) ?_
        refine lv_iadd hx hb dL_law_250 ?_
        refine va_sld hx hb hX hbl hbA hZ.2.2.2 h_1 dL_law_251 ?_
        refine lv_aload_n hx hb dL_law_252 rfl (lv_at hl 0 rfl) ?_
        refine lv_iload_n hx hb dL_law_253 rfl (lv_at hl 3 rfl) ?_
        refine lv_iconst (v := 2) hx hb dL_law_254 (by decide) ?_
        refine lv_iadd hx hb dL_law_255 ?_
        refine va_sld hx hb hX hbl hbA hZ.2.2.2 h_2 dL_law_256 ?_
        refine lv_aload_n hx hb dL_law_257 rfl (lv_at hl 0 rfl) ?_
        refine lv_iload_n hx hb dL_law_258 rfl (lv_at hl 3 rfl) ?_
        refine lv_iconst (v := 3) hx hb dL_law_259 (by decide) ?_
        refine lv_iadd hx hb dL_law_260 ?_
        refine va_sld hx hb hX hbl hbA hZ.2.2.2 h_3 dL_law_261 ?_
        refine z_calli (r := r) (u := σ') (z_runV (As := [.int (xs (x3 + 1).toNatClampNeg), .int (xs (x3 + 2).toNatClampNeg), .int (xs (x3 + 3).toNatClampNeg)]) (rest := []) ⟨hx, hb, hml, hown, htt⟩ gT (ct_X0_target l D (fun q : Nat => s.heap.size ≤ q) ad cA (wM am cM [] μ) (tyM cM []) σ (xs (x3 + 1).toNatClampNeg) (xs (x3 + 2).toNatClampNeg) (xs (x3 + 3).toNatClampNeg) hc1) md_X0_target lm_L_32 rfl rfl ⟨Nat.le_of_ble_eq_true rfl, Nat.le_of_ble_eq_true rfl⟩ (z_preV gN hnw hZ rfl (q0 := 0) (ci := 0) rfl) rfl rfl hl.1 rfl (lv_room (Nat.le_of_ble_eq_true rfl)) dL_law_262 ⟨Nat.le_of_ble_eq_true rfl, Nat.le_of_ble_eq_true rfl⟩) hZ (fun H locs hZ => ?_)
        refine lv_aload_n hx hb dL_law_265 rfl (lv_at hl 2 rfl) ?_
        refine lv_aload_n hx hb dL_law_266 rfl (lv_at hl 0 rfl) ?_
        refine lv_iload_n hx hb dL_law_267 rfl (lv_at hl 3 rfl) ?_
        refine lv_iconst (v := 1) hx hb dL_law_268 (by decide) ?_
        refine lv_iadd hx hb dL_law_269 ?_
        refine va_sld hx hb hX hbl hbA hZ.2.2.2 h_1 dL_law_270 ?_
        refine lv_aload_n hx hb dL_law_271 rfl (lv_at hl 0 rfl) ?_
        refine lv_iload_n hx hb dL_law_272 rfl (lv_at hl 3 rfl) ?_
        refine lv_iconst (v := 2) hx hb dL_law_273 (by decide) ?_
        refine lv_iadd hx hb dL_law_274 ?_
        refine va_sld hx hb hX hbl hbA hZ.2.2.2 h_2 dL_law_275 ?_
        refine lv_aload_n hx hb dL_law_276 rfl (lv_at hl 0 rfl) ?_
        refine lv_iload_n hx hb dL_law_277 rfl (lv_at hl 3 rfl) ?_
        refine lv_iconst (v := 3) hx hb dL_law_278 (by decide) ?_
        refine lv_iadd hx hb dL_law_279 ?_
        refine va_sld hx hb hX hbl hbA hZ.2.2.2 h_3 dL_law_280 ?_
        have hZ := sw_CM hZ
        refine z_calli (r := r) (u := μ') (z_runV (As := [.int (xs (x3 + 1).toNatClampNeg), .int (xs (x3 + 2).toNatClampNeg), .int (xs (x3 + 3).toNatClampNeg)]) (rest := [.int r]) ⟨hx, hb, hml, hown, htt⟩ gT (ct_X6_target l D (fun q : Nat => s.heap.size ≤ q) am cM (wC ad cA [] σ') (tyC cA []) μ (xs (x3 + 1).toNatClampNeg) (xs (x3 + 2).toNatClampNeg) (xs (x3 + 3).toNatClampNeg) hc2) md_X6_target lm_L_35 rfl rfl ⟨Nat.le_of_ble_eq_true rfl, Nat.le_of_ble_eq_true rfl⟩ (z_preV gN hnw hZ rfl (q0 := 0) (ci := 6) rfl) rfl rfl hl.1 rfl (lv_room (Nat.le_of_ble_eq_true rfl)) dL_law_281 ⟨Nat.le_of_ble_eq_true rfl, Nat.le_of_ble_eq_true rfl⟩) hZ (fun H locs hZ => ?_)
        have hZ := sw_MC hZ
        refine lv_icmp_eq (tgt := 576) hx hb dL_law_284 (by decide) (fun _ => ?_) (fun cn => absurd rfl cn)
        obtain ⟨x4, e_x4⟩ : ∃ y : Int32, y = x3 + 5 := ⟨_, rfl⟩
        refine lv_iinc (v := x4) (lv' := [(3, .int x4), (0, .ref b), (1, .ref (ad 0)), (2, .ref (am 0))]) hx hb dL_law_576 hl (k := 3) rfl (by rw [e_x4]; rfl) (by decide) rfl (fun ls hl => ?_)
        refine lv_goto (tgt := 18) hx hb dL_law_579 (by decide) ?_
        exact ih (i + 5) x4 (by omega) (by omega) (by rw [e_x4, ex3, show (5 : Int32) = nI 5 from rfl, nI_add]) σ' μ' hRel2 _ _ _ hZ (lv_sub hl [1, 2, 3, 0] rfl)
      by_cases cs_5 : y = 5
      · refine lv_tableIn (tgt := 289) hx hb dL_law_32 (by rw [cs_5]; decide) (by rw [cs_5]; decide) (by rw [cs_5]; rfl) (by decide) ?_
        obtain ⟨r, σ', μ', hc1, hc2, hRel2⟩ := hO.2.2.2.2.2.1 σ μ hRel (xs (x3 + 1).toNatClampNeg) (xs (x3 + 2).toNatClampNeg) (xs (x3 + 3).toNatClampNeg) (xs (x3 + 4).toNatClampNeg)
        refine lv_aload_n hx hb dL_law_289 rfl (lv_at hl 1 rfl) ?_
        refine lv_aload_n hx hb dL_law_290 rfl (lv_at hl 0 rfl) ?_
        refine lv_iload_n hx hb dL_law_291 rfl (lv_at hl 3 rfl) ?_
        refine lv_iconst (v := 1) hx hb dL_law_292 (by decide) ?_
        refine lv_iadd hx hb dL_law_293 ?_
        refine va_sld hx hb hX hbl hbA hZ.2.2.2 h_1 dL_law_294 ?_
        refine lv_aload_n hx hb dL_law_295 rfl (lv_at hl 0 rfl) ?_
        refine lv_iload_n hx hb dL_law_296 rfl (lv_at hl 3 rfl) ?_
        refine lv_iconst (v := 2) hx hb dL_law_297 (by decide) ?_
        refine lv_iadd hx hb dL_law_298 ?_
        refine va_sld hx hb hX hbl hbA hZ.2.2.2 h_2 dL_law_299 ?_
        refine lv_aload_n hx hb dL_law_300 rfl (lv_at hl 0 rfl) ?_
        refine lv_iload_n hx hb dL_law_301 rfl (lv_at hl 3 rfl) ?_
        refine lv_iconst (v := 3) hx hb dL_law_302 (by decide) ?_
        refine lv_iadd hx hb dL_law_303 ?_
        refine va_sld hx hb hX hbl hbA hZ.2.2.2 h_3 dL_law_304 ?_
        refine lv_aload_n hx hb dL_law_305 rfl (lv_at hl 0 rfl) ?_
        refine lv_iload_n hx hb dL_law_306 rfl (lv_at hl 3 rfl) ?_
        refine lv_iconst (v := 4) hx hb dL_law_307 (by decide) ?_
        refine lv_iadd hx hb dL_law_308 ?_
        refine va_sld hx hb hX hbl hbA hZ.2.2.2 h_4 dL_law_309 ?_
        refine z_calli (r := r) (u := σ') (z_runV (As := [.int (xs (x3 + 1).toNatClampNeg), .int (xs (x3 + 2).toNatClampNeg), .int (xs (x3 + 3).toNatClampNeg), .int (xs (x3 + 4).toNatClampNeg)]) (rest := []) ⟨hx, hb, hml, hown, htt⟩ gT (ct_X0_constraint l D (fun q : Nat => s.heap.size ≤ q) ad cA (wM am cM [] μ) (tyM cM []) σ (xs (x3 + 1).toNatClampNeg) (xs (x3 + 2).toNatClampNeg) (xs (x3 + 3).toNatClampNeg) (xs (x3 + 4).toNatClampNeg) hc1) md_X0_constraint lm_L_36 rfl rfl ⟨Nat.le_of_ble_eq_true rfl, Nat.le_of_ble_eq_true rfl⟩ (z_preV gN hnw hZ rfl (q0 := 0) (ci := 0) rfl) rfl rfl hl.1 rfl (lv_room (Nat.le_of_ble_eq_true rfl)) dL_law_310 ⟨Nat.le_of_ble_eq_true rfl, Nat.le_of_ble_eq_true rfl⟩) hZ (fun H locs hZ => ?_)
        refine lv_aload_n hx hb dL_law_313 rfl (lv_at hl 2 rfl) ?_
        refine lv_aload_n hx hb dL_law_314 rfl (lv_at hl 0 rfl) ?_
        refine lv_iload_n hx hb dL_law_315 rfl (lv_at hl 3 rfl) ?_
        refine lv_iconst (v := 1) hx hb dL_law_316 (by decide) ?_
        refine lv_iadd hx hb dL_law_317 ?_
        refine va_sld hx hb hX hbl hbA hZ.2.2.2 h_1 dL_law_318 ?_
        refine lv_aload_n hx hb dL_law_319 rfl (lv_at hl 0 rfl) ?_
        refine lv_iload_n hx hb dL_law_320 rfl (lv_at hl 3 rfl) ?_
        refine lv_iconst (v := 2) hx hb dL_law_321 (by decide) ?_
        refine lv_iadd hx hb dL_law_322 ?_
        refine va_sld hx hb hX hbl hbA hZ.2.2.2 h_2 dL_law_323 ?_
        refine lv_aload_n hx hb dL_law_324 rfl (lv_at hl 0 rfl) ?_
        refine lv_iload_n hx hb dL_law_325 rfl (lv_at hl 3 rfl) ?_
        refine lv_iconst (v := 3) hx hb dL_law_326 (by decide) ?_
        refine lv_iadd hx hb dL_law_327 ?_
        refine va_sld hx hb hX hbl hbA hZ.2.2.2 h_3 dL_law_328 ?_
        refine lv_aload_n hx hb dL_law_329 rfl (lv_at hl 0 rfl) ?_
        refine lv_iload_n hx hb dL_law_330 rfl (lv_at hl 3 rfl) ?_
        refine lv_iconst (v := 4) hx hb dL_law_331 (by decide) ?_
        refine lv_iadd hx hb dL_law_332 ?_
        refine va_sld hx hb hX hbl hbA hZ.2.2.2 h_4 dL_law_333 ?_
        have hZ := sw_CM hZ
        refine z_calli (r := r) (u := μ') (z_runV (As := [.int (xs (x3 + 1).toNatClampNeg), .int (xs (x3 + 2).toNatClampNeg), .int (xs (x3 + 3).toNatClampNeg), .int (xs (x3 + 4).toNatClampNeg)]) (rest := [.int r]) ⟨hx, hb, hml, hown, htt⟩ gT (ct_X6_constraint l D (fun q : Nat => s.heap.size ≤ q) am cM (wC ad cA [] σ') (tyC cA []) μ (xs (x3 + 1).toNatClampNeg) (xs (x3 + 2).toNatClampNeg) (xs (x3 + 3).toNatClampNeg) (xs (x3 + 4).toNatClampNeg) hc2) md_X6_constraint lm_L_40 rfl rfl ⟨Nat.le_of_ble_eq_true rfl, Nat.le_of_ble_eq_true rfl⟩ (z_preV gN hnw hZ rfl (q0 := 0) (ci := 6) rfl) rfl rfl hl.1 rfl (lv_room (Nat.le_of_ble_eq_true rfl)) dL_law_334 ⟨Nat.le_of_ble_eq_true rfl, Nat.le_of_ble_eq_true rfl⟩) hZ (fun H locs hZ => ?_)
        have hZ := sw_MC hZ
        refine lv_icmp_eq (tgt := 576) hx hb dL_law_337 (by decide) (fun _ => ?_) (fun cn => absurd rfl cn)
        obtain ⟨x4, e_x4⟩ : ∃ y : Int32, y = x3 + 5 := ⟨_, rfl⟩
        refine lv_iinc (v := x4) (lv' := [(3, .int x4), (0, .ref b), (1, .ref (ad 0)), (2, .ref (am 0))]) hx hb dL_law_576 hl (k := 3) rfl (by rw [e_x4]; rfl) (by decide) rfl (fun ls hl => ?_)
        refine lv_goto (tgt := 18) hx hb dL_law_579 (by decide) ?_
        exact ih (i + 5) x4 (by omega) (by omega) (by rw [e_x4, ex3, show (5 : Int32) = nI 5 from rfl, nI_add]) σ' μ' hRel2 _ _ _ hZ (lv_sub hl [1, 2, 3, 0] rfl)
      by_cases cs_6 : y = 6
      · refine lv_tableIn (tgt := 342) hx hb dL_law_32 (by rw [cs_6]; decide) (by rw [cs_6]; decide) (by rw [cs_6]; rfl) (by decide) ?_
        obtain ⟨r, σ', μ', hc1, hc2, hRel2⟩ := hO.2.2.2.2.2.2.1 σ μ hRel 
        refine lv_aload_n hx hb dL_law_342 rfl (lv_at hl 1 rfl) ?_
        refine z_calli (r := r) (u := σ') (z_runV (As := []) (rest := []) ⟨hx, hb, hml, hown, htt⟩ gT (ct_X0_run l D (fun q : Nat => s.heap.size ≤ q) ad cA (wM am cM [] μ) (tyM cM []) σ  hc1) md_X0_run lm_L_41 rfl rfl ⟨Nat.le_of_ble_eq_true rfl, Nat.le_of_ble_eq_true rfl⟩ (z_preV gN hnw hZ rfl (q0 := 0) (ci := 0) rfl) rfl rfl hl.1 rfl (lv_room (Nat.le_of_ble_eq_true rfl)) dL_law_343 ⟨Nat.le_of_ble_eq_true rfl, Nat.le_of_ble_eq_true rfl⟩) hZ (fun H locs hZ => ?_)
        refine lv_aload_n hx hb dL_law_346 rfl (lv_at hl 2 rfl) ?_
        have hZ := sw_CM hZ
        refine z_calli (r := r) (u := μ') (z_runV (As := []) (rest := [.int r]) ⟨hx, hb, hml, hown, htt⟩ gT (ct_X6_run l D (fun q : Nat => s.heap.size ≤ q) am cM (wC ad cA [] σ') (tyC cA []) μ  hc2) md_X6_run lm_L_45 rfl rfl ⟨Nat.le_of_ble_eq_true rfl, Nat.le_of_ble_eq_true rfl⟩ (z_preV gN hnw hZ rfl (q0 := 0) (ci := 6) rfl) rfl rfl hl.1 rfl (lv_room (Nat.le_of_ble_eq_true rfl)) dL_law_347 ⟨Nat.le_of_ble_eq_true rfl, Nat.le_of_ble_eq_true rfl⟩) hZ (fun H locs hZ => ?_)
        have hZ := sw_MC hZ
        refine lv_icmp_eq (tgt := 576) hx hb dL_law_350 (by decide) (fun _ => ?_) (fun cn => absurd rfl cn)
        obtain ⟨x4, e_x4⟩ : ∃ y : Int32, y = x3 + 5 := ⟨_, rfl⟩
        refine lv_iinc (v := x4) (lv' := [(3, .int x4), (0, .ref b), (1, .ref (ad 0)), (2, .ref (am 0))]) hx hb dL_law_576 hl (k := 3) rfl (by rw [e_x4]; rfl) (by decide) rfl (fun ls hl => ?_)
        refine lv_goto (tgt := 18) hx hb dL_law_579 (by decide) ?_
        exact ih (i + 5) x4 (by omega) (by omega) (by rw [e_x4, ex3, show (5 : Int32) = nI 5 from rfl, nI_add]) σ' μ' hRel2 _ _ _ hZ (lv_sub hl [1, 2, 3, 0] rfl)
      by_cases cs_7 : y = 7
      · refine lv_tableIn (tgt := 355) hx hb dL_law_32 (by rw [cs_7]; decide) (by rw [cs_7]; decide) (by rw [cs_7]; rfl) (by decide) ?_
        obtain ⟨r, σ', μ', hc1, hc2, hRel2⟩ := hO.2.2.2.2.2.2.2.1 σ μ hRel (xs (x3 + 1).toNatClampNeg) (xs (x3 + 2).toNatClampNeg)
        refine lv_aload_n hx hb dL_law_355 rfl (lv_at hl 1 rfl) ?_
        refine lv_aload_n hx hb dL_law_356 rfl (lv_at hl 0 rfl) ?_
        refine lv_iload_n hx hb dL_law_357 rfl (lv_at hl 3 rfl) ?_
        refine lv_iconst (v := 1) hx hb dL_law_358 (by decide) ?_
        refine lv_iadd hx hb dL_law_359 ?_
        refine va_sld hx hb hX hbl hbA hZ.2.2.2 h_1 dL_law_360 ?_
        refine lv_aload_n hx hb dL_law_361 rfl (lv_at hl 0 rfl) ?_
        refine lv_iload_n hx hb dL_law_362 rfl (lv_at hl 3 rfl) ?_
        refine lv_iconst (v := 2) hx hb dL_law_363 (by decide) ?_
        refine lv_iadd hx hb dL_law_364 ?_
        refine va_sld hx hb hX hbl hbA hZ.2.2.2 h_2 dL_law_365 ?_
        refine z_calli (r := r) (u := σ') (z_runV (As := [.int (xs (x3 + 1).toNatClampNeg), .int (xs (x3 + 2).toNatClampNeg)]) (rest := []) ⟨hx, hb, hml, hown, htt⟩ gT (ct_X0_result l D (fun q : Nat => s.heap.size ≤ q) ad cA (wM am cM [] μ) (tyM cM []) σ (xs (x3 + 1).toNatClampNeg) (xs (x3 + 2).toNatClampNeg) hc1) md_X0_result lm_L_46 rfl rfl ⟨Nat.le_of_ble_eq_true rfl, Nat.le_of_ble_eq_true rfl⟩ (z_preV gN hnw hZ rfl (q0 := 0) (ci := 0) rfl) rfl rfl hl.1 rfl (lv_room (Nat.le_of_ble_eq_true rfl)) dL_law_366 ⟨Nat.le_of_ble_eq_true rfl, Nat.le_of_ble_eq_true rfl⟩) hZ (fun H locs hZ => ?_)
        refine lv_aload_n hx hb dL_law_369 rfl (lv_at hl 2 rfl) ?_
        refine lv_aload_n hx hb dL_law_370 rfl (lv_at hl 0 rfl) ?_
        refine lv_iload_n hx hb dL_law_371 rfl (lv_at hl 3 rfl) ?_
        refine lv_iconst (v := 1) hx hb dL_law_372 (by decide) ?_
        refine lv_iadd hx hb dL_law_373 ?_
        refine va_sld hx hb hX hbl hbA hZ.2.2.2 h_1 dL_law_374 ?_
        refine lv_aload_n hx hb dL_law_375 rfl (lv_at hl 0 rfl) ?_
        refine lv_iload_n hx hb dL_law_376 rfl (lv_at hl 3 rfl) ?_
        refine lv_iconst (v := 2) hx hb dL_law_377 (by decide) ?_
        refine lv_iadd hx hb dL_law_378 ?_
        refine va_sld hx hb hX hbl hbA hZ.2.2.2 h_2 dL_law_379 ?_
        have hZ := sw_CM hZ
        refine z_calli (r := r) (u := μ') (z_runV (As := [.int (xs (x3 + 1).toNatClampNeg), .int (xs (x3 + 2).toNatClampNeg)]) (rest := [.int r]) ⟨hx, hb, hml, hown, htt⟩ gT (ct_X6_result l D (fun q : Nat => s.heap.size ≤ q) am cM (wC ad cA [] σ') (tyC cA []) μ (xs (x3 + 1).toNatClampNeg) (xs (x3 + 2).toNatClampNeg) hc2) md_X6_result lm_L_49 rfl rfl ⟨Nat.le_of_ble_eq_true rfl, Nat.le_of_ble_eq_true rfl⟩ (z_preV gN hnw hZ rfl (q0 := 0) (ci := 6) rfl) rfl rfl hl.1 rfl (lv_room (Nat.le_of_ble_eq_true rfl)) dL_law_380 ⟨Nat.le_of_ble_eq_true rfl, Nat.le_of_ble_eq_true rfl⟩) hZ (fun H locs hZ => ?_)
        have hZ := sw_MC hZ
        refine lv_icmp_eq (tgt := 576) hx hb dL_law_383 (by decide) (fun _ => ?_) (fun cn => absurd rfl cn)
        obtain ⟨x4, e_x4⟩ : ∃ y : Int32, y = x3 + 5 := ⟨_, rfl⟩
        refine lv_iinc (v := x4) (lv' := [(3, .int x4), (0, .ref b), (1, .ref (ad 0)), (2, .ref (am 0))]) hx hb dL_law_576 hl (k := 3) rfl (by rw [e_x4]; rfl) (by decide) rfl (fun ls hl => ?_)
        refine lv_goto (tgt := 18) hx hb dL_law_579 (by decide) ?_
        exact ih (i + 5) x4 (by omega) (by omega) (by rw [e_x4, ex3, show (5 : Int32) = nI 5 from rfl, nI_add]) σ' μ' hRel2 _ _ _ hZ (lv_sub hl [1, 2, 3, 0] rfl)
      by_cases cs_8 : y = 8
      · refine lv_tableIn (tgt := 388) hx hb dL_law_32 (by rw [cs_8]; decide) (by rw [cs_8]; decide) (by rw [cs_8]; rfl) (by decide) ?_
        obtain ⟨r, σ', μ', hc1, hc2, hRel2⟩ := hO.2.2.2.2.2.2.2.2.1 σ μ hRel (xs (x3 + 1).toNatClampNeg)
        refine lv_aload_n hx hb dL_law_388 rfl (lv_at hl 1 rfl) ?_
        refine lv_aload_n hx hb dL_law_389 rfl (lv_at hl 0 rfl) ?_
        refine lv_iload_n hx hb dL_law_390 rfl (lv_at hl 3 rfl) ?_
        refine lv_iconst (v := 1) hx hb dL_law_391 (by decide) ?_
        refine lv_iadd hx hb dL_law_392 ?_
        refine va_sld hx hb hX hbl hbA hZ.2.2.2 h_1 dL_law_393 ?_
        refine z_calli (r := r) (u := σ') (z_runV (As := [.int (xs (x3 + 1).toNatClampNeg)]) (rest := []) ⟨hx, hb, hml, hown, htt⟩ gT (ct_X0_worst l D (fun q : Nat => s.heap.size ≤ q) ad cA (wM am cM [] μ) (tyM cM []) σ (xs (x3 + 1).toNatClampNeg) hc1) md_X0_worst lm_L_50 rfl rfl ⟨Nat.le_of_ble_eq_true rfl, Nat.le_of_ble_eq_true rfl⟩ (z_preV gN hnw hZ rfl (q0 := 0) (ci := 0) rfl) rfl rfl hl.1 rfl (lv_room (Nat.le_of_ble_eq_true rfl)) dL_law_394 ⟨Nat.le_of_ble_eq_true rfl, Nat.le_of_ble_eq_true rfl⟩) hZ (fun H locs hZ => ?_)
        refine lv_aload_n hx hb dL_law_397 rfl (lv_at hl 2 rfl) ?_
        refine lv_aload_n hx hb dL_law_398 rfl (lv_at hl 0 rfl) ?_
        refine lv_iload_n hx hb dL_law_399 rfl (lv_at hl 3 rfl) ?_
        refine lv_iconst (v := 1) hx hb dL_law_400 (by decide) ?_
        refine lv_iadd hx hb dL_law_401 ?_
        refine va_sld hx hb hX hbl hbA hZ.2.2.2 h_1 dL_law_402 ?_
        have hZ := sw_CM hZ
        refine z_calli (r := r) (u := μ') (z_runV (As := [.int (xs (x3 + 1).toNatClampNeg)]) (rest := [.int r]) ⟨hx, hb, hml, hown, htt⟩ gT (ct_X6_worst l D (fun q : Nat => s.heap.size ≤ q) am cM (wC ad cA [] σ') (tyC cA []) μ (xs (x3 + 1).toNatClampNeg) hc2) md_X6_worst lm_L_53 rfl rfl ⟨Nat.le_of_ble_eq_true rfl, Nat.le_of_ble_eq_true rfl⟩ (z_preV gN hnw hZ rfl (q0 := 0) (ci := 6) rfl) rfl rfl hl.1 rfl (lv_room (Nat.le_of_ble_eq_true rfl)) dL_law_403 ⟨Nat.le_of_ble_eq_true rfl, Nat.le_of_ble_eq_true rfl⟩) hZ (fun H locs hZ => ?_)
        have hZ := sw_MC hZ
        refine lv_icmp_eq (tgt := 576) hx hb dL_law_406 (by decide) (fun _ => ?_) (fun cn => absurd rfl cn)
        obtain ⟨x4, e_x4⟩ : ∃ y : Int32, y = x3 + 5 := ⟨_, rfl⟩
        refine lv_iinc (v := x4) (lv' := [(3, .int x4), (0, .ref b), (1, .ref (ad 0)), (2, .ref (am 0))]) hx hb dL_law_576 hl (k := 3) rfl (by rw [e_x4]; rfl) (by decide) rfl (fun ls hl => ?_)
        refine lv_goto (tgt := 18) hx hb dL_law_579 (by decide) ?_
        exact ih (i + 5) x4 (by omega) (by omega) (by rw [e_x4, ex3, show (5 : Int32) = nI 5 from rfl, nI_add]) σ' μ' hRel2 _ _ _ hZ (lv_sub hl [1, 2, 3, 0] rfl)
      by_cases cs_9 : y = 9
      · refine lv_tableIn (tgt := 411) hx hb dL_law_32 (by rw [cs_9]; decide) (by rw [cs_9]; decide) (by rw [cs_9]; rfl) (by decide) ?_
        obtain ⟨r, σ', μ', hc1, hc2, hRel2⟩ := hO.2.2.2.2.2.2.2.2.2.1 σ μ hRel (xs (x3 + 1).toNatClampNeg) (xs (x3 + 2).toNatClampNeg)
        refine lv_aload_n hx hb dL_law_411 rfl (lv_at hl 1 rfl) ?_
        refine lv_aload_n hx hb dL_law_412 rfl (lv_at hl 0 rfl) ?_
        refine lv_iload_n hx hb dL_law_413 rfl (lv_at hl 3 rfl) ?_
        refine lv_iconst (v := 1) hx hb dL_law_414 (by decide) ?_
        refine lv_iadd hx hb dL_law_415 ?_
        refine va_sld hx hb hX hbl hbA hZ.2.2.2 h_1 dL_law_416 ?_
        refine lv_aload_n hx hb dL_law_417 rfl (lv_at hl 0 rfl) ?_
        refine lv_iload_n hx hb dL_law_418 rfl (lv_at hl 3 rfl) ?_
        refine lv_iconst (v := 2) hx hb dL_law_419 (by decide) ?_
        refine lv_iadd hx hb dL_law_420 ?_
        refine va_sld hx hb hX hbl hbA hZ.2.2.2 h_2 dL_law_421 ?_
        refine z_calli (r := r) (u := σ') (z_runV (As := [.int (xs (x3 + 1).toNatClampNeg), .int (xs (x3 + 2).toNatClampNeg)]) (rest := []) ⟨hx, hb, hml, hown, htt⟩ gT (ct_X0_fits l D (fun q : Nat => s.heap.size ≤ q) ad cA (wM am cM [] μ) (tyM cM []) σ (xs (x3 + 1).toNatClampNeg) (xs (x3 + 2).toNatClampNeg) hc1) md_X0_fits lm_L_54 rfl rfl ⟨Nat.le_of_ble_eq_true rfl, Nat.le_of_ble_eq_true rfl⟩ (z_preV gN hnw hZ rfl (q0 := 0) (ci := 0) rfl) rfl rfl hl.1 rfl (lv_room (Nat.le_of_ble_eq_true rfl)) dL_law_422 ⟨Nat.le_of_ble_eq_true rfl, Nat.le_of_ble_eq_true rfl⟩) hZ (fun H locs hZ => ?_)
        refine lv_aload_n hx hb dL_law_425 rfl (lv_at hl 2 rfl) ?_
        refine lv_aload_n hx hb dL_law_426 rfl (lv_at hl 0 rfl) ?_
        refine lv_iload_n hx hb dL_law_427 rfl (lv_at hl 3 rfl) ?_
        refine lv_iconst (v := 1) hx hb dL_law_428 (by decide) ?_
        refine lv_iadd hx hb dL_law_429 ?_
        refine va_sld hx hb hX hbl hbA hZ.2.2.2 h_1 dL_law_430 ?_
        refine lv_aload_n hx hb dL_law_431 rfl (lv_at hl 0 rfl) ?_
        refine lv_iload_n hx hb dL_law_432 rfl (lv_at hl 3 rfl) ?_
        refine lv_iconst (v := 2) hx hb dL_law_433 (by decide) ?_
        refine lv_iadd hx hb dL_law_434 ?_
        refine va_sld hx hb hX hbl hbA hZ.2.2.2 h_2 dL_law_435 ?_
        have hZ := sw_CM hZ
        refine z_calli (r := r) (u := μ') (z_runV (As := [.int (xs (x3 + 1).toNatClampNeg), .int (xs (x3 + 2).toNatClampNeg)]) (rest := [.int r]) ⟨hx, hb, hml, hown, htt⟩ gT (ct_X6_fits l D (fun q : Nat => s.heap.size ≤ q) am cM (wC ad cA [] σ') (tyC cA []) μ (xs (x3 + 1).toNatClampNeg) (xs (x3 + 2).toNatClampNeg) hc2) md_X6_fits lm_L_57 rfl rfl ⟨Nat.le_of_ble_eq_true rfl, Nat.le_of_ble_eq_true rfl⟩ (z_preV gN hnw hZ rfl (q0 := 0) (ci := 6) rfl) rfl rfl hl.1 rfl (lv_room (Nat.le_of_ble_eq_true rfl)) dL_law_436 ⟨Nat.le_of_ble_eq_true rfl, Nat.le_of_ble_eq_true rfl⟩) hZ (fun H locs hZ => ?_)
        have hZ := sw_MC hZ
        refine lv_icmp_eq (tgt := 576) hx hb dL_law_439 (by decide) (fun _ => ?_) (fun cn => absurd rfl cn)
        obtain ⟨x4, e_x4⟩ : ∃ y : Int32, y = x3 + 5 := ⟨_, rfl⟩
        refine lv_iinc (v := x4) (lv' := [(3, .int x4), (0, .ref b), (1, .ref (ad 0)), (2, .ref (am 0))]) hx hb dL_law_576 hl (k := 3) rfl (by rw [e_x4]; rfl) (by decide) rfl (fun ls hl => ?_)
        refine lv_goto (tgt := 18) hx hb dL_law_579 (by decide) ?_
        exact ih (i + 5) x4 (by omega) (by omega) (by rw [e_x4, ex3, show (5 : Int32) = nI 5 from rfl, nI_add]) σ' μ' hRel2 _ _ _ hZ (lv_sub hl [1, 2, 3, 0] rfl)
      by_cases cs_10 : y = 10
      · refine lv_tableIn (tgt := 444) hx hb dL_law_32 (by rw [cs_10]; decide) (by rw [cs_10]; decide) (by rw [cs_10]; rfl) (by decide) ?_
        obtain ⟨r, μ', hc1, hc2, hRel2⟩ := hO.2.2.2.2.2.2.2.2.2.2.1 σ μ hRel (xs (x3 + 1).toNatClampNeg) (xs (x3 + 2).toNatClampNeg)
        refine lv_aload_n hx hb dL_law_444 rfl (lv_at hl 1 rfl) ?_
        refine lv_aload_n hx hb dL_law_445 rfl (lv_at hl 0 rfl) ?_
        refine lv_iload_n hx hb dL_law_446 rfl (lv_at hl 3 rfl) ?_
        refine lv_iconst (v := 1) hx hb dL_law_447 (by decide) ?_
        refine lv_iadd hx hb dL_law_448 ?_
        refine va_sld hx hb hX hbl hbA hZ.2.2.2 h_1 dL_law_449 ?_
        refine lv_aload_n hx hb dL_law_450 rfl (lv_at hl 0 rfl) ?_
        refine lv_iload_n hx hb dL_law_451 rfl (lv_at hl 3 rfl) ?_
        refine lv_iconst (v := 2) hx hb dL_law_452 (by decide) ?_
        refine lv_iadd hx hb dL_law_453 ?_
        refine va_sld hx hb hX hbl hbA hZ.2.2.2 h_2 dL_law_454 ?_
        refine z_calli (r := r) (u := σ) (z_runV (As := [.int (xs (x3 + 1).toNatClampNeg), .int (xs (x3 + 2).toNatClampNeg)]) (rest := []) ⟨hx, hb, hml, hown, htt⟩ gT (ct_X0_focus l D (fun q : Nat => s.heap.size ≤ q) ad cA (wM am cM [] μ) (tyM cM []) σ (xs (x3 + 1).toNatClampNeg) (xs (x3 + 2).toNatClampNeg) hc1) md_X0_focus lm_L_58 rfl rfl ⟨Nat.le_of_ble_eq_true rfl, Nat.le_of_ble_eq_true rfl⟩ (z_preV gN hnw hZ rfl (q0 := 0) (ci := 0) rfl) rfl rfl hl.1 rfl (lv_room (Nat.le_of_ble_eq_true rfl)) dL_law_455 ⟨Nat.le_of_ble_eq_true rfl, Nat.le_of_ble_eq_true rfl⟩) hZ (fun H locs hZ => ?_)
        refine lv_aload_n hx hb dL_law_458 rfl (lv_at hl 2 rfl) ?_
        refine lv_aload_n hx hb dL_law_459 rfl (lv_at hl 0 rfl) ?_
        refine lv_iload_n hx hb dL_law_460 rfl (lv_at hl 3 rfl) ?_
        refine lv_iconst (v := 1) hx hb dL_law_461 (by decide) ?_
        refine lv_iadd hx hb dL_law_462 ?_
        refine va_sld hx hb hX hbl hbA hZ.2.2.2 h_1 dL_law_463 ?_
        refine lv_aload_n hx hb dL_law_464 rfl (lv_at hl 0 rfl) ?_
        refine lv_iload_n hx hb dL_law_465 rfl (lv_at hl 3 rfl) ?_
        refine lv_iconst (v := 2) hx hb dL_law_466 (by decide) ?_
        refine lv_iadd hx hb dL_law_467 ?_
        refine va_sld hx hb hX hbl hbA hZ.2.2.2 h_2 dL_law_468 ?_
        have hZ := sw_CM hZ
        refine z_calli (r := r) (u := μ') (z_runV (As := [.int (xs (x3 + 1).toNatClampNeg), .int (xs (x3 + 2).toNatClampNeg)]) (rest := [.int r]) ⟨hx, hb, hml, hown, htt⟩ gT (ct_X6_focus l D (fun q : Nat => s.heap.size ≤ q) am cM (wC ad cA [] σ) (tyC cA []) μ (xs (x3 + 1).toNatClampNeg) (xs (x3 + 2).toNatClampNeg) hc2) md_X6_focus lm_L_61 rfl rfl ⟨Nat.le_of_ble_eq_true rfl, Nat.le_of_ble_eq_true rfl⟩ (z_preV gN hnw hZ rfl (q0 := 0) (ci := 6) rfl) rfl rfl hl.1 rfl (lv_room (Nat.le_of_ble_eq_true rfl)) dL_law_469 ⟨Nat.le_of_ble_eq_true rfl, Nat.le_of_ble_eq_true rfl⟩) hZ (fun H locs hZ => ?_)
        have hZ := sw_MC hZ
        refine lv_icmp_eq (tgt := 576) hx hb dL_law_472 (by decide) (fun _ => ?_) (fun cn => absurd rfl cn)
        obtain ⟨x4, e_x4⟩ : ∃ y : Int32, y = x3 + 5 := ⟨_, rfl⟩
        refine lv_iinc (v := x4) (lv' := [(3, .int x4), (0, .ref b), (1, .ref (ad 0)), (2, .ref (am 0))]) hx hb dL_law_576 hl (k := 3) rfl (by rw [e_x4]; rfl) (by decide) rfl (fun ls hl => ?_)
        refine lv_goto (tgt := 18) hx hb dL_law_579 (by decide) ?_
        exact ih (i + 5) x4 (by omega) (by omega) (by rw [e_x4, ex3, show (5 : Int32) = nI 5 from rfl, nI_add]) σ μ' hRel2 _ _ _ hZ (lv_sub hl [1, 2, 3, 0] rfl)
      by_cases cs_11 : y = 11
      · refine lv_tableIn (tgt := 477) hx hb dL_law_32 (by rw [cs_11]; decide) (by rw [cs_11]; decide) (by rw [cs_11]; rfl) (by decide) ?_
        obtain ⟨r, hc1, hc2, hRel2⟩ := hO.2.2.2.2.2.2.2.2.2.2.2.1 σ μ hRel (xs (x3 + 1).toNatClampNeg) (xs (x3 + 2).toNatClampNeg) (xs (x3 + 3).toNatClampNeg)
        refine lv_aload_n hx hb dL_law_477 rfl (lv_at hl 1 rfl) ?_
        refine lv_aload_n hx hb dL_law_478 rfl (lv_at hl 0 rfl) ?_
        refine lv_iload_n hx hb dL_law_479 rfl (lv_at hl 3 rfl) ?_
        refine lv_iconst (v := 1) hx hb dL_law_480 (by decide) ?_
        refine lv_iadd hx hb dL_law_481 ?_
        refine va_sld hx hb hX hbl hbA hZ.2.2.2 h_1 dL_law_482 ?_
        refine lv_aload_n hx hb dL_law_483 rfl (lv_at hl 0 rfl) ?_
        refine lv_iload_n hx hb dL_law_484 rfl (lv_at hl 3 rfl) ?_
        refine lv_iconst (v := 2) hx hb dL_law_485 (by decide) ?_
        refine lv_iadd hx hb dL_law_486 ?_
        refine va_sld hx hb hX hbl hbA hZ.2.2.2 h_2 dL_law_487 ?_
        refine lv_aload_n hx hb dL_law_488 rfl (lv_at hl 0 rfl) ?_
        refine lv_iload_n hx hb dL_law_489 rfl (lv_at hl 3 rfl) ?_
        refine lv_iconst (v := 3) hx hb dL_law_490 (by decide) ?_
        refine lv_iadd hx hb dL_law_491 ?_
        refine va_sld hx hb hX hbl hbA hZ.2.2.2 h_3 dL_law_492 ?_
        refine z_calli (r := r) (u := σ) (z_runV (As := [.int (xs (x3 + 1).toNatClampNeg), .int (xs (x3 + 2).toNatClampNeg), .int (xs (x3 + 3).toNatClampNeg)]) (rest := []) ⟨hx, hb, hml, hown, htt⟩ gT (ct_X0_value l D (fun q : Nat => s.heap.size ≤ q) ad cA (wM am cM [] μ) (tyM cM []) σ (xs (x3 + 1).toNatClampNeg) (xs (x3 + 2).toNatClampNeg) (xs (x3 + 3).toNatClampNeg) hc1) md_X0_value lm_L_62 rfl rfl ⟨Nat.le_of_ble_eq_true rfl, Nat.le_of_ble_eq_true rfl⟩ (z_preV gN hnw hZ rfl (q0 := 0) (ci := 0) rfl) rfl rfl hl.1 rfl (lv_room (Nat.le_of_ble_eq_true rfl)) dL_law_493 ⟨Nat.le_of_ble_eq_true rfl, Nat.le_of_ble_eq_true rfl⟩) hZ (fun H locs hZ => ?_)
        refine lv_aload_n hx hb dL_law_496 rfl (lv_at hl 2 rfl) ?_
        refine lv_aload_n hx hb dL_law_497 rfl (lv_at hl 0 rfl) ?_
        refine lv_iload_n hx hb dL_law_498 rfl (lv_at hl 3 rfl) ?_
        refine lv_iconst (v := 1) hx hb dL_law_499 (by decide) ?_
        refine lv_iadd hx hb dL_law_500 ?_
        refine va_sld hx hb hX hbl hbA hZ.2.2.2 h_1 dL_law_501 ?_
        refine lv_aload_n hx hb dL_law_502 rfl (lv_at hl 0 rfl) ?_
        refine lv_iload_n hx hb dL_law_503 rfl (lv_at hl 3 rfl) ?_
        refine lv_iconst (v := 2) hx hb dL_law_504 (by decide) ?_
        refine lv_iadd hx hb dL_law_505 ?_
        refine va_sld hx hb hX hbl hbA hZ.2.2.2 h_2 dL_law_506 ?_
        refine lv_aload_n hx hb dL_law_507 rfl (lv_at hl 0 rfl) ?_
        refine lv_iload_n hx hb dL_law_508 rfl (lv_at hl 3 rfl) ?_
        refine lv_iconst (v := 3) hx hb dL_law_509 (by decide) ?_
        refine lv_iadd hx hb dL_law_510 ?_
        refine va_sld hx hb hX hbl hbA hZ.2.2.2 h_3 dL_law_511 ?_
        have hZ := sw_CM hZ
        refine z_calli (r := r) (u := μ) (z_runV (As := [.int (xs (x3 + 1).toNatClampNeg), .int (xs (x3 + 2).toNatClampNeg), .int (xs (x3 + 3).toNatClampNeg)]) (rest := [.int r]) ⟨hx, hb, hml, hown, htt⟩ gT (ct_X6_value l D (fun q : Nat => s.heap.size ≤ q) am cM (wC ad cA [] σ) (tyC cA []) μ (xs (x3 + 1).toNatClampNeg) (xs (x3 + 2).toNatClampNeg) (xs (x3 + 3).toNatClampNeg) hc2) md_X6_value lm_L_65 rfl rfl ⟨Nat.le_of_ble_eq_true rfl, Nat.le_of_ble_eq_true rfl⟩ (z_preV gN hnw hZ rfl (q0 := 0) (ci := 6) rfl) rfl rfl hl.1 rfl (lv_room (Nat.le_of_ble_eq_true rfl)) dL_law_512 ⟨Nat.le_of_ble_eq_true rfl, Nat.le_of_ble_eq_true rfl⟩) hZ (fun H locs hZ => ?_)
        have hZ := sw_MC hZ
        refine lv_icmp_eq (tgt := 576) hx hb dL_law_515 (by decide) (fun _ => ?_) (fun cn => absurd rfl cn)
        obtain ⟨x4, e_x4⟩ : ∃ y : Int32, y = x3 + 5 := ⟨_, rfl⟩
        refine lv_iinc (v := x4) (lv' := [(3, .int x4), (0, .ref b), (1, .ref (ad 0)), (2, .ref (am 0))]) hx hb dL_law_576 hl (k := 3) rfl (by rw [e_x4]; rfl) (by decide) rfl (fun ls hl => ?_)
        refine lv_goto (tgt := 18) hx hb dL_law_579 (by decide) ?_
        exact ih (i + 5) x4 (by omega) (by omega) (by rw [e_x4, ex3, show (5 : Int32) = nI 5 from rfl, nI_add]) σ μ hRel2 _ _ _ hZ (lv_sub hl [1, 2, 3, 0] rfl)
      by_cases cs_12 : y = 12
      · refine lv_tableIn (tgt := 520) hx hb dL_law_32 (by rw [cs_12]; decide) (by rw [cs_12]; decide) (by rw [cs_12]; rfl) (by decide) ?_
        obtain ⟨r, μ', hc1, hc2, hRel2⟩ := hO.2.2.2.2.2.2.2.2.2.2.2.2.1 σ μ hRel (xs (x3 + 1).toNatClampNeg) (xs (x3 + 2).toNatClampNeg)
        refine lv_aload_n hx hb dL_law_520 rfl (lv_at hl 1 rfl) ?_
        refine lv_aload_n hx hb dL_law_521 rfl (lv_at hl 0 rfl) ?_
        refine lv_iload_n hx hb dL_law_522 rfl (lv_at hl 3 rfl) ?_
        refine lv_iconst (v := 1) hx hb dL_law_523 (by decide) ?_
        refine lv_iadd hx hb dL_law_524 ?_
        refine va_sld hx hb hX hbl hbA hZ.2.2.2 h_1 dL_law_525 ?_
        refine lv_aload_n hx hb dL_law_526 rfl (lv_at hl 0 rfl) ?_
        refine lv_iload_n hx hb dL_law_527 rfl (lv_at hl 3 rfl) ?_
        refine lv_iconst (v := 2) hx hb dL_law_528 (by decide) ?_
        refine lv_iadd hx hb dL_law_529 ?_
        refine va_sld hx hb hX hbl hbA hZ.2.2.2 h_2 dL_law_530 ?_
        refine z_calli (r := r) (u := σ) (z_runV (As := [.int (xs (x3 + 1).toNatClampNeg), .int (xs (x3 + 2).toNatClampNeg)]) (rest := []) ⟨hx, hb, hml, hown, htt⟩ gT (ct_X0_isOf l D (fun q : Nat => s.heap.size ≤ q) ad cA (wM am cM [] μ) (tyM cM []) σ (xs (x3 + 1).toNatClampNeg) (xs (x3 + 2).toNatClampNeg) hc1) md_X0_isOf lm_L_66 rfl rfl ⟨Nat.le_of_ble_eq_true rfl, Nat.le_of_ble_eq_true rfl⟩ (z_preV gN hnw hZ rfl (q0 := 0) (ci := 0) rfl) rfl rfl hl.1 rfl (lv_room (Nat.le_of_ble_eq_true rfl)) dL_law_531 ⟨Nat.le_of_ble_eq_true rfl, Nat.le_of_ble_eq_true rfl⟩) hZ (fun H locs hZ => ?_)
        refine lv_aload_n hx hb dL_law_534 rfl (lv_at hl 2 rfl) ?_
        refine lv_aload_n hx hb dL_law_535 rfl (lv_at hl 0 rfl) ?_
        refine lv_iload_n hx hb dL_law_536 rfl (lv_at hl 3 rfl) ?_
        refine lv_iconst (v := 1) hx hb dL_law_537 (by decide) ?_
        refine lv_iadd hx hb dL_law_538 ?_
        refine va_sld hx hb hX hbl hbA hZ.2.2.2 h_1 dL_law_539 ?_
        refine lv_aload_n hx hb dL_law_540 rfl (lv_at hl 0 rfl) ?_
        refine lv_iload_n hx hb dL_law_541 rfl (lv_at hl 3 rfl) ?_
        refine lv_iconst (v := 2) hx hb dL_law_542 (by decide) ?_
        refine lv_iadd hx hb dL_law_543 ?_
        refine va_sld hx hb hX hbl hbA hZ.2.2.2 h_2 dL_law_544 ?_
        have hZ := sw_CM hZ
        refine z_calli (r := r) (u := μ') (z_runV (As := [.int (xs (x3 + 1).toNatClampNeg), .int (xs (x3 + 2).toNatClampNeg)]) (rest := [.int r]) ⟨hx, hb, hml, hown, htt⟩ gT (ct_X6_isOf l D (fun q : Nat => s.heap.size ≤ q) am cM (wC ad cA [] σ) (tyC cA []) μ (xs (x3 + 1).toNatClampNeg) (xs (x3 + 2).toNatClampNeg) hc2) md_X6_isOf lm_L_69 rfl rfl ⟨Nat.le_of_ble_eq_true rfl, Nat.le_of_ble_eq_true rfl⟩ (z_preV gN hnw hZ rfl (q0 := 0) (ci := 6) rfl) rfl rfl hl.1 rfl (lv_room (Nat.le_of_ble_eq_true rfl)) dL_law_545 ⟨Nat.le_of_ble_eq_true rfl, Nat.le_of_ble_eq_true rfl⟩) hZ (fun H locs hZ => ?_)
        have hZ := sw_MC hZ
        refine lv_icmp_eq (tgt := 576) hx hb dL_law_548 (by decide) (fun _ => ?_) (fun cn => absurd rfl cn)
        obtain ⟨x4, e_x4⟩ : ∃ y : Int32, y = x3 + 5 := ⟨_, rfl⟩
        refine lv_iinc (v := x4) (lv' := [(3, .int x4), (0, .ref b), (1, .ref (ad 0)), (2, .ref (am 0))]) hx hb dL_law_576 hl (k := 3) rfl (by rw [e_x4]; rfl) (by decide) rfl (fun ls hl => ?_)
        refine lv_goto (tgt := 18) hx hb dL_law_579 (by decide) ?_
        exact ih (i + 5) x4 (by omega) (by omega) (by rw [e_x4, ex3, show (5 : Int32) = nI 5 from rfl, nI_add]) σ μ' hRel2 _ _ _ hZ (lv_sub hl [1, 2, 3, 0] rfl)
      by_cases cs_13 : y = 13
      · refine lv_tableIn (tgt := 553) hx hb dL_law_32 (by rw [cs_13]; decide) (by rw [cs_13]; decide) (by rw [cs_13]; rfl) (by decide) ?_
        obtain ⟨r, hc1, hc2, hRel2⟩ := hO.2.2.2.2.2.2.2.2.2.2.2.2.2 σ μ hRel (xs (x3 + 1).toNatClampNeg)
        refine lv_aload_n hx hb dL_law_553 rfl (lv_at hl 1 rfl) ?_
        refine lv_aload_n hx hb dL_law_554 rfl (lv_at hl 0 rfl) ?_
        refine lv_iload_n hx hb dL_law_555 rfl (lv_at hl 3 rfl) ?_
        refine lv_iconst (v := 1) hx hb dL_law_556 (by decide) ?_
        refine lv_iadd hx hb dL_law_557 ?_
        refine va_sld hx hb hX hbl hbA hZ.2.2.2 h_1 dL_law_558 ?_
        refine z_calli (r := r) (u := σ) (z_runV (As := [.int (xs (x3 + 1).toNatClampNeg)]) (rest := []) ⟨hx, hb, hml, hown, htt⟩ gT (ct_X0_count l D (fun q : Nat => s.heap.size ≤ q) ad cA (wM am cM [] μ) (tyM cM []) σ (xs (x3 + 1).toNatClampNeg) hc1) md_X0_count lm_L_70 rfl rfl ⟨Nat.le_of_ble_eq_true rfl, Nat.le_of_ble_eq_true rfl⟩ (z_preV gN hnw hZ rfl (q0 := 0) (ci := 0) rfl) rfl rfl hl.1 rfl (lv_room (Nat.le_of_ble_eq_true rfl)) dL_law_559 ⟨Nat.le_of_ble_eq_true rfl, Nat.le_of_ble_eq_true rfl⟩) hZ (fun H locs hZ => ?_)
        refine lv_aload_n hx hb dL_law_562 rfl (lv_at hl 2 rfl) ?_
        refine lv_aload_n hx hb dL_law_563 rfl (lv_at hl 0 rfl) ?_
        refine lv_iload_n hx hb dL_law_564 rfl (lv_at hl 3 rfl) ?_
        refine lv_iconst (v := 1) hx hb dL_law_565 (by decide) ?_
        refine lv_iadd hx hb dL_law_566 ?_
        refine va_sld hx hb hX hbl hbA hZ.2.2.2 h_1 dL_law_567 ?_
        have hZ := sw_CM hZ
        refine z_calli (r := r) (u := μ) (z_runV (As := [.int (xs (x3 + 1).toNatClampNeg)]) (rest := [.int r]) ⟨hx, hb, hml, hown, htt⟩ gT (ct_X6_count l D (fun q : Nat => s.heap.size ≤ q) am cM (wC ad cA [] σ) (tyC cA []) μ (xs (x3 + 1).toNatClampNeg) hc2) md_X6_count lm_L_73 rfl rfl ⟨Nat.le_of_ble_eq_true rfl, Nat.le_of_ble_eq_true rfl⟩ (z_preV gN hnw hZ rfl (q0 := 0) (ci := 6) rfl) rfl rfl hl.1 rfl (lv_room (Nat.le_of_ble_eq_true rfl)) dL_law_568 ⟨Nat.le_of_ble_eq_true rfl, Nat.le_of_ble_eq_true rfl⟩) hZ (fun H locs hZ => ?_)
        have hZ := sw_MC hZ
        refine lv_icmp_eq (tgt := 576) hx hb dL_law_571 (by decide) (fun _ => ?_) (fun cn => absurd rfl cn)
        obtain ⟨x4, e_x4⟩ : ∃ y : Int32, y = x3 + 5 := ⟨_, rfl⟩
        refine lv_iinc (v := x4) (lv' := [(3, .int x4), (0, .ref b), (1, .ref (ad 0)), (2, .ref (am 0))]) hx hb dL_law_576 hl (k := 3) rfl (by rw [e_x4]; rfl) (by decide) rfl (fun ls hl => ?_)
        refine lv_goto (tgt := 18) hx hb dL_law_579 (by decide) ?_
        exact ih (i + 5) x4 (by omega) (by omega) (by rw [e_x4, ex3, show (5 : Int32) = nI 5 from rfl, nI_add]) σ μ hRel2 _ _ _ hZ (lv_sub hl [1, 2, 3, 0] rfl)
      have n_0 := lv_neT cs_0 (show (0 : Int32).toInt = 0 from by decide)
      have n_1 := lv_neT cs_1 (show (1 : Int32).toInt = 1 from by decide)
      have n_2 := lv_neT cs_2 (show (2 : Int32).toInt = 2 from by decide)
      have n_3 := lv_neT cs_3 (show (3 : Int32).toInt = 3 from by decide)
      have n_4 := lv_neT cs_4 (show (4 : Int32).toInt = 4 from by decide)
      have n_5 := lv_neT cs_5 (show (5 : Int32).toInt = 5 from by decide)
      have n_6 := lv_neT cs_6 (show (6 : Int32).toInt = 6 from by decide)
      have n_7 := lv_neT cs_7 (show (7 : Int32).toInt = 7 from by decide)
      have n_8 := lv_neT cs_8 (show (8 : Int32).toInt = 8 from by decide)
      have n_9 := lv_neT cs_9 (show (9 : Int32).toInt = 9 from by decide)
      have n_10 := lv_neT cs_10 (show (10 : Int32).toInt = 10 from by decide)
      have n_11 := lv_neT cs_11 (show (11 : Int32).toInt = 11 from by decide)
      have n_12 := lv_neT cs_12 (show (12 : Int32).toInt = 12 from by decide)
      have n_13 := lv_neT cs_13 (show (13 : Int32).toInt = 13 from by decide)
      refine z_tdef (tgt := 576) hx hb dL_law_32 (by
        rcases (show y.toInt < 0 ∨ 13 < y.toInt by omega) with h | h
        · exact Or.inl h
        · exact Or.inr (Or.inl h)) (by decide) ?_
      obtain ⟨x4, e_x4⟩ : ∃ y : Int32, y = x3 + 5 := ⟨_, rfl⟩
      refine lv_iinc (v := x4) (lv' := [(3, .int x4), (0, .ref b), (1, .ref (ad 0)), (2, .ref (am 0))]) hx hb dL_law_576 hl (k := 3) rfl (by rw [e_x4]; rfl) (by decide) rfl (fun ls hl => ?_)
      refine lv_goto (tgt := 18) hx hb dL_law_579 (by decide) ?_
      exact ih (i + 5) x4 (by omega) (by omega) (by rw [e_x4, ex3, show (5 : Int32) = nI 5 from rfl, nI_add]) σ μ hRel _ _ _ hZ (lv_sub hl [1, 2, 3, 0] rfl)
