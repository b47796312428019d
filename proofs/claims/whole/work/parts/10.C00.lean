abbrev rm_X0_isNode : Room := { frames := 0, cells := 0, slots := 0, locals := 0 }
def fn_X0_isNode (x0 : Int32) : Int32 := if x0 < 0 then 0 else if 20 ≤ x0 then 0 else 1
set_option maxHeartbeats 4000000 in
set_option maxRecDepth 100000 in
theorem ct_X0_isNode (l : Launch) (x0 : Int32) {res : Int32} (hf : fn_X0_isNode x0 = res) : Met l yX0_isNode (.code yX0_isNode cX0_isNode 1 (some .boolean) :: tb) rm_X0_isNode (va_Pc [.int x0] (fun _ => True)) (vp_Si (fun r' => r' = res)) 0 0 (fun _ => False) := by
  refine Met.ofW (cc := cX0_isNode) (maxL := 1) (ret := (some .boolean)) (by decide) rfl ?_
  intro p e s m args below meth c s₁ B hml hv
  obtain ⟨rfl, hB⟩ := hv
  have htt : ∀ w ∈ tb, w.before (([.int x0] : List Value).toArray) s = true := fun w h => atoms_spec (ws := (.code yX0_isNode cX0_isNode 1 (some .boolean) :: tb)) B.pre w (List.mem_cons_of_mem _ h)
  have C0 : cx p m meth c cX0_isNode (some .boolean) 1 s (([.int x0] : List Value).toArray) tb [] RX0 := ⟨B.exec, B.bytes, B.returns, hml, findClass_of_methodNamed B.named, htt, B.notSynchronized, fun _ h => absurd h List.not_mem_nil⟩
  obtain ⟨hx, hb, hr, hml, hown, htt, hlocks, hnw⟩ := id C0
  have hl := lv_entry ([.int x0]) (n := 1) (Nat.le_of_ble_eq_true rfl)
  rw [lg_entry_eq]
  generalize (lg_sl ([.int x0]) ++ List.replicate (1 - (lg_sl ([.int x0])).length) Slot.unset).toArray = ls at hl ⊢
  have hl : lv_has ls 1 [(0, .int x0)] := hl
  unfold fn_X0_isNode at hf
  refine lv_iload_n hx hb dX0_isNode_0 rfl (lv_at hl 0 rfl) ?_
  refine lv_if_lt (tgt := 14) hx hb dX0_isNode_1 (by decide) (fun c_1 => ?_) (fun c_1 => ?_)
  · have hf := ite_t c_1 hf
    refine lv_iconst (v := 0) hx hb dX0_isNode_14 (by decide) ?_
    exact z_pzret hx hb hr hlocks rfl hf dX0_isNode_15
  · have hf := ite_f c_1 hf
    refine lv_iload_n hx hb dX0_isNode_4 rfl (lv_at hl 0 rfl) ?_
    refine lv_bipush (v := 20) hx hb dX0_isNode_5 (by decide) ?_
    refine lv_icmp_ge (tgt := 14) hx hb dX0_isNode_7 (by decide) (fun c_2 => ?_) (fun c_2 => ?_)
    · have hf := ite_t c_2 hf
      refine lv_iconst (v := 0) hx hb dX0_isNode_14 (by decide) ?_
      exact z_pzret hx hb hr hlocks rfl hf dX0_isNode_15
    · have hf := ite_f c_2 hf
      refine lv_iconst (v := 1) hx hb dX0_isNode_10 (by decide) ?_
      refine lv_goto (tgt := 15) hx hb dX0_isNode_11 (by decide) ?_
      exact z_pzret hx hb hr hlocks rfl hf dX0_isNode_15
theorem bo_X0_isNode {x0 : Int32} {r : Int32} (h : r = fn_X0_isNode x0) : narrow .boolean (.int r) = .int r := by
  subst h; unfold fn_X0_isNode; (try simp only [lt]); repeat' split
  all_goals rfl
abbrev rm_X0_isPredicate : Room := { frames := 0, cells := 0, slots := 0, locals := 0 }
def fn_X0_isPredicate (x0 : Int32) : Int32 := if x0 < 0 then 0 else if 8 ≤ x0 then 0 else 1
set_option maxHeartbeats 4000000 in
set_option maxRecDepth 100000 in
theorem ct_X0_isPredicate (l : Launch) (x0 : Int32) {res : Int32} (hf : fn_X0_isPredicate x0 = res) : Met l yX0_isPredicate (.code yX0_isPredicate cX0_isPredicate 1 (some .boolean) :: tb) rm_X0_isPredicate (va_Pc [.int x0] (fun _ => True)) (vp_Si (fun r' => r' = res)) 0 0 (fun _ => False) := by
  refine Met.ofW (cc := cX0_isPredicate) (maxL := 1) (ret := (some .boolean)) (by decide) rfl ?_
  intro p e s m args below meth c s₁ B hml hv
  obtain ⟨rfl, hB⟩ := hv
  have htt : ∀ w ∈ tb, w.before (([.int x0] : List Value).toArray) s = true := fun w h => atoms_spec (ws := (.code yX0_isPredicate cX0_isPredicate 1 (some .boolean) :: tb)) B.pre w (List.mem_cons_of_mem _ h)
  have C0 : cx p m meth c cX0_isPredicate (some .boolean) 1 s (([.int x0] : List Value).toArray) tb [] RX0 := ⟨B.exec, B.bytes, B.returns, hml, findClass_of_methodNamed B.named, htt, B.notSynchronized, fun _ h => absurd h List.not_mem_nil⟩
  obtain ⟨hx, hb, hr, hml, hown, htt, hlocks, hnw⟩ := id C0
  have hl := lv_entry ([.int x0]) (n := 1) (Nat.le_of_ble_eq_true rfl)
  rw [lg_entry_eq]
  generalize (lg_sl ([.int x0]) ++ List.replicate (1 - (lg_sl ([.int x0])).length) Slot.unset).toArray = ls at hl ⊢
  have hl : lv_has ls 1 [(0, .int x0)] := hl
  unfold fn_X0_isPredicate at hf
  refine lv_iload_n hx hb dX0_isPredicate_0 rfl (lv_at hl 0 rfl) ?_
  refine lv_if_lt (tgt := 14) hx hb dX0_isPredicate_1 (by decide) (fun c_1 => ?_) (fun c_1 => ?_)
  · have hf := ite_t c_1 hf
    refine lv_iconst (v := 0) hx hb dX0_isPredicate_14 (by decide) ?_
    exact z_pzret hx hb hr hlocks rfl hf dX0_isPredicate_15
  · have hf := ite_f c_1 hf
    refine lv_iload_n hx hb dX0_isPredicate_4 rfl (lv_at hl 0 rfl) ?_
    refine lv_bipush (v := 8) hx hb dX0_isPredicate_5 (by decide) ?_
    refine lv_icmp_ge (tgt := 14) hx hb dX0_isPredicate_7 (by decide) (fun c_2 => ?_) (fun c_2 => ?_)
    · have hf := ite_t c_2 hf
      refine lv_iconst (v := 0) hx hb dX0_isPredicate_14 (by decide) ?_
      exact z_pzret hx hb hr hlocks rfl hf dX0_isPredicate_15
    · have hf := ite_f c_2 hf
      refine lv_iconst (v := 1) hx hb dX0_isPredicate_10 (by decide) ?_
      refine lv_goto (tgt := 15) hx hb dX0_isPredicate_11 (by decide) ?_
      exact z_pzret hx hb hr hlocks rfl hf dX0_isPredicate_15
theorem bo_X0_isPredicate {x0 : Int32} {r : Int32} (h : r = fn_X0_isPredicate x0) : narrow .boolean (.int r) = .int r := by
  subst h; unfold fn_X0_isPredicate; (try simp only [lt]); repeat' split
  all_goals rfl
abbrev rm_X0_isTerm : Room := { frames := 0, cells := 0, slots := 0, locals := 0 }
def fn_X0_isTerm (x0 : Int32) : Int32 := if x0 < 0 then 0 else if 32 ≤ x0 then 0 else 1
set_option maxHeartbeats 4000000 in
set_option maxRecDepth 100000 in
theorem ct_X0_isTerm (l : Launch) (x0 : Int32) {res : Int32} (hf : fn_X0_isTerm x0 = res) : Met l yX0_isTerm (.code yX0_isTerm cX0_isTerm 1 (some .boolean) :: tb) rm_X0_isTerm (va_Pc [.int x0] (fun _ => True)) (vp_Si (fun r' => r' = res)) 0 0 (fun _ => False) := by
  refine Met.ofW (cc := cX0_isTerm) (maxL := 1) (ret := (some .boolean)) (by decide) rfl ?_
  intro p e s m args below meth c s₁ B hml hv
  obtain ⟨rfl, hB⟩ := hv
  have htt : ∀ w ∈ tb, w.before (([.int x0] : List Value).toArray) s = true := fun w h => atoms_spec (ws := (.code yX0_isTerm cX0_isTerm 1 (some .boolean) :: tb)) B.pre w (List.mem_cons_of_mem _ h)
  have C0 : cx p m meth c cX0_isTerm (some .boolean) 1 s (([.int x0] : List Value).toArray) tb [] RX0 := ⟨B.exec, B.bytes, B.returns, hml, findClass_of_methodNamed B.named, htt, B.notSynchronized, fun _ h => absurd h List.not_mem_nil⟩
  obtain ⟨hx, hb, hr, hml, hown, htt, hlocks, hnw⟩ := id C0
  have hl := lv_entry ([.int x0]) (n := 1) (Nat.le_of_ble_eq_true rfl)
  rw [lg_entry_eq]
  generalize (lg_sl ([.int x0]) ++ List.replicate (1 - (lg_sl ([.int x0])).length) Slot.unset).toArray = ls at hl ⊢
  have hl : lv_has ls 1 [(0, .int x0)] := hl
  unfold fn_X0_isTerm at hf
  refine lv_iload_n hx hb dX0_isTerm_0 rfl (lv_at hl 0 rfl) ?_
  refine lv_if_lt (tgt := 14) hx hb dX0_isTerm_1 (by decide) (fun c_1 => ?_) (fun c_1 => ?_)
  · have hf := ite_t c_1 hf
    refine lv_iconst (v := 0) hx hb dX0_isTerm_14 (by decide) ?_
    exact z_pzret hx hb hr hlocks rfl hf dX0_isTerm_15
  · have hf := ite_f c_1 hf
    refine lv_iload_n hx hb dX0_isTerm_4 rfl (lv_at hl 0 rfl) ?_
    refine lv_bipush (v := 32) hx hb dX0_isTerm_5 (by decide) ?_
    refine lv_icmp_ge (tgt := 14) hx hb dX0_isTerm_7 (by decide) (fun c_2 => ?_) (fun c_2 => ?_)
    · have hf := ite_t c_2 hf
      refine lv_iconst (v := 0) hx hb dX0_isTerm_14 (by decide) ?_
      exact z_pzret hx hb hr hlocks rfl hf dX0_isTerm_15
    · have hf := ite_f c_2 hf
      refine lv_iconst (v := 1) hx hb dX0_isTerm_10 (by decide) ?_
      refine lv_goto (tgt := 15) hx hb dX0_isTerm_11 (by decide) ?_
      exact z_pzret hx hb hr hlocks rfl hf dX0_isTerm_15
theorem bo_X0_isTerm {x0 : Int32} {r : Int32} (h : r = fn_X0_isTerm x0) : narrow .boolean (.int r) = .int r := by
  subst h; unfold fn_X0_isTerm; (try simp only [lt]); repeat' split
  all_goals rfl
abbrev rm_X0_isTriple : Room := { frames := 1, cells := 0, slots := 0, locals := 20 }
def fn_X0_isTriple (x0 : Int32) (x1 : Int32) (x2 : Int32) : Int32 := lt (fn_X0_isNode x0) (fun r1 => if r1 = 0 then 0 else lt (fn_X0_isPredicate x1) (fun r3 => if r3 = 0 then 0 else lt (fn_X0_isTerm x2) (fun r5 => if r5 = 0 then 0 else 1)))
set_option maxHeartbeats 4000000 in
set_option maxRecDepth 100000 in
theorem ct_X0_isTriple (l : Launch) (x0 : Int32) (x1 : Int32) (x2 : Int32) {res : Int32} (hf : fn_X0_isTriple x0 x1 x2 = res) : Met l yX0_isTriple (.code yX0_isTriple cX0_isTriple 3 (some .boolean) :: tb) rm_X0_isTriple (va_Pc [.int x0, .int x1, .int x2] (fun _ => True)) (vp_Si (fun r' => r' = res)) 0 0 (fun _ => False) := by
  refine Met.ofW (cc := cX0_isTriple) (maxL := 3) (ret := (some .boolean)) (by decide) rfl ?_
  intro p e s m args below meth c s₁ B hml hv
  obtain ⟨rfl, hB⟩ := hv
  have htt : ∀ w ∈ tb, w.before (([.int x0, .int x1, .int x2] : List Value).toArray) s = true := fun w h => atoms_spec (ws := (.code yX0_isTriple cX0_isTriple 3 (some .boolean) :: tb)) B.pre w (List.mem_cons_of_mem _ h)
  have C0 : cx p m meth c cX0_isTriple (some .boolean) 3 s (([.int x0, .int x1, .int x2] : List Value).toArray) tb [] RX0 := ⟨B.exec, B.bytes, B.returns, hml, findClass_of_methodNamed B.named, htt, B.notSynchronized, fun _ h => absurd h List.not_mem_nil⟩
  obtain ⟨hx, hb, hr, hml, hown, htt, hlocks, hnw⟩ := id C0
  have hl := lv_entry ([.int x0, .int x1, .int x2]) (n := 3) (Nat.le_of_ble_eq_true rfl)
  rw [lg_entry_eq]
  generalize (lg_sl ([.int x0, .int x1, .int x2]) ++ List.replicate (3 - (lg_sl ([.int x0, .int x1, .int x2])).length) Slot.unset).toArray = ls at hl ⊢
  have hl : lv_has ls 3 [(0, .int x0), (1, .int x1), (2, .int x2)] := hl
  unfold fn_X0_isTriple at hf
  refine lv_iload_n hx hb dX0_isTriple_0 rfl (lv_at hl 0 rfl) ?_
  refine z_pcalli (z_runS (As := [.int x0]) (rest := []) ⟨hx, hb, hml, hown, htt⟩ gT (ct_X0_isNode l x0 rfl) md_X0_isNode lm_X0_152 rfl rfl ⟨Nat.le_of_ble_eq_true rfl, Nat.le_of_ble_eq_true rfl⟩ z_preP rfl rfl hl.1 rfl (lv_room (Nat.le_of_ble_eq_true rfl)) dX0_isTriple_1 ⟨Nat.le_of_ble_eq_true rfl, Nat.le_of_ble_eq_true rfl⟩) ?_
  refine lv_topi (fun r1 e_r1 => ?_)
  have hf := lt_n e_r1 hf
  refine lv_if_eq (tgt := 25) hx hb dX0_isTriple_4 (by decide) (fun c_2 => ?_) (fun c_2 => ?_)
  · have hf := ite_t c_2 hf
    refine lv_iconst (v := 0) hx hb dX0_isTriple_25 (by decide) ?_
    exact z_pzret hx hb hr hlocks rfl hf dX0_isTriple_26
  · have hf := ite_f c_2 hf
    refine lv_iload_n hx hb dX0_isTriple_7 rfl (lv_at hl 1 rfl) ?_
    refine z_pcalli (z_runS (As := [.int x1]) (rest := []) ⟨hx, hb, hml, hown, htt⟩ gT (ct_X0_isPredicate l x1 rfl) md_X0_isPredicate lm_X0_158 rfl rfl ⟨Nat.le_of_ble_eq_true rfl, Nat.le_of_ble_eq_true rfl⟩ z_preP rfl rfl hl.1 rfl (lv_room (Nat.le_of_ble_eq_true rfl)) dX0_isTriple_8 ⟨Nat.le_of_ble_eq_true rfl, Nat.le_of_ble_eq_true rfl⟩) ?_
    refine lv_topi (fun r3 e_r3 => ?_)
    have hf := lt_n e_r3 hf
    refine lv_if_eq (tgt := 25) hx hb dX0_isTriple_11 (by decide) (fun c_4 => ?_) (fun c_4 => ?_)
    · have hf := ite_t c_4 hf
      refine lv_iconst (v := 0) hx hb dX0_isTriple_25 (by decide) ?_
      exact z_pzret hx hb hr hlocks rfl hf dX0_isTriple_26
    · have hf := ite_f c_4 hf
      refine lv_iload_n hx hb dX0_isTriple_14 rfl (lv_at hl 2 rfl) ?_
      refine z_pcalli (z_runS (As := [.int x2]) (rest := []) ⟨hx, hb, hml, hown, htt⟩ gT (ct_X0_isTerm l x2 rfl) md_X0_isTerm lm_X0_129 rfl rfl ⟨Nat.le_of_ble_eq_true rfl, Nat.le_of_ble_eq_true rfl⟩ z_preP rfl rfl hl.1 rfl (lv_room (Nat.le_of_ble_eq_true rfl)) dX0_isTriple_15 ⟨Nat.le_of_ble_eq_true rfl, Nat.le_of_ble_eq_true rfl⟩) ?_
      refine lv_topi (fun r5 e_r5 => ?_)
      have hf := lt_n e_r5 hf
      refine lv_if_eq (tgt := 25) hx hb dX0_isTriple_18 (by decide) (fun c_6 => ?_) (fun c_6 => ?_)
      · have hf := ite_t c_6 hf
        refine lv_iconst (v := 0) hx hb dX0_isTriple_25 (by decide) ?_
        exact z_pzret hx hb hr hlocks rfl hf dX0_isTriple_26
      · have hf := ite_f c_6 hf
        refine lv_iconst (v := 1) hx hb dX0_isTriple_21 (by decide) ?_
        refine lv_goto (tgt := 26) hx hb dX0_isTriple_22 (by decide) ?_
        exact z_pzret hx hb hr hlocks rfl hf dX0_isTriple_26
abbrev rm_X1_termsAhead : Room := { frames := 1, cells := 0, slots := 0, locals := 20 }
def fn_X1_termsAhead (σ : S2) (x1 : Int32) (x2 : Int32) : Option (Int32) := lt (fn_X0_isNode x1) (fun r1 => if r1 = 0 then some 0 else lt (fn_X0_isPredicate x2) (fun r3 => if r3 = 0 then some 0 else ck ((x1 * 8) + x2) 160 (some (σ.1 6 (((x1 * 8) + x2)).toNatClampNeg))))
set_option maxHeartbeats 4000000 in
set_option maxRecDepth 100000 in
theorem ct_X1_termsAhead (l : Launch) (D : va_G) (A : Nat → Prop) (ad : Nat → Nat) (cA : Nat → ClassId) (rs : va_W) (tr : List (ClassId × FieldType)) (σ : S2) (x1 : Int32) (x2 : Int32) {res : Int32} (hf : fn_X1_termsAhead σ x1 x2 = some res) : Met l yX1_termsAhead (.code yX1_termsAhead cX1_termsAhead 3 (some .int) :: tb) rm_X1_termsAhead (va_Pc [.ref (ad 1), .int x1, .int x2] (zN D vwCl (tyC cA tr) A (wC ad cA rs) nl σ)) (va_Qi (fun r' u' => r' = res ∧ u' = σ) (zB D vwCl (tyC cA tr) A (wC ad cA rs)) A) 0 0 A := by
  refine Met.ofW (cc := cX1_termsAhead) (maxL := 3) (ret := (some .int)) (by decide) rfl ?_
  intro p e s m args below meth c s₁ B hml hv
  obtain ⟨rfl, hB, hnw0⟩ := hv
  have htt : ∀ w ∈ tb, w.before (([.ref (ad 1), .int x1, .int x2] : List Value).toArray) s = true := fun w h => atoms_spec (ws := (.code yX1_termsAhead cX1_termsAhead 3 (some .int) :: tb)) B.pre w (List.mem_cons_of_mem _ h)
  have C0 : cx p m meth c cX1_termsAhead (some .int) 3 s (([.ref (ad 1), .int x1, .int x2] : List Value).toArray) tb nl RX1 := ⟨B.exec, B.bytes, B.returns, hml, findClass_of_methodNamed B.named, htt, B.notSynchronized, hnw0⟩
  obtain ⟨hx, hb, hr, hml, hown, htt, hlocks, hnw⟩ := id C0
  have hZ := z_start hB
  have hl := lv_entry ([.ref (ad 1), .int x1, .int x2]) (n := 3) (Nat.le_of_ble_eq_true rfl)
  rw [lg_entry_eq]
  generalize (lg_sl ([.ref (ad 1), .int x1, .int x2]) ++ List.replicate (3 - (lg_sl ([.ref (ad 1), .int x1, .int x2])).length) Slot.unset).toArray = ls at hl ⊢
  have hl : lv_has ls 3 [(0, .ref (ad 1)), (1, .int x1), (2, .int x2)] := hl
  unfold fn_X1_termsAhead at hf
  refine lv_iload_n hx hb dX1_termsAhead_0 rfl (lv_at hl 1 rfl) ?_
  refine z_pcalli (z_runSN (As := [.int x1]) (rest := []) ⟨hx, hb, hml, hown, htt⟩ gT (ct_X0_isNode l x1 rfl) md_X0_isNode hnw lm_X1_34 rfl rfl ⟨Nat.le_of_ble_eq_true rfl, Nat.le_of_ble_eq_true rfl⟩ z_preP rfl rfl hl.1 rfl (lv_room (Nat.le_of_ble_eq_true rfl)) dX1_termsAhead_1 ⟨Nat.le_of_ble_eq_true rfl, Nat.le_of_ble_eq_true rfl⟩) ?_
  refine lv_topi (fun r1 e_r1 => ?_)
  have hf := lt_n e_r1 hf
  refine lv_if_eq (tgt := 28) hx hb dX1_termsAhead_4 (by decide) (fun c_2 => ?_) (fun c_2 => ?_)
  · have hf := ite_t c_2 hf
    refine lv_iconst (v := 0) hx hb dX1_termsAhead_28 (by decide) ?_
    exact z_iret hx hb hr hlocks hZ (Option.some.inj hf) rfl dX1_termsAhead_29
  · have hf := ite_f c_2 hf
    refine lv_iload_n hx hb dX1_termsAhead_7 rfl (lv_at hl 2 rfl) ?_
    refine z_pcalli (z_runSN (As := [.int x2]) (rest := []) ⟨hx, hb, hml, hown, htt⟩ gT (ct_X0_isPredicate l x2 rfl) md_X0_isPredicate hnw lm_X1_38 rfl rfl ⟨Nat.le_of_ble_eq_true rfl, Nat.le_of_ble_eq_true rfl⟩ z_preP rfl rfl hl.1 rfl (lv_room (Nat.le_of_ble_eq_true rfl)) dX1_termsAhead_8 ⟨Nat.le_of_ble_eq_true rfl, Nat.le_of_ble_eq_true rfl⟩) ?_
    refine lv_topi (fun r3 e_r3 => ?_)
    have hf := lt_n e_r3 hf
    refine lv_if_eq (tgt := 28) hx hb dX1_termsAhead_11 (by decide) (fun c_4 => ?_) (fun c_4 => ?_)
    · have hf := ite_t c_4 hf
      refine lv_iconst (v := 0) hx hb dX1_termsAhead_28 (by decide) ?_
      exact z_iret hx hb hr hlocks hZ (Option.some.inj hf) rfl dX1_termsAhead_29
    · have hf := ite_f c_4 hf
      refine lv_aload_n hx hb dX1_termsAhead_14 rfl (lv_at hl 0 rfl) ?_
      refine z_get hx hb htt iw_X1 hown hZ 1 rfl rfl 0 (by decide) lf_X1_9 rfl dX1_termsAhead_15 ?_
      refine lv_iload_n hx hb dX1_termsAhead_18 rfl (lv_at hl 1 rfl) ?_
      refine lv_bipush (v := 8) hx hb dX1_termsAhead_19 (by decide) ?_
      refine lv_imul hx hb dX1_termsAhead_21 ?_
      refine lv_iload_n hx hb dX1_termsAhead_22 rfl (lv_at hl 2 rfl) ?_
      refine lv_iadd hx hb dX1_termsAhead_23 ?_
      obtain ⟨h_5, hf⟩ := ck_s hf
      refine z_ild hx hb hZ 6 0 rfl rfl h_5 dX1_termsAhead_24 ?_
      refine lv_goto (tgt := 29) hx hb dX1_termsAhead_25 (by decide) ?_
      exact z_iret hx hb hr hlocks hZ (Option.some.inj hf) rfl dX1_termsAhead_29
abbrev rm_X0_holdsBit : Room := { frames := 0, cells := 0, slots := 0, locals := 0 }
def fn_X0_holdsBit (x0 : Int32) (x1 : Int32) : Int32 := if ((ush x0 x1) &&& 1) = 0 then 0 else 1
set_option maxHeartbeats 4000000 in
set_option maxRecDepth 100000 in
theorem ct_X0_holdsBit (l : Launch) (x0 : Int32) (x1 : Int32) {res : Int32} (hf : fn_X0_holdsBit x0 x1 = res) : Met l yX0_holdsBit (.code yX0_holdsBit cX0_holdsBit 2 (some .boolean) :: tb) rm_X0_holdsBit (va_Pc [.int x0, .int x1] (fun _ => True)) (vp_Si (fun r' => r' = res)) 0 0 (fun _ => False) := by
  refine Met.ofW (cc := cX0_holdsBit) (maxL := 2) (ret := (some .boolean)) (by decide) rfl ?_
  intro p e s m args below meth c s₁ B hml hv
  obtain ⟨rfl, hB⟩ := hv
  have htt : ∀ w ∈ tb, w.before (([.int x0, .int x1] : List Value).toArray) s = true := fun w h => atoms_spec (ws := (.code yX0_holdsBit cX0_holdsBit 2 (some .boolean) :: tb)) B.pre w (List.mem_cons_of_mem _ h)
  have C0 : cx p m meth c cX0_holdsBit (some .boolean) 2 s (([.int x0, .int x1] : List Value).toArray) tb [] RX0 := ⟨B.exec, B.bytes, B.returns, hml, findClass_of_methodNamed B.named, htt, B.notSynchronized, fun _ h => absurd h List.not_mem_nil⟩
  obtain ⟨hx, hb, hr, hml, hown, htt, hlocks, hnw⟩ := id C0
  have hl := lv_entry ([.int x0, .int x1]) (n := 2) (Nat.le_of_ble_eq_true rfl)
  rw [lg_entry_eq]
  generalize (lg_sl ([.int x0, .int x1]) ++ List.replicate (2 - (lg_sl ([.int x0, .int x1])).length) Slot.unset).toArray = ls at hl ⊢
  have hl : lv_has ls 2 [(0, .int x0), (1, .int x1)] := hl
  unfold fn_X0_holdsBit at hf
  refine lv_iload_n hx hb dX0_holdsBit_0 rfl (lv_at hl 0 rfl) ?_
  refine lv_iload_n hx hb dX0_holdsBit_1 rfl (lv_at hl 1 rfl) ?_
  refine lv_iushr (v := ush x0 x1) hx hb dX0_holdsBit_2 rfl ?_
  refine lv_iconst (v := 1) hx hb dX0_holdsBit_3 (by decide) ?_
  refine lv_iand hx hb dX0_holdsBit_4 ?_
  refine lv_if_eq (tgt := 12) hx hb dX0_holdsBit_5 (by decide) (fun c_1 => ?_) (fun c_1 => ?_)
  · have hf := ite_t c_1 hf
    refine lv_iconst (v := 0) hx hb dX0_holdsBit_12 (by decide) ?_
    exact z_pzret hx hb hr hlocks rfl hf dX0_holdsBit_13
  · have hf := ite_f c_1 hf
    refine lv_iconst (v := 1) hx hb dX0_holdsBit_8 (by decide) ?_
    refine lv_goto (tgt := 13) hx hb dX0_holdsBit_9 (by decide) ?_
    exact z_pzret hx hb hr hlocks rfl hf dX0_holdsBit_13
theorem bo_X0_holdsBit {x0 x1 : Int32} {r : Int32} (h : r = fn_X0_holdsBit x0 x1) : narrow .boolean (.int r) = .int r := by
  subst h; unfold fn_X0_holdsBit; (try simp only [lt]); repeat' split
  all_goals rfl
abbrev rm_X1_has : Room := { frames := 2, cells := 0, slots := 0, locals := 42 }
def fn_X1_has (σ : S2) (x1 : Int32) (x2 : Int32) (x3 : Int32) : Option (Int32) := bn (fn_X1_termsAhead σ x1 x2) (fun r2 => lt (fn_X0_holdsBit r2 x3) (fun r3 => some r3))
set_option maxHeartbeats 4000000 in
set_option maxRecDepth 100000 in
theorem ct_X1_has (l : Launch) (D : va_G) (A : Nat → Prop) (ad : Nat → Nat) (cA : Nat → ClassId) (rs : va_W) (tr : List (ClassId × FieldType)) (σ : S2) (x1 : Int32) (x2 : Int32) (x3 : Int32) {res : Int32} (hf : fn_X1_has σ x1 x2 x3 = some res) : Met l yX1_has (.code yX1_has cX1_has 4 (some .boolean) :: tb) rm_X1_has (va_Pc [.ref (ad 1), .int x1, .int x2, .int x3] (zN D vwCl (tyC cA tr) A (wC ad cA rs) nl σ)) (va_Qi (fun r' u' => r' = res ∧ u' = σ) (zB D vwCl (tyC cA tr) A (wC ad cA rs)) A) 0 0 A := by
  refine Met.ofW (cc := cX1_has) (maxL := 4) (ret := (some .boolean)) (by decide) rfl ?_
  intro p e s m args below meth c s₁ B hml hv
  obtain ⟨rfl, hB, hnw0⟩ := hv
  have htt : ∀ w ∈ tb, w.before (([.ref (ad 1), .int x1, .int x2, .int x3] : List Value).toArray) s = true := fun w h => atoms_spec (ws := (.code yX1_has cX1_has 4 (some .boolean) :: tb)) B.pre w (List.mem_cons_of_mem _ h)
  have C0 : cx p m meth c cX1_has (some .boolean) 4 s (([.ref (ad 1), .int x1, .int x2, .int x3] : List Value).toArray) tb nl RX1 := ⟨B.exec, B.bytes, B.returns, hml, findClass_of_methodNamed B.named, htt, B.notSynchronized, hnw0⟩
  obtain ⟨hx, hb, hr, hml, hown, htt, hlocks, hnw⟩ := id C0
  have hZ := z_start hB
  have hl := lv_entry ([.ref (ad 1), .int x1, .int x2, .int x3]) (n := 4) (Nat.le_of_ble_eq_true rfl)
  rw [lg_entry_eq]
  generalize (lg_sl ([.ref (ad 1), .int x1, .int x2, .int x3]) ++ List.replicate (4 - (lg_sl ([.ref (ad 1), .int x1, .int x2, .int x3])).length) Slot.unset).toArray = ls at hl ⊢
  have hl : lv_has ls 4 [(0, .ref (ad 1)), (1, .int x1), (2, .int x2), (3, .int x3)] := hl
  unfold fn_X1_has at hf
  refine lv_aload_n hx hb dX1_has_0 rfl (lv_at hl 0 rfl) ?_
  refine lv_iload_n hx hb dX1_has_1 rfl (lv_at hl 1 rfl) ?_
  refine lv_iload_n hx hb dX1_has_2 rfl (lv_at hl 2 rfl) ?_
  obtain ⟨r2, k_1, hf⟩ := bn_s hf
  refine z_calli (z_runV (As := [.int x1, .int x2]) (rest := []) ⟨hx, hb, hml, hown, htt⟩ gT (ct_X1_termsAhead l D A ad cA rs tr σ x1 x2 k_1) md_X1_termsAhead lm_X1_18 rfl rfl ⟨Nat.le_of_ble_eq_true rfl, Nat.le_of_ble_eq_true rfl⟩ (z_preV gN hnw hZ rfl (q0 := 1) (ci := 1) rfl) rfl rfl hl.1 rfl (lv_room (Nat.le_of_ble_eq_true rfl)) dX1_has_3 ⟨Nat.le_of_ble_eq_true rfl, Nat.le_of_ble_eq_true rfl⟩) hZ (fun H locs hZ => ?_)
  refine lv_iload_n hx hb dX1_has_6 rfl (lv_at hl 3 rfl) ?_
  refine z_pcalli (z_runSN (As := [.int r2, .int x3]) (rest := []) ⟨hx, hb, hml, hown, htt⟩ gT (ct_X0_holdsBit l r2 x3 rfl) md_X0_holdsBit hnw lm_X1_22 rfl rfl ⟨Nat.le_of_ble_eq_true rfl, Nat.le_of_ble_eq_true rfl⟩ z_preP rfl rfl hl.1 rfl (lv_room (Nat.le_of_ble_eq_true rfl)) dX1_has_7 ⟨Nat.le_of_ble_eq_true rfl, Nat.le_of_ble_eq_true rfl⟩) ?_
  refine lv_topi (fun r3 e_r3 => ?_)
  have hf := lt_n e_r3 hf
  exact z_zret hx hb hr hlocks hZ (bo_X0_holdsBit e_r3) (Option.some.inj hf) rfl dX1_has_10
abbrev rm_X1_put : Room := { frames := 2, cells := 0, slots := 0, locals := 42 }
def fn_X1_put (σ : S2) (x1 : Int32) (x2 : Int32) (x3 : Int32) : Option (S2) := lt (fn_X0_isTriple x1 x2 x3) (fun r1 => if r1 = 0 then some σ else ck ((x1 * 8) + x2) 160 (ck ((x1 * 8) + x2) 160 (lt (st σ 6 (((x1 * 8) + x2)).toNatClampNeg ((σ.1 6 (((x1 * 8) + x2)).toNatClampNeg) ||| (1 <<< (x3 &&& 31)))) (fun σ5 => ck ((x3 * 8) + x2) 256 (ck ((x3 * 8) + x2) 256 (lt (st σ5 7 (((x3 * 8) + x2)).toNatClampNeg ((σ5.1 7 (((x3 * 8) + x2)).toNatClampNeg) ||| (1 <<< (x1 &&& 31)))) (fun σ8 => lt (st σ8 1 0 ((σ8.1 1 0) + 1)) (fun σ9 => some σ9))))))))
set_option maxHeartbeats 4000000 in
set_option maxRecDepth 100000 in
theorem ct_X1_put (l : Launch) (D : va_G) (A : Nat → Prop) (ad : Nat → Nat) (cA : Nat → ClassId) (rs : va_W) (tr : List (ClassId × FieldType)) (σ : S2) (x1 : Int32) (x2 : Int32) (x3 : Int32) {res : S2} (hf : fn_X1_put σ x1 x2 x3 = some res) : Met l yX1_put (.code yX1_put cX1_put 4 none :: tb) rm_X1_put (va_Pc [.ref (ad 1), .int x1, .int x2, .int x3] (zN D vwCl (tyC cA tr) A (wC ad cA rs) nl σ)) (va_Qv (fun u' => u' = res) (zB D vwCl (tyC cA tr) A (wC ad cA rs)) A) 0 0 A := by
  refine Met.ofW (cc := cX1_put) (maxL := 4) (ret := none) (by decide) rfl ?_
  intro p e s m args below meth c s₁ B hml hv
  obtain ⟨rfl, hB, hnw0⟩ := hv
  have htt : ∀ w ∈ tb, w.before (([.ref (ad 1), .int x1, .int x2, .int x3] : List Value).toArray) s = true := fun w h => atoms_spec (ws := (.code yX1_put cX1_put 4 none :: tb)) B.pre w (List.mem_cons_of_mem _ h)
  have C0 : cx p m meth c cX1_put none 4 s (([.ref (ad 1), .int x1, .int x2, .int x3] : List Value).toArray) tb nl RX1 := ⟨B.exec, B.bytes, B.returns, hml, findClass_of_methodNamed B.named, htt, B.notSynchronized, hnw0⟩
  obtain ⟨hx, hb, hr, hml, hown, htt, hlocks, hnw⟩ := id C0
  have hZ := z_start hB
  have hl := lv_entry ([.ref (ad 1), .int x1, .int x2, .int x3]) (n := 4) (Nat.le_of_ble_eq_true rfl)
  rw [lg_entry_eq]
  generalize (lg_sl ([.ref (ad 1), .int x1, .int x2, .int x3]) ++ List.replicate (4 - (lg_sl ([.ref (ad 1), .int x1, .int x2, .int x3])).length) Slot.unset).toArray = ls at hl ⊢
  have hl : lv_has ls 4 [(0, .ref (ad 1)), (1, .int x1), (2, .int x2), (3, .int x3)] := hl
  unfold fn_X1_put at hf
  refine lv_iload_n hx hb dX1_put_0 rfl (lv_at hl 1 rfl) ?_
  refine lv_iload_n hx hb dX1_put_1 rfl (lv_at hl 2 rfl) ?_
  refine lv_iload_n hx hb dX1_put_2 rfl (lv_at hl 3 rfl) ?_
  refine z_pcalli (z_runSN (As := [.int x1, .int x2, .int x3]) (rest := []) ⟨hx, hb, hml, hown, htt⟩ gT (ct_X0_isTriple l x1 x2 x3 rfl) md_X0_isTriple hnw lm_X1_26 rfl rfl ⟨Nat.le_of_ble_eq_true rfl, Nat.le_of_ble_eq_true rfl⟩ z_preP rfl rfl hl.1 rfl (lv_room (Nat.le_of_ble_eq_true rfl)) dX1_put_3 ⟨Nat.le_of_ble_eq_true rfl, Nat.le_of_ble_eq_true rfl⟩) ?_
  refine lv_topi (fun r1 e_r1 => ?_)
  have hf := lt_n e_r1 hf
  refine lv_if_eq (tgt := 53) hx hb dX1_put_6 (by decide) (fun c_2 => ?_) (fun c_2 => ?_)
  · have hf := ite_t c_2 hf
    exact z_vret hx hb hr hlocks hZ (Option.some.inj hf) dX1_put_53
  · have hf := ite_f c_2 hf
    refine lv_aload_n hx hb dX1_put_9 rfl (lv_at hl 0 rfl) ?_
    refine z_get hx hb htt iw_X1 hown hZ 1 rfl rfl 0 (by decide) lf_X1_9 rfl dX1_put_10 ?_
    refine lv_iload_n hx hb dX1_put_13 rfl (lv_at hl 1 rfl) ?_
    refine lv_bipush (v := 8) hx hb dX1_put_14 (by decide) ?_
    refine lv_imul hx hb dX1_put_16 ?_
    refine lv_iload_n hx hb dX1_put_17 rfl (lv_at hl 2 rfl) ?_
    refine lv_iadd hx hb dX1_put_18 ?_
    refine lv_dup2_11 hx hb dX1_put_19 rfl rfl ?_
    obtain ⟨h_3, hf⟩ := ck_s hf
    refine z_ild hx hb hZ 6 0 rfl rfl h_3 dX1_put_20 ?_
    refine lv_iconst (v := 1) hx hb dX1_put_21 (by decide) ?_
    refine lv_iload_n hx hb dX1_put_22 rfl (lv_at hl 3 rfl) ?_
    refine lv_ishl hx hb dX1_put_23 ?_
    refine lv_ior hx hb dX1_put_24 ?_
    obtain ⟨h_4, hf⟩ := ck_s hf
    refine z_ist (σ' := st σ 6 (((x1 * 8) + x2)).toNatClampNeg ((σ.1 6 (((x1 * 8) + x2)).toNatClampNeg) ||| (1 <<< (x3 &&& 31)))) hx hb hZ 6 0 rfl rfl h_4 dX1_put_25 rfl (fun σ5 H locs e_σ5 hZ => ?_)
    have hf := lt_n e_σ5 hf
    refine lv_aload_n hx hb dX1_put_26 rfl (lv_at hl 0 rfl) ?_
    refine z_get hx hb htt iw_X1 hown hZ 1 rfl rfl 1 (by decide) lf_X1_15 rfl dX1_put_27 ?_
    refine lv_iload_n hx hb dX1_put_30 rfl (lv_at hl 3 rfl) ?_
    refine lv_bipush (v := 8) hx hb dX1_put_31 (by decide) ?_
    refine lv_imul hx hb dX1_put_33 ?_
    refine lv_iload_n hx hb dX1_put_34 rfl (lv_at hl 2 rfl) ?_
    refine lv_iadd hx hb dX1_put_35 ?_
    refine lv_dup2_11 hx hb dX1_put_36 rfl rfl ?_
    obtain ⟨h_6, hf⟩ := ck_s hf
    refine z_ild hx hb hZ 7 1 rfl rfl h_6 dX1_put_37 ?_
    refine lv_iconst (v := 1) hx hb dX1_put_38 (by decide) ?_
    refine lv_iload_n hx hb dX1_put_39 rfl (lv_at hl 1 rfl) ?_
    refine lv_ishl hx hb dX1_put_40 ?_
    refine lv_ior hx hb dX1_put_41 ?_
    obtain ⟨h_7, hf⟩ := ck_s hf
    refine z_ist (σ' := st σ5 7 (((x3 * 8) + x2)).toNatClampNeg ((σ5.1 7 (((x3 * 8) + x2)).toNatClampNeg) ||| (1 <<< (x1 &&& 31)))) hx hb hZ 7 1 rfl rfl h_7 dX1_put_42 rfl (fun σ8 H locs e_σ8 hZ => ?_)
    have hf := lt_n e_σ8 hf
    refine lv_aload_n hx hb dX1_put_43 rfl (lv_at hl 0 rfl) ?_
    refine lv_dup hx hb dX1_put_44 rfl ?_
    refine z_get hx hb htt iw_X1 hown hZ 1 rfl rfl 2 (by decide) lf_X1_30 rfl dX1_put_45 ?_
    refine lv_iconst (v := 1) hx hb dX1_put_48 (by decide) ?_
    refine lv_iadd hx hb dX1_put_49 ?_
    refine z_put (σ' := st σ8 1 0 ((σ8.1 1 0) + 1)) hx hb htt iw_X1 tyX1 to_X1 nm_X1 hown hZ 1 rfl rfl 2 (by decide) lf_X1_30 rfl rfl rfl (Nat.le_of_ble_eq_true rfl) dX1_put_50 rfl (fun σ9 H locs e_σ9 hZ => ?_)
    have hf := lt_n e_σ9 hf
    exact z_vret hx hb hr hlocks hZ (Option.some.inj hf) dX1_put_53
abbrev rm_X0_triple : Room := { frames := 3, cells := 0, slots := 0, locals := 65 }
def fn_X0_triple (σ : S2) (x1 : Int32) (x2 : Int32) (x3 : Int32) : Option (Int32 × S2) := lt (fn_X0_isTriple x1 x2 x3) (fun r1 => if r1 = 0 then some ((-1), σ) else bn (fn_X1_has σ x1 x2 x3) (fun r4 => if r4 = 0 then if (σ.1 1 0) < 100 then bn (fn_X1_put σ x1 x2 x3) (fun σ8 => lt (st σ8 0 0 0) (fun σ9 => some (1, σ9))) else some ((-3), σ) else some (0, σ)))
set_option maxHeartbeats 4000000 in
set_option maxRecDepth 100000 in
theorem ct_X0_triple (l : Launch) (D : va_G) (A : Nat → Prop) (ad : Nat → Nat) (cA : Nat → ClassId) (rs : va_W) (tr : List (ClassId × FieldType)) (σ : S2) (x1 : Int32) (x2 : Int32) (x3 : Int32) {res : Int32 × S2} (hf : fn_X0_triple σ x1 x2 x3 = some res) : Met l yX0_triple (.code yX0_triple cX0_triple 4 (some .int) :: tb) rm_X0_triple (va_Pc [.ref (ad 0), .int x1, .int x2, .int x3] (zN D vwCl (tyC cA tr) A (wC ad cA rs) nl σ)) (va_Qi (fun r' u' => r' = res.1 ∧ u' = res.2) (zB D vwCl (tyC cA tr) A (wC ad cA rs)) A) 0 0 A := by
  refine Met.ofW (cc := cX0_triple) (maxL := 4) (ret := (some .int)) (by decide) rfl ?_
  intro p e s m args below meth c s₁ B hml hv
  obtain ⟨rfl, hB, hnw0⟩ := hv
  have htt : ∀ w ∈ tb, w.before (([.ref (ad 0), .int x1, .int x2, .int x3] : List Value).toArray) s = true := fun w h => atoms_spec (ws := (.code yX0_triple cX0_triple 4 (some .int) :: tb)) B.pre w (List.mem_cons_of_mem _ h)
  have C0 : cx p m meth c cX0_triple (some .int) 4 s (([.ref (ad 0), .int x1, .int x2, .int x3] : List Value).toArray) tb nl RX0 := ⟨B.exec, B.bytes, B.returns, hml, findClass_of_methodNamed B.named, htt, B.notSynchronized, hnw0⟩
  obtain ⟨hx, hb, hr, hml, hown, htt, hlocks, hnw⟩ := id C0
  have hZ := z_start hB
  have hl := lv_entry ([.ref (ad 0), .int x1, .int x2, .int x3]) (n := 4) (Nat.le_of_ble_eq_true rfl)
  rw [lg_entry_eq]
  generalize (lg_sl ([.ref (ad 0), .int x1, .int x2, .int x3]) ++ List.replicate (4 - (lg_sl ([.ref (ad 0), .int x1, .int x2, .int x3])).length) Slot.unset).toArray = ls at hl ⊢
  have hl : lv_has ls 4 [(0, .ref (ad 0)), (1, .int x1), (2, .int x2), (3, .int x3)] := hl
  unfold fn_X0_triple at hf
  refine lv_iload_n hx hb dX0_triple_0 rfl (lv_at hl 1 rfl) ?_
  refine lv_iload_n hx hb dX0_triple_1 rfl (lv_at hl 2 rfl) ?_
  refine lv_iload_n hx hb dX0_triple_2 rfl (lv_at hl 3 rfl) ?_
  refine z_pcalli (z_runS (As := [.int x1, .int x2, .int x3]) (rest := []) ⟨hx, hb, hml, hown, htt⟩ gT (ct_X0_isTriple l x1 x2 x3 rfl) md_X0_isTriple lm_X0_46 rfl rfl ⟨Nat.le_of_ble_eq_true rfl, Nat.le_of_ble_eq_true rfl⟩ z_preP rfl rfl hl.1 rfl (lv_room (Nat.le_of_ble_eq_true rfl)) dX0_triple_3 ⟨Nat.le_of_ble_eq_true rfl, Nat.le_of_ble_eq_true rfl⟩) ?_
  refine lv_topi (fun r1 e_r1 => ?_)
  have hf := lt_n e_r1 hf
  refine lv_if_ne (tgt := 11) hx hb dX0_triple_6 (by decide) (fun c_2 => ?_) (fun c_2 => ?_)
  · have hf := ite_f c_2 hf
    refine lv_aload_n hx hb dX0_triple_11 rfl (lv_at hl 0 rfl) ?_
    refine z_get hx hb htt iw_X0 hown hZ 0 rfl rfl 0 (by decide) lf_X0_10 rfl dX0_triple_12 ?_
    refine lv_iload_n hx hb dX0_triple_15 rfl (lv_at hl 1 rfl) ?_
    refine lv_iload_n hx hb dX0_triple_16 rfl (lv_at hl 2 rfl) ?_
    refine lv_iload_n hx hb dX0_triple_17 rfl (lv_at hl 3 rfl) ?_
    obtain ⟨r4, k_3, hf⟩ := bn_s hf
    refine z_calli (z_runVN (As := [.int x1, .int x2, .int x3]) (rest := []) ⟨hx, hb, hml, hown, htt⟩ gT (ct_X1_has l D A ad cA rs tr σ x1 x2 x3 k_3) md_X1_has hnw lm_X0_50 rfl rfl ⟨Nat.le_of_ble_eq_true rfl, Nat.le_of_ble_eq_true rfl⟩ (z_preV gN hnw hZ rfl (q0 := 1) (ci := 1) rfl) rfl rfl hl.1 rfl (lv_room (Nat.le_of_ble_eq_true rfl)) dX0_triple_18 ⟨Nat.le_of_ble_eq_true rfl, Nat.le_of_ble_eq_true rfl⟩) hZ (fun H locs hZ => ?_)
    refine lv_if_eq (tgt := 26) hx hb dX0_triple_21 (by decide) (fun c_5 => ?_) (fun c_5 => ?_)
    · have hf := ite_t c_5 hf
      refine lv_aload_n hx hb dX0_triple_26 rfl (lv_at hl 0 rfl) ?_
      refine z_get hx hb htt iw_X0 hown hZ 0 rfl rfl 0 (by decide) lf_X0_10 rfl dX0_triple_27 ?_
      refine z_getN hx hb gN hnw htt iw_X1 hown hZ 1 rfl rfl 2 (by decide) lf_X0_53 rfl dX0_triple_30 ?_
      refine lv_bipush (v := 100) hx hb dX0_triple_33 (by decide) ?_
      refine lv_icmp_lt (tgt := 41) hx hb dX0_triple_35 (by decide) (fun c_6 => ?_) (fun c_6 => ?_)
      · have hf := ite_t c_6 hf
        refine lv_aload_n hx hb dX0_triple_41 rfl (lv_at hl 0 rfl) ?_
        refine z_get hx hb htt iw_X0 hown hZ 0 rfl rfl 0 (by decide) lf_X0_10 rfl dX0_triple_42 ?_
        refine lv_iload_n hx hb dX0_triple_45 rfl (lv_at hl 1 rfl) ?_
        refine lv_iload_n hx hb dX0_triple_46 rfl (lv_at hl 2 rfl) ?_
        refine lv_iload_n hx hb dX0_triple_47 rfl (lv_at hl 3 rfl) ?_
        obtain ⟨σ8, k_7, hf⟩ := bn_s hf
        refine z_callv (u := σ8) (z_runVN (As := [.int x1, .int x2, .int x3]) (rest := []) ⟨hx, hb, hml, hown, htt⟩ gT (ct_X1_put l D A ad cA rs tr σ x1 x2 x3 k_7) md_X1_put hnw lm_X0_57 rfl rfl ⟨Nat.le_of_ble_eq_true rfl, Nat.le_of_ble_eq_true rfl⟩ (z_preV gN hnw hZ rfl (q0 := 1) (ci := 1) rfl) rfl rfl hl.1 rfl (lv_room (Nat.le_of_ble_eq_true rfl)) dX0_triple_48 ⟨Nat.le_of_ble_eq_true rfl, Nat.le_of_ble_eq_true rfl⟩) hZ (fun H locs hZ => ?_)
        refine lv_aload_n hx hb dX0_triple_51 rfl (lv_at hl 0 rfl) ?_
        refine z_get hx hb htt iw_X0 hown hZ 0 rfl rfl 4 (by decide) lf_X0_42 rfl dX0_triple_52 ?_
        refine lv_iconst (v := 0) hx hb dX0_triple_55 (by decide) ?_
        refine z_putN (σ' := st σ8 0 0 0) hx hb gN hnw htt iw_X5 tyX5 to_X5 nm_X5 hown hZ 5 rfl rfl 12 (by decide) lf_X0_61 rfl rfl rfl (Nat.le_of_ble_eq_true rfl) dX0_triple_56 rfl (fun σ9 H locs e_σ9 hZ => ?_)
        have hf := lt_n e_σ9 hf
        refine lv_iconst (v := 1) hx hb dX0_triple_59 (by decide) ?_
        exact z_iret hx hb hr hlocks hZ (sp_1 hf) (sp_2 hf) dX0_triple_60
      · have hf := ite_f c_6 hf
        refine lv_bipush (v := (-3)) hx hb dX0_triple_38 (by decide) ?_
        exact z_iret hx hb hr hlocks hZ (sp_1 hf) (sp_2 hf) dX0_triple_40
    · have hf := ite_f c_5 hf
      refine lv_iconst (v := 0) hx hb dX0_triple_24 (by decide) ?_
      exact z_iret hx hb hr hlocks hZ (sp_1 hf) (sp_2 hf) dX0_triple_25
  · have hf := ite_t c_2 hf
    refine lv_iconst (v := (-1)) hx hb dX0_triple_9 (by decide) ?_
    exact z_iret hx hb hr hlocks hZ (sp_1 hf) (sp_2 hf) dX0_triple_10
abbrev rm_X1_takeOut : Room := { frames := 2, cells := 0, slots := 0, locals := 42 }
def fn_X1_takeOut (σ : S2) (x1 : Int32) (x2 : Int32) (x3 : Int32) : Option (S2) := lt (fn_X0_isTriple x1 x2 x3) (fun r1 => if r1 = 0 then some σ else ck ((x1 * 8) + x2) 160 (ck ((x1 * 8) + x2) 160 (lt (st σ 6 (((x1 * 8) + x2)).toNatClampNeg ((σ.1 6 (((x1 * 8) + x2)).toNatClampNeg) &&& ((1 <<< (x3 &&& 31)) ^^^ (-1)))) (fun σ5 => ck ((x3 * 8) + x2) 256 (ck ((x3 * 8) + x2) 256 (lt (st σ5 7 (((x3 * 8) + x2)).toNatClampNeg ((σ5.1 7 (((x3 * 8) + x2)).toNatClampNeg) &&& ((1 <<< (x1 &&& 31)) ^^^ (-1)))) (fun σ8 => lt (st σ8 1 0 ((σ8.1 1 0) - 1)) (fun σ9 => some σ9))))))))
set_option maxHeartbeats 4000000 in
set_option maxRecDepth 100000 in
theorem ct_X1_takeOut (l : Launch) (D : va_G) (A : Nat → Prop) (ad : Nat → Nat) (cA : Nat → ClassId) (rs : va_W) (tr : List (ClassId × FieldType)) (σ : S2) (x1 : Int32) (x2 : Int32) (x3 : Int32) {res : S2} (hf : fn_X1_takeOut σ x1 x2 x3 = some res) : Met l yX1_takeOut (.code yX1_takeOut cX1_takeOut 4 none :: tb) rm_X1_takeOut (va_Pc [.ref (ad 1), .int x1, .int x2, .int x3] (zN D vwCl (tyC cA tr) A (wC ad cA rs) nl σ)) (va_Qv (fun u' => u' = res) (zB D vwCl (tyC cA tr) A (wC ad cA rs)) A) 0 0 A := by
  refine Met.ofW (cc := cX1_takeOut) (maxL := 4) (ret := none) (by decide) rfl ?_
  intro p e s m args below meth c s₁ B hml hv
  obtain ⟨rfl, hB, hnw0⟩ := hv
  have htt : ∀ w ∈ tb, w.before (([.ref (ad 1), .int x1, .int x2, .int x3] : List Value).toArray) s = true := fun w h => atoms_spec (ws := (.code yX1_takeOut cX1_takeOut 4 none :: tb)) B.pre w (List.mem_cons_of_mem _ h)
  have C0 : cx p m meth c cX1_takeOut none 4 s (([.ref (ad 1), .int x1, .int x2, .int x3] : List Value).toArray) tb nl RX1 := ⟨B.exec, B.bytes, B.returns, hml, findClass_of_methodNamed B.named, htt, B.notSynchronized, hnw0⟩
  obtain ⟨hx, hb, hr, hml, hown, htt, hlocks, hnw⟩ := id C0
  have hZ := z_start hB
  have hl := lv_entry ([.ref (ad 1), .int x1, .int x2, .int x3]) (n := 4) (Nat.le_of_ble_eq_true rfl)
  rw [lg_entry_eq]
  generalize (lg_sl ([.ref (ad 1), .int x1, .int x2, .int x3]) ++ List.replicate (4 - (lg_sl ([.ref (ad 1), .int x1, .int x2, .int x3])).length) Slot.unset).toArray = ls at hl ⊢
  have hl : lv_has ls 4 [(0, .ref (ad 1)), (1, .int x1), (2, .int x2), (3, .int x3)] := hl
  unfold fn_X1_takeOut at hf
  refine lv_iload_n hx hb dX1_takeOut_0 rfl (lv_at hl 1 rfl) ?_
  refine lv_iload_n hx hb dX1_takeOut_1 rfl (lv_at hl 2 rfl) ?_
  refine lv_iload_n hx hb dX1_takeOut_2 rfl (lv_at hl 3 rfl) ?_
  refine z_pcalli (z_runSN (As := [.int x1, .int x2, .int x3]) (rest := []) ⟨hx, hb, hml, hown, htt⟩ gT (ct_X0_isTriple l x1 x2 x3 rfl) md_X0_isTriple hnw lm_X1_26 rfl rfl ⟨Nat.le_of_ble_eq_true rfl, Nat.le_of_ble_eq_true rfl⟩ z_preP rfl rfl hl.1 rfl (lv_room (Nat.le_of_ble_eq_true rfl)) dX1_takeOut_3 ⟨Nat.le_of_ble_eq_true rfl, Nat.le_of_ble_eq_true rfl⟩) ?_
  refine lv_topi (fun r1 e_r1 => ?_)
  have hf := lt_n e_r1 hf
  refine lv_if_eq (tgt := 57) hx hb dX1_takeOut_6 (by decide) (fun c_2 => ?_) (fun c_2 => ?_)
  · have hf := ite_t c_2 hf
    exact z_vret hx hb hr hlocks hZ (Option.some.inj hf) dX1_takeOut_57
  · have hf := ite_f c_2 hf
    refine lv_aload_n hx hb dX1_takeOut_9 rfl (lv_at hl 0 rfl) ?_
    refine z_get hx hb htt iw_X1 hown hZ 1 rfl rfl 0 (by decide) lf_X1_9 rfl dX1_takeOut_10 ?_
    refine lv_iload_n hx hb dX1_takeOut_13 rfl (lv_at hl 1 rfl) ?_
    refine lv_bipush (v := 8) hx hb dX1_takeOut_14 (by decide) ?_
    refine lv_imul hx hb dX1_takeOut_16 ?_
    refine lv_iload_n hx hb dX1_takeOut_17 rfl (lv_at hl 2 rfl) ?_
    refine lv_iadd hx hb dX1_takeOut_18 ?_
    refine lv_dup2_11 hx hb dX1_takeOut_19 rfl rfl ?_
    obtain ⟨h_3, hf⟩ := ck_s hf
    refine z_ild hx hb hZ 6 0 rfl rfl h_3 dX1_takeOut_20 ?_
    refine lv_iconst (v := 1) hx hb dX1_takeOut_21 (by decide) ?_
    refine lv_iload_n hx hb dX1_takeOut_22 rfl (lv_at hl 3 rfl) ?_
    refine lv_ishl hx hb dX1_takeOut_23 ?_
    refine lv_iconst (v := (-1)) hx hb dX1_takeOut_24 (by decide) ?_
    refine lv_ixor hx hb dX1_takeOut_25 ?_
    refine lv_iand hx hb dX1_takeOut_26 ?_
    obtain ⟨h_4, hf⟩ := ck_s hf
    refine z_ist (σ' := st σ 6 (((x1 * 8) + x2)).toNatClampNeg ((σ.1 6 (((x1 * 8) + x2)).toNatClampNeg) &&& ((1 <<< (x3 &&& 31)) ^^^ (-1)))) hx hb hZ 6 0 rfl rfl h_4 dX1_takeOut_27 rfl (fun σ5 H locs e_σ5 hZ => ?_)
    have hf := lt_n e_σ5 hf
    refine lv_aload_n hx hb dX1_takeOut_28 rfl (lv_at hl 0 rfl) ?_
    refine z_get hx hb htt iw_X1 hown hZ 1 rfl rfl 1 (by decide) lf_X1_15 rfl dX1_takeOut_29 ?_
    refine lv_iload_n hx hb dX1_takeOut_32 rfl (lv_at hl 3 rfl) ?_
    refine lv_bipush (v := 8) hx hb dX1_takeOut_33 (by decide) ?_
    refine lv_imul hx hb dX1_takeOut_35 ?_
    refine lv_iload_n hx hb dX1_takeOut_36 rfl (lv_at hl 2 rfl) ?_
    refine lv_iadd hx hb dX1_takeOut_37 ?_
    refine lv_dup2_11 hx hb dX1_takeOut_38 rfl rfl ?_
    obtain ⟨h_6, hf⟩ := ck_s hf
    refine z_ild hx hb hZ 7 1 rfl rfl h_6 dX1_takeOut_39 ?_
    refine lv_iconst (v := 1) hx hb dX1_takeOut_40 (by decide) ?_
    refine lv_iload_n hx hb dX1_takeOut_41 rfl (lv_at hl 1 rfl) ?_
    refine lv_ishl hx hb dX1_takeOut_42 ?_
    refine lv_iconst (v := (-1)) hx hb dX1_takeOut_43 (by decide) ?_
    refine lv_ixor hx hb dX1_takeOut_44 ?_
    refine lv_iand hx hb dX1_takeOut_45 ?_
    obtain ⟨h_7, hf⟩ := ck_s hf
    refine z_ist (σ' := st σ5 7 (((x3 * 8) + x2)).toNatClampNeg ((σ5.1 7 (((x3 * 8) + x2)).toNatClampNeg) &&& ((1 <<< (x1 &&& 31)) ^^^ (-1)))) hx hb hZ 7 1 rfl rfl h_7 dX1_takeOut_46 rfl (fun σ8 H locs e_σ8 hZ => ?_)
    have hf := lt_n e_σ8 hf
    refine lv_aload_n hx hb dX1_takeOut_47 rfl (lv_at hl 0 rfl) ?_
    refine lv_dup hx hb dX1_takeOut_48 rfl ?_
    refine z_get hx hb htt iw_X1 hown hZ 1 rfl rfl 2 (by decide) lf_X1_30 rfl dX1_takeOut_49 ?_
    refine lv_iconst (v := 1) hx hb dX1_takeOut_52 (by decide) ?_
    refine lv_isub hx hb dX1_takeOut_53 ?_
    refine z_put (σ' := st σ8 1 0 ((σ8.1 1 0) - 1)) hx hb htt iw_X1 tyX1 to_X1 nm_X1 hown hZ 1 rfl rfl 2 (by decide) lf_X1_30 rfl rfl rfl (Nat.le_of_ble_eq_true rfl) dX1_takeOut_54 rfl (fun σ9 H locs e_σ9 hZ => ?_)
    have hf := lt_n e_σ9 hf
    exact z_vret hx hb hr hlocks hZ (Option.some.inj hf) dX1_takeOut_57
abbrev rm_X0_drop : Room := { frames := 3, cells := 0, slots := 0, locals := 65 }
def fn_X0_drop (σ : S2) (x1 : Int32) (x2 : Int32) (x3 : Int32) : Option (Int32 × S2) := lt (fn_X0_isTriple x1 x2 x3) (fun r1 => if r1 = 0 then some ((-1), σ) else bn (fn_X1_has σ x1 x2 x3) (fun r4 => if r4 = 0 then some (0, σ) else bn (fn_X1_takeOut σ x1 x2 x3) (fun σ7 => lt (st σ7 0 0 0) (fun σ8 => some (1, σ8)))))
set_option maxHeartbeats 4000000 in
set_option maxRecDepth 100000 in
theorem ct_X0_drop (l : Launch) (D : va_G) (A : Nat → Prop) (ad : Nat → Nat) (cA : Nat → ClassId) (rs : va_W) (tr : List (ClassId × FieldType)) (σ : S2) (x1 : Int32) (x2 : Int32) (x3 : Int32) {res : Int32 × S2} (hf : fn_X0_drop σ x1 x2 x3 = some res) : Met l yX0_drop (.code yX0_drop cX0_drop 4 (some .int) :: tb) rm_X0_drop (va_Pc [.ref (ad 0), .int x1, .int x2, .int x3] (zN D vwCl (tyC cA tr) A (wC ad cA rs) nl σ)) (va_Qi (fun r' u' => r' = res.1 ∧ u' = res.2) (zB D vwCl (tyC cA tr) A (wC ad cA rs)) A) 0 0 A := by
  refine Met.ofW (cc := cX0_drop) (maxL := 4) (ret := (some .int)) (by decide) rfl ?_
  intro p e s m args below meth c s₁ B hml hv
  obtain ⟨rfl, hB, hnw0⟩ := hv
  have htt : ∀ w ∈ tb, w.before (([.ref (ad 0), .int x1, .int x2, .int x3] : List Value).toArray) s = true := fun w h => atoms_spec (ws := (.code yX0_drop cX0_drop 4 (some .int) :: tb)) B.pre w (List.mem_cons_of_mem _ h)
  have C0 : cx p m meth c cX0_drop (some .int) 4 s (([.ref (ad 0), .int x1, .int x2, .int x3] : List Value).toArray) tb nl RX0 := ⟨B.exec, B.bytes, B.returns, hml, findClass_of_methodNamed B.named, htt, B.notSynchronized, hnw0⟩
  obtain ⟨hx, hb, hr, hml, hown, htt, hlocks, hnw⟩ := id C0
  have hZ := z_start hB
  have hl := lv_entry ([.ref (ad 0), .int x1, .int x2, .int x3]) (n := 4) (Nat.le_of_ble_eq_true rfl)
  rw [lg_entry_eq]
  generalize (lg_sl ([.ref (ad 0), .int x1, .int x2, .int x3]) ++ List.replicate (4 - (lg_sl ([.ref (ad 0), .int x1, .int x2, .int x3])).length) Slot.unset).toArray = ls at hl ⊢
  have hl : lv_has ls 4 [(0, .ref (ad 0)), (1, .int x1), (2, .int x2), (3, .int x3)] := hl
  unfold fn_X0_drop at hf
  refine lv_iload_n hx hb dX0_drop_0 rfl (lv_at hl 1 rfl) ?_
  refine lv_iload_n hx hb dX0_drop_1 rfl (lv_at hl 2 rfl) ?_
  refine lv_iload_n hx hb dX0_drop_2 rfl (lv_at hl 3 rfl) ?_
  refine z_pcalli (z_runS (As := [.int x1, .int x2, .int x3]) (rest := []) ⟨hx, hb, hml, hown, htt⟩ gT (ct_X0_isTriple l x1 x2 x3 rfl) md_X0_isTriple lm_X0_46 rfl rfl ⟨Nat.le_of_ble_eq_true rfl, Nat.le_of_ble_eq_true rfl⟩ z_preP rfl rfl hl.1 rfl (lv_room (Nat.le_of_ble_eq_true rfl)) dX0_drop_3 ⟨Nat.le_of_ble_eq_true rfl, Nat.le_of_ble_eq_true rfl⟩) ?_
  refine lv_topi (fun r1 e_r1 => ?_)
  have hf := lt_n e_r1 hf
  refine lv_if_ne (tgt := 11) hx hb dX0_drop_6 (by decide) (fun c_2 => ?_) (fun c_2 => ?_)
  · have hf := ite_f c_2 hf
    refine lv_aload_n hx hb dX0_drop_11 rfl (lv_at hl 0 rfl) ?_
    refine z_get hx hb htt iw_X0 hown hZ 0 rfl rfl 0 (by decide) lf_X0_10 rfl dX0_drop_12 ?_
    refine lv_iload_n hx hb dX0_drop_15 rfl (lv_at hl 1 rfl) ?_
    refine lv_iload_n hx hb dX0_drop_16 rfl (lv_at hl 2 rfl) ?_
    refine lv_iload_n hx hb dX0_drop_17 rfl (lv_at hl 3 rfl) ?_
    obtain ⟨r4, k_3, hf⟩ := bn_s hf
    refine z_calli (z_runVN (As := [.int x1, .int x2, .int x3]) (rest := []) ⟨hx, hb, hml, hown, htt⟩ gT (ct_X1_has l D A ad cA rs tr σ x1 x2 x3 k_3) md_X1_has hnw lm_X0_50 rfl rfl ⟨Nat.le_of_ble_eq_true rfl, Nat.le_of_ble_eq_true rfl⟩ (z_preV gN hnw hZ rfl (q0 := 1) (ci := 1) rfl) rfl rfl hl.1 rfl (lv_room (Nat.le_of_ble_eq_true rfl)) dX0_drop_18 ⟨Nat.le_of_ble_eq_true rfl, Nat.le_of_ble_eq_true rfl⟩) hZ (fun H locs hZ => ?_)
    refine lv_if_ne (tgt := 26) hx hb dX0_drop_21 (by decide) (fun c_5 => ?_) (fun c_5 => ?_)
    · have hf := ite_f c_5 hf
      refine lv_aload_n hx hb dX0_drop_26 rfl (lv_at hl 0 rfl) ?_
      refine z_get hx hb htt iw_X0 hown hZ 0 rfl rfl 0 (by decide) lf_X0_10 rfl dX0_drop_27 ?_
      refine lv_iload_n hx hb dX0_drop_30 rfl (lv_at hl 1 rfl) ?_
      refine lv_iload_n hx hb dX0_drop_31 rfl (lv_at hl 2 rfl) ?_
      refine lv_iload_n hx hb dX0_drop_32 rfl (lv_at hl 3 rfl) ?_
      obtain ⟨σ7, k_6, hf⟩ := bn_s hf
      refine z_callv (u := σ7) (z_runVN (As := [.int x1, .int x2, .int x3]) (rest := []) ⟨hx, hb, hml, hown, htt⟩ gT (ct_X1_takeOut l D A ad cA rs tr σ x1 x2 x3 k_6) md_X1_takeOut hnw lm_X0_65 rfl rfl ⟨Nat.le_of_ble_eq_true rfl, Nat.le_of_ble_eq_true rfl⟩ (z_preV gN hnw hZ rfl (q0 := 1) (ci := 1) rfl) rfl rfl hl.1 rfl (lv_room (Nat.le_of_ble_eq_true rfl)) dX0_drop_33 ⟨Nat.le_of_ble_eq_true rfl, Nat.le_of_ble_eq_true rfl⟩) hZ (fun H locs hZ => ?_)
      refine lv_aload_n hx hb dX0_drop_36 rfl (lv_at hl 0 rfl) ?_
      refine z_get hx hb htt iw_X0 hown hZ 0 rfl rfl 4 (by decide) lf_X0_42 rfl dX0_drop_37 ?_
      refine lv_iconst (v := 0) hx hb dX0_drop_40 (by decide) ?_
      refine z_putN (σ' := st σ7 0 0 0) hx hb gN hnw htt iw_X5 tyX5 to_X5 nm_X5 hown hZ 5 rfl rfl 12 (by decide) lf_X0_61 rfl rfl rfl (Nat.le_of_ble_eq_true rfl) dX0_drop_41 rfl (fun σ8 H locs e_σ8 hZ => ?_)
      have hf := lt_n e_σ8 hf
      refine lv_iconst (v := 1) hx hb dX0_drop_44 (by decide) ?_
      exact z_iret hx hb hr hlocks hZ (sp_1 hf) (sp_2 hf) dX0_drop_45
    · have hf := ite_t c_5 hf
      refine lv_iconst (v := 0) hx hb dX0_drop_24 (by decide) ?_
      exact z_iret hx hb hr hlocks hZ (sp_1 hf) (sp_2 hf) dX0_drop_25
  · have hf := ite_t c_2 hf
    refine lv_iconst (v := (-1)) hx hb dX0_drop_9 (by decide) ?_
    exact z_iret hx hb hr hlocks hZ (sp_1 hf) (sp_2 hf) dX0_drop_10
abbrev rm_X2_add : Room := { frames := 0, cells := 0, slots := 0, locals := 0 }
def fn_X2_add (σ : S2) (x1 : Int32) : Option (Int32 × S2) := if 12 ≤ (σ.1 2 0) then some ((σ.1 2 0), σ) else ck (σ.1 2 0) 12 (lt (st σ 8 ((σ.1 2 0)).toNatClampNeg x1) (fun σ3 => ck (σ.1 2 0) 12 (lt (st σ3 9 ((σ.1 2 0)).toNatClampNeg 2) (fun σ5 => lt (st σ5 2 0 ((σ5.1 2 0) + 1)) (fun σ6 => some ((σ.1 2 0), σ6))))))
set_option maxHeartbeats 4000000 in
set_option maxRecDepth 100000 in
theorem ct_X2_add (l : Launch) (D : va_G) (A : Nat → Prop) (ad : Nat → Nat) (cA : Nat → ClassId) (rs : va_W) (tr : List (ClassId × FieldType)) (σ : S2) (x1 : Int32) {res : Int32 × S2} (hf : fn_X2_add σ x1 = some res) : Met l yX2_add (.code yX2_add cX2_add 3 (some .int) :: tb) rm_X2_add (va_Pc [.ref (ad 2), .int x1] (zN D vwCl (tyC cA tr) A (wC ad cA rs) nl σ)) (va_Qi (fun r' u' => r' = res.1 ∧ u' = res.2) (zB D vwCl (tyC cA tr) A (wC ad cA rs)) A) 0 0 A := by
  refine Met.ofW (cc := cX2_add) (maxL := 3) (ret := (some .int)) (by decide) rfl ?_
  intro p e s m args below meth c s₁ B hml hv
  obtain ⟨rfl, hB, hnw0⟩ := hv
  have htt : ∀ w ∈ tb, w.before (([.ref (ad 2), .int x1] : List Value).toArray) s = true := fun w h => atoms_spec (ws := (.code yX2_add cX2_add 3 (some .int) :: tb)) B.pre w (List.mem_cons_of_mem _ h)
  have C0 : cx p m meth c cX2_add (some .int) 3 s (([.ref (ad 2), .int x1] : List Value).toArray) tb nl RX2 := ⟨B.exec, B.bytes, B.returns, hml, findClass_of_methodNamed B.named, htt, B.notSynchronized, hnw0⟩
  obtain ⟨hx, hb, hr, hml, hown, htt, hlocks, hnw⟩ := id C0
  have hZ := z_start hB
  have hl := lv_entry ([.ref (ad 2), .int x1]) (n := 3) (Nat.le_of_ble_eq_true rfl)
  rw [lg_entry_eq]
  generalize (lg_sl ([.ref (ad 2), .int x1]) ++ List.replicate (3 - (lg_sl ([.ref (ad 2), .int x1])).length) Slot.unset).toArray = ls at hl ⊢
  have hl : lv_has ls 3 [(0, .ref (ad 2)), (1, .int x1)] := hl
  unfold fn_X2_add at hf
  refine lv_aload_n hx hb dX2_add_0 rfl (lv_at hl 0 rfl) ?_
  refine z_get hx hb htt iw_X2 hown hZ 2 rfl rfl 3 (by decide) lf_X2_21 rfl dX2_add_1 ?_
  refine lv_istore_n (lv' := [(2, .int (σ.1 2 0)), (0, .ref (ad 2)), (1, .int x1)]) hx hb dX2_add_4 rfl hl (by decide) rfl (fun ls hl => ?_)
  refine lv_iload_n hx hb dX2_add_5 rfl (lv_at hl 0 rfl) ?_
  refine lv_bipush (v := 12) hx hb dX2_add_6 (by decide) ?_
  refine lv_icmp_ge (tgt := 35) hx hb dX2_add_8 (by decide) (fun c_1 => ?_) (fun c_1 => ?_)
  · have hf := ite_t c_1 hf
    refine lv_iload_n hx hb dX2_add_35 rfl (lv_at hl 0 rfl) ?_
    exact z_iret hx hb hr hlocks hZ (sp_1 hf) (sp_2 hf) dX2_add_36
  · have hf := ite_f c_1 hf
    refine lv_aload_n hx hb dX2_add_11 rfl (lv_at hl 1 rfl) ?_
    refine z_get hx hb htt iw_X2 hown hZ 2 rfl rfl 0 (by decide) lf_X2_9 rfl dX2_add_12 ?_
    refine lv_iload_n hx hb dX2_add_15 rfl (lv_at hl 0 rfl) ?_
    refine lv_iload_n hx hb dX2_add_16 rfl (lv_at hl 2 rfl) ?_
    obtain ⟨h_2, hf⟩ := ck_s hf
    refine z_ist (σ' := st σ 8 ((σ.1 2 0)).toNatClampNeg x1) hx hb hZ 8 2 rfl rfl h_2 dX2_add_17 rfl (fun σ3 H locs e_σ3 hZ => ?_)
    have hf := lt_n e_σ3 hf
    refine lv_aload_n hx hb dX2_add_18 rfl (lv_at hl 1 rfl) ?_
    refine z_get hx hb htt iw_X2 hown hZ 2 rfl rfl 1 (by decide) lf_X2_15 rfl dX2_add_19 ?_
    refine lv_iload_n hx hb dX2_add_22 rfl (lv_at hl 0 rfl) ?_
    refine lv_iconst (v := 2) hx hb dX2_add_23 (by decide) ?_
    obtain ⟨h_4, hf⟩ := ck_s hf
    refine z_ist (σ' := st σ3 9 ((σ.1 2 0)).toNatClampNeg 2) hx hb hZ 9 3 rfl rfl h_4 dX2_add_24 rfl (fun σ5 H locs e_σ5 hZ => ?_)
    have hf := lt_n e_σ5 hf
    refine lv_aload_n hx hb dX2_add_25 rfl (lv_at hl 1 rfl) ?_
    refine lv_dup hx hb dX2_add_26 rfl ?_
    refine z_get hx hb htt iw_X2 hown hZ 2 rfl rfl 3 (by decide) lf_X2_21 rfl dX2_add_27 ?_
    refine lv_iconst (v := 1) hx hb dX2_add_30 (by decide) ?_
    refine lv_iadd hx hb dX2_add_31 ?_
    refine z_put (σ' := st σ5 2 0 ((σ5.1 2 0) + 1)) hx hb htt iw_X2 tyX2 to_X2 nm_X2 hown hZ 2 rfl rfl 3 (by decide) lf_X2_21 rfl rfl rfl (Nat.le_of_ble_eq_true rfl) dX2_add_32 rfl (fun σ6 H locs e_σ6 hZ => ?_)
    have hf := lt_n e_σ6 hf
    refine lv_iload_n hx hb dX2_add_35 rfl (lv_at hl 0 rfl) ?_
    exact z_iret hx hb hr hlocks hZ (sp_1 hf) (sp_2 hf) dX2_add_36
abbrev rm_X0_shape : Room := { frames := 1, cells := 0, slots := 0, locals := 22 }
def fn_X0_shape (σ : S2) (x1 : Int32) : Option (Int32 × S2) := if x1 < (-1) then some ((-1), σ) else if x1 < 16 then if (σ.1 2 0) < 12 then lt (st σ 0 0 0) (fun σ4 => bn2 (fn_X2_add σ4 x1) (fun r7 σ6 => some (r7, σ6))) else some ((-3), σ) else some ((-1), σ)
set_option maxHeartbeats 4000000 in
set_option maxRecDepth 100000 in
theorem ct_X0_shape (l : Launch) (D : va_G) (A : Nat → Prop) (ad : Nat → Nat) (cA : Nat → ClassId) (rs : va_W) (tr : List (ClassId × FieldType)) (σ : S2) (x1 : Int32) {res : Int32 × S2} (hf : fn_X0_shape σ x1 = some res) : Met l yX0_shape (.code yX0_shape cX0_shape 2 (some .int) :: tb) rm_X0_shape (va_Pc [.ref (ad 0), .int x1] (zN D vwCl (tyC cA tr) A (wC ad cA rs) nl σ)) (va_Qi (fun r' u' => r' = res.1 ∧ u' = res.2) (zB D vwCl (tyC cA tr) A (wC ad cA rs)) A) 0 0 A := by
  refine Met.ofW (cc := cX0_shape) (maxL := 2) (ret := (some .int)) (by decide) rfl ?_
  intro p e s m args below meth c s₁ B hml hv
  obtain ⟨rfl, hB, hnw0⟩ := hv
  have htt : ∀ w ∈ tb, w.before (([.ref (ad 0), .int x1] : List Value).toArray) s = true := fun w h => atoms_spec (ws := (.code yX0_shape cX0_shape 2 (some .int) :: tb)) B.pre w (List.mem_cons_of_mem _ h)
  have C0 : cx p m meth c cX0_shape (some .int) 2 s (([.ref (ad 0), .int x1] : List Value).toArray) tb nl RX0 := ⟨B.exec, B.bytes, B.returns, hml, findClass_of_methodNamed B.named, htt, B.notSynchronized, hnw0⟩
  obtain ⟨hx, hb, hr, hml, hown, htt, hlocks, hnw⟩ := id C0
  have hZ := z_start hB
  have hl := lv_entry ([.ref (ad 0), .int x1]) (n := 2) (Nat.le_of_ble_eq_true rfl)
  rw [lg_entry_eq]
  generalize (lg_sl ([.ref (ad 0), .int x1]) ++ List.replicate (2 - (lg_sl ([.ref (ad 0), .int x1])).length) Slot.unset).toArray = ls at hl ⊢
  have hl : lv_has ls 2 [(0, .ref (ad 0)), (1, .int x1)] := hl
  unfold fn_X0_shape at hf
  refine lv_iload_n hx hb dX0_shape_0 rfl (lv_at hl 1 rfl) ?_
  refine lv_iconst (v := (-1)) hx hb dX0_shape_1 (by decide) ?_
  refine lv_icmp_lt (tgt := 11) hx hb dX0_shape_2 (by decide) (fun c_1 => ?_) (fun c_1 => ?_)
  · have hf := ite_t c_1 hf
    refine lv_iconst (v := (-1)) hx hb dX0_shape_11 (by decide) ?_
    exact z_iret hx hb hr hlocks hZ (sp_1 hf) (sp_2 hf) dX0_shape_12
  · have hf := ite_f c_1 hf
    refine lv_iload_n hx hb dX0_shape_5 rfl (lv_at hl 1 rfl) ?_
    refine lv_bipush (v := 16) hx hb dX0_shape_6 (by decide) ?_
    refine lv_icmp_lt (tgt := 13) hx hb dX0_shape_8 (by decide) (fun c_2 => ?_) (fun c_2 => ?_)
    · have hf := ite_t c_2 hf
      refine lv_aload_n hx hb dX0_shape_13 rfl (lv_at hl 0 rfl) ?_
      refine z_get hx hb htt iw_X0 hown hZ 0 rfl rfl 1 (by decide) lf_X0_19 rfl dX0_shape_14 ?_
      refine z_getN hx hb gN hnw htt iw_X2 hown hZ 2 rfl rfl 3 (by decide) lf_X0_68 rfl dX0_shape_17 ?_
      refine lv_bipush (v := 12) hx hb dX0_shape_20 (by decide) ?_
      refine lv_icmp_lt (tgt := 28) hx hb dX0_shape_22 (by decide) (fun c_3 => ?_) (fun c_3 => ?_)
      · have hf := ite_t c_3 hf
        refine lv_aload_n hx hb dX0_shape_28 rfl (lv_at hl 0 rfl) ?_
        refine z_get hx hb htt iw_X0 hown hZ 0 rfl rfl 4 (by decide) lf_X0_42 rfl dX0_shape_29 ?_
        refine lv_iconst (v := 0) hx hb dX0_shape_32 (by decide) ?_
        refine z_putN (σ' := st σ 0 0 0) hx hb gN hnw htt iw_X5 tyX5 to_X5 nm_X5 hown hZ 5 rfl rfl 12 (by decide) lf_X0_61 rfl rfl rfl (Nat.le_of_ble_eq_true rfl) dX0_shape_33 rfl (fun σ4 H locs e_σ4 hZ => ?_)
        have hf := lt_n e_σ4 hf
        refine lv_aload_n hx hb dX0_shape_36 rfl (lv_at hl 0 rfl) ?_
        refine z_get hx hb htt iw_X0 hown hZ 0 rfl rfl 1 (by decide) lf_X0_19 rfl dX0_shape_37 ?_
        refine lv_iload_n hx hb dX0_shape_40 rfl (lv_at hl 1 rfl) ?_
        obtain ⟨r7, σ6, k_5, hf⟩ := bn2_s hf
        refine z_calli (r := r7) (u := σ6) (z_runVN (As := [.int x1]) (rest := []) ⟨hx, hb, hml, hown, htt⟩ gT (ct_X2_add l D A ad cA rs tr σ4 x1 k_5) md_X2_add hnw lm_X0_69 rfl rfl ⟨Nat.le_of_ble_eq_true rfl, Nat.le_of_ble_eq_true rfl⟩ (z_preV gN hnw hZ rfl (q0 := 2) (ci := 2) rfl) rfl rfl hl.1 rfl (lv_room (Nat.le_of_ble_eq_true rfl)) dX0_shape_41 ⟨Nat.le_of_ble_eq_true rfl, Nat.le_of_ble_eq_true rfl⟩) hZ (fun H locs hZ => ?_)
        exact z_iret hx hb hr hlocks hZ (sp_1 hf) (sp_2 hf) dX0_shape_44
      · have hf := ite_f c_3 hf
        refine lv_bipush (v := (-3)) hx hb dX0_shape_25 (by decide) ?_
        exact z_iret hx hb hr hlocks hZ (sp_1 hf) (sp_2 hf) dX0_shape_27
    · have hf := ite_f c_2 hf
      refine lv_iconst (v := (-1)) hx hb dX0_shape_11 (by decide) ?_
      exact z_iret hx hb hr hlocks hZ (sp_1 hf) (sp_2 hf) dX0_shape_12
abbrev rm_X2_has : Room := { frames := 0, cells := 0, slots := 0, locals := 0 }
def fn_X2_has (σ : S2) (x1 : Int32) : Int32 := if x1 < 0 then 0 else if (σ.1 2 0) ≤ x1 then 0 else 1
set_option maxHeartbeats 4000000 in
set_option maxRecDepth 100000 in
theorem ct_X2_has (l : Launch) (D : va_G) (A : Nat → Prop) (ad : Nat → Nat) (cA : Nat → ClassId) (rs : va_W) (tr : List (ClassId × FieldType)) (σ : S2) (x1 : Int32) {res : Int32} (hf : fn_X2_has σ x1 = res) : Met l yX2_has (.code yX2_has cX2_has 2 (some .boolean) :: tb) rm_X2_has (va_Pc [.ref (ad 2), .int x1] (zN D vwCl (tyC cA tr) A (wC ad cA rs) nl σ)) (va_Qi (fun r' u' => r' = res ∧ u' = σ) (zB D vwCl (tyC cA tr) A (wC ad cA rs)) A) 0 0 A := by
  refine Met.ofW (cc := cX2_has) (maxL := 2) (ret := (some .boolean)) (by decide) rfl ?_
  intro p e s m args below meth c s₁ B hml hv
  obtain ⟨rfl, hB, hnw0⟩ := hv
  have htt : ∀ w ∈ tb, w.before (([.ref (ad 2), .int x1] : List Value).toArray) s = true := fun w h => atoms_spec (ws := (.code yX2_has cX2_has 2 (some .boolean) :: tb)) B.pre w (List.mem_cons_of_mem _ h)
  have C0 : cx p m meth c cX2_has (some .boolean) 2 s (([.ref (ad 2), .int x1] : List Value).toArray) tb nl RX2 := ⟨B.exec, B.bytes, B.returns, hml, findClass_of_methodNamed B.named, htt, B.notSynchronized, hnw0⟩
  obtain ⟨hx, hb, hr, hml, hown, htt, hlocks, hnw⟩ := id C0
  have hZ := z_start hB
  have hl := lv_entry ([.ref (ad 2), .int x1]) (n := 2) (Nat.le_of_ble_eq_true rfl)
  rw [lg_entry_eq]
  generalize (lg_sl ([.ref (ad 2), .int x1]) ++ List.replicate (2 - (lg_sl ([.ref (ad 2), .int x1])).length) Slot.unset).toArray = ls at hl ⊢
  have hl : lv_has ls 2 [(0, .ref (ad 2)), (1, .int x1)] := hl
  unfold fn_X2_has at hf
  refine lv_iload_n hx hb dX2_has_0 rfl (lv_at hl 1 rfl) ?_
  refine lv_if_lt (tgt := 16) hx hb dX2_has_1 (by decide) (fun c_1 => ?_) (fun c_1 => ?_)
  · have hf := ite_t c_1 hf
    refine lv_iconst (v := 0) hx hb dX2_has_16 (by decide) ?_
    exact z_zret hx hb hr hlocks hZ rfl hf rfl dX2_has_17
  · have hf := ite_f c_1 hf
    refine lv_iload_n hx hb dX2_has_4 rfl (lv_at hl 1 rfl) ?_
    refine lv_aload_n hx hb dX2_has_5 rfl (lv_at hl 0 rfl) ?_
    refine z_get hx hb htt iw_X2 hown hZ 2 rfl rfl 3 (by decide) lf_X2_21 rfl dX2_has_6 ?_
    refine lv_icmp_ge (tgt := 16) hx hb dX2_has_9 (by decide) (fun c_2 => ?_) (fun c_2 => ?_)
    · have hf := ite_t c_2 hf
      refine lv_iconst (v := 0) hx hb dX2_has_16 (by decide) ?_
      exact z_zret hx hb hr hlocks hZ rfl hf rfl dX2_has_17
    · have hf := ite_f c_2 hf
      refine lv_iconst (v := 1) hx hb dX2_has_12 (by decide) ?_
      refine lv_goto (tgt := 17) hx hb dX2_has_13 (by decide) ?_
      exact z_zret hx hb hr hlocks hZ rfl hf rfl dX2_has_17
abbrev rm_X0_isBetween : Room := { frames := 0, cells := 0, slots := 0, locals := 0 }
def fn_X0_isBetween (x0 : Int32) (x1 : Int32) (x2 : Int32) : Int32 := if x0 < x1 then 0 else if x2 < x0 then 0 else 1
set_option maxHeartbeats 4000000 in
set_option maxRecDepth 100000 in
theorem ct_X0_isBetween (l : Launch) (x0 : Int32) (x1 : Int32) (x2 : Int32) {res : Int32} (hf : fn_X0_isBetween x0 x1 x2 = res) : Met l yX0_isBetween (.code yX0_isBetween cX0_isBetween 3 (some .boolean) :: tb) rm_X0_isBetween (va_Pc [.int x0, .int x1, .int x2] (fun _ => True)) (vp_Si (fun r' => r' = res)) 0 0 (fun _ => False) := by
  refine Met.ofW (cc := cX0_isBetween) (maxL := 3) (ret := (some .boolean)) (by decide) rfl ?_
  intro p e s m args below meth c s₁ B hml hv
  obtain ⟨rfl, hB⟩ := hv
  have htt : ∀ w ∈ tb, w.before (([.int x0, .int x1, .int x2] : List Value).toArray) s = true := fun w h => atoms_spec (ws := (.code yX0_isBetween cX0_isBetween 3 (some .boolean) :: tb)) B.pre w (List.mem_cons_of_mem _ h)
  have C0 : cx p m meth c cX0_isBetween (some .boolean) 3 s (([.int x0, .int x1, .int x2] : List Value).toArray) tb [] RX0 := ⟨B.exec, B.bytes, B.returns, hml, findClass_of_methodNamed B.named, htt, B.notSynchronized, fun _ h => absurd h List.not_mem_nil⟩
  obtain ⟨hx, hb, hr, hml, hown, htt, hlocks, hnw⟩ := id C0
  have hl := lv_entry ([.int x0, .int x1, .int x2]) (n := 3) (Nat.le_of_ble_eq_true rfl)
  rw [lg_entry_eq]
  generalize (lg_sl ([.int x0, .int x1, .int x2]) ++ List.replicate (3 - (lg_sl ([.int x0, .int x1, .int x2])).length) Slot.unset).toArray = ls at hl ⊢
  have hl : lv_has ls 3 [(0, .int x0), (1, .int x1), (2, .int x2)] := hl
  unfold fn_X0_isBetween at hf
  refine lv_iload_n hx hb dX0_isBetween_0 rfl (lv_at hl 0 rfl) ?_
  refine lv_iload_n hx hb dX0_isBetween_1 rfl (lv_at hl 1 rfl) ?_
  refine lv_icmp_lt (tgt := 14) hx hb dX0_isBetween_2 (by decide) (fun c_1 => ?_) (fun c_1 => ?_)
  · have hf := ite_t c_1 hf
    refine lv_iconst (v := 0) hx hb dX0_isBetween_14 (by decide) ?_
    exact z_pzret hx hb hr hlocks rfl hf dX0_isBetween_15
  · have hf := ite_f c_1 hf
    refine lv_iload_n hx hb dX0_isBetween_5 rfl (lv_at hl 0 rfl) ?_
    refine lv_iload_n hx hb dX0_isBetween_6 rfl (lv_at hl 2 rfl) ?_
    refine lv_icmp_gt (tgt := 14) hx hb dX0_isBetween_7 (by decide) (fun c_2 => ?_) (fun c_2 => ?_)
    · have hf := ite_t c_2 hf
      refine lv_iconst (v := 0) hx hb dX0_isBetween_14 (by decide) ?_
      exact z_pzret hx hb hr hlocks rfl hf dX0_isBetween_15
    · have hf := ite_f c_2 hf
      refine lv_iconst (v := 1) hx hb dX0_isBetween_10 (by decide) ?_
      refine lv_goto (tgt := 15) hx hb dX0_isBetween_11 (by decide) ?_
      exact z_pzret hx hb hr hlocks rfl hf dX0_isBetween_15
theorem bo_X0_isBetween {x0 x1 x2 : Int32} {r : Int32} (h : r = fn_X0_isBetween x0 x1 x2) : narrow .boolean (.int r) = .int r := by
  subst h; unfold fn_X0_isBetween; (try simp only [lt]); repeat' split
  all_goals rfl
