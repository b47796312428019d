/-! own rows: a world as a function of a value; one word list for all methods -/
/-- a value gets a name -/
def lt {α β : Type} (a : α) (f : α → β) : β := f a
theorem lt_n {α β : Type} {a y : α} {f : α → β} {r : β} (hy : y = a) (h : lt a f = r) : f y = r := by subst hy; exact h
theorem ite_t {α : Type} {c : Prop} {inst : Decidable c} {x y r : α} (hc : c) (h : @ite α c inst x y = r) : x = r := by rwa [if_pos hc] at h
theorem ite_f {α : Type} {c : Prop} {inst : Decidable c} {x y r : α} (hc : ¬ c) (h : @ite α c inst x y = r) : y = r := by rwa [if_neg hc] at h
/-- an index is looked at -/
def ck {α : Type} (i : Int32) (n : Nat) (o : Option α) : Option α := if i < 0 ∨ n ≤ i.toNatClampNeg then none else o
theorem ck_s {α : Type} {i : Int32} {n : Nat} {o : Option α} {b : α} (h : ck i n o = some b) : ¬ (i < 0 ∨ n ≤ i.toNatClampNeg) ∧ o = some b := by
  unfold ck at h
  by_cases q : i < 0 ∨ n ≤ i.toNatClampNeg
  · rw [if_pos q] at h; cases h
  · rw [if_neg q] at h; exact ⟨q, h⟩
/-- a truth value is looked at -/
def cb {α : Type} (v : Int32) (o : Option α) : Option α := if v = 0 ∨ v = 1 then o else none
theorem cb_s {α : Type} {v : Int32} {o : Option α} {b : α} (h : cb v o = some b) : narrow .boolean (.int v) = .int v ∧ o = some b := by
  unfold cb at h
  by_cases q : v = 0 ∨ v = 1
  · rw [if_pos q] at h
    refine ⟨?_, h⟩
    rcases q with q | q <;> subst q <;> rfl
  · rw [if_neg q] at h; cases h
def bn {α β : Type} (o : Option α) (f : α → Option β) : Option β := match o with
  | none => none
  | some a => f a
theorem bn_s {α β : Type} {o : Option α} {f : α → Option β} {b : β} (h : bn o f = some b) : ∃ a, o = some a ∧ f a = some b := by
  cases o with
  | none => cases h
  | some a => exact ⟨a, rfl, h⟩
def bn2 {α γ β : Type} (o : Option (α × γ)) (f : α → γ → Option β) : Option β := match o with
  | none => none
  | some a => f a.1 a.2
theorem bn2_s {α γ β : Type} {o : Option (α × γ)} {f : α → γ → Option β} {b : β} (h : bn2 o f = some b) : ∃ a g, o = some (a, g) ∧ f a g = some b := by
  cases o with
  | none => cases h
  | some a => exact ⟨a.1, a.2, rfl, h⟩
theorem no_some {α : Type} {P : Prop} {r : α} (h : none = some r) : P := by cases h
theorem sp_1 {α β : Type} {a : α} {b : β} {r : α × β} (h : some (a, b) = some r) : a = r.1 := by cases h; rfl
theorem sp_2 {α β : Type} {a : α} {b : β} {r : α × β} (h : some (a, b) = some r) : b = r.2 := by cases h; rfl
/-- shifts as the machine has them -/
def ush (x y : Int32) : Int32 := (x.toUInt32 >>> (y.toUInt32 &&& Int32.toUInt32 31)).toInt32
def ushL (x : Int64) (y : Int32) : Int64 := (x.toUInt64 >>> (y.toInt64.toUInt64 &&& Int64.toUInt64 63)).toInt64
def shlL (x : Int64) (y : Int32) : Int64 := x <<< (y.toInt64 &&& 63)
/-- the turns a loop may take -/
def fu : Nat := 1000
/-- ints by their number and place; longs likewise -/
abbrev S2 : Type := (Nat → Nat → Int32) × (Nat → Nat → Int64)
def st (σ : S2) (k i : Nat) (v : Int32) : S2 := (fun a => if a = k then upd (σ.1 a) i v else σ.1 a, σ.2)
def stL (σ : S2) (k i : Nat) (v : Int64) : S2 := (σ.1, fun a => if a = k then vp_updL (σ.2 a) i v else σ.2 a)
def zB (D : va_G) (cl : List vw_C) (tys : List (ClassId × FieldType)) (A : Nat → Prop) {S : Type} (w : S → va_W) (σ : S) (U : State) : Prop := va_P D cl (w σ) U.heap ∧ va_K D cl tys U ∧ va_D A (w σ)
def zz (D : va_G) (cl : List vw_C) (tys : List (ClassId × FieldType)) (A : Nat → Prop) {S : Type} (w : S → va_W) (s : State) (H0 H : Heap) (locs : List Loc) (σ : S) : Prop := va_K D cl tys s ∧ va_P D cl (w σ) H ∧ va_D A (w σ) ∧ va_S A H0 H locs
/-- the words of private members of nest mates: they go with the state -/
def nwk (nw : List Cond) (U : State) : Prop := ∀ w ∈ nw, va_Nw w U
def nwg (nw : List Cond) : Prop := ∀ w ∈ nw, (∃ a i b n d h, w = Cond.fieldLinkNest a i b n d h) ∨ ∃ a i x h, w = Cond.methodLinkNest a i x h
theorem nwk_warm {nw : List Cond} {s U : State} (hg : nwg nw) (hW : s.WarmedH U.vm) (h : nwk nw s) : nwk nw U := fun w hw => by
  rcases hg w hw with ⟨a, i, b, n, d, h', rfl⟩ | ⟨a, i, x, h', rfl⟩
  · exact va_Nw.warmF hW (h _ hw)
  · exact va_Nw.warmM hW (h _ hw)
theorem nwk_same {nw : List Cond} {s U : State} (hg : nwg nw) (hv : s.vm = U.vm) (h : nwk nw s) : nwk nw U := fun w hw => by
  rcases hg w hw with ⟨a, i, b, n, d, h', rfl⟩ | ⟨a, i, x, h', rfl⟩
  · exact va_Nw.same rfl hv (h _ hw)
  · exact va_Nw.same rfl hv (h _ hw)
theorem nwk_use {nw : List Cond} {s : State} (hg : nwg nw) (h : nwk nw s) {args : Array Value} {w : Cond} (hw : w ∈ nw) : w.before args s = true := by
  have h2 := h w hw
  rcases hg w hw with ⟨a, i, b, n, d, h', rfl⟩ | ⟨a, i, x, h', rfl⟩
  · exact va_Nw.use rfl h2
  · exact va_Nw.use rfl h2
theorem nwk_of {nw : List Cond} {s : State} (hg : nwg nw) {args : Array Value} (h : ∀ w ∈ nw, w.before args s = true) : nwk nw s := fun w hw => by
  have h2 := h w hw
  rcases hg w hw with ⟨a, i, b, n, d, h', rfl⟩ | ⟨a, i, x, h', rfl⟩
  · exact va_Nw.of rfl h2
  · exact va_Nw.of rfl h2
/-- what a method's body has at hand -/
def cx (p : Program) (m : MethodId) (meth : Method) (c : Code) (cc : ByteArray) (ret : Option FieldType) (nL : Nat) (s : State) (args : Array Value) (T : List Cond) (nw : List Cond) (own : String) : Prop := p.tables.exec = Jvm.exec ∧ c.code = cc ∧ meth.sig.returnType = ret ∧ c.maxLocals = nL ∧ s.vm.findClass own = some m.cls ∧ (∀ w ∈ T, w.before args s = true) ∧ meth.locks = false ∧ nwk nw s
def gdT (T : List Cond) : Prop := ∀ w ∈ T, (w.onTables && w.keeps) = true ∨ ∃ ty, w = .arrayClass ty
theorem gdIn {T : List Cond} {c1 : Cond} (hg : gdT T) (hc : c1 ∈ T) : GoodIn T (c1 :: T) := fun w hw => by
  rcases List.mem_cons.mp hw with h | h
  · subst h; exact ⟨hc, hg _ hc⟩
  · exact ⟨h, hg _ h⟩
/-- the words of a method that is called -/
def mdOk (y : MethodName) (n : Nat) : Prop := y.cls ≠ "java/lang/invoke/MethodHandle" ∧ y.cls ≠ "java/lang/invoke/VarHandle" ∧ (parseMethodDescriptor y.desc).map (fun d => d.parameters.length) = some n
def mV (T : List Cond) (y : MethodName) (bytes : ByteArray) (maxL : Nat) (ret : Option FieldType) (n : Nat) : Prop := Cond.code y bytes maxL ret ∈ T ∧ Cond.initialized y.cls ∈ T ∧ mdOk y n ∧ Cond.instanceMethod y ∈ T ∧ Cond.selects y.cls y y ∈ T
def mS (T : List Cond) (y : MethodName) (bytes : ByteArray) (maxL : Nat) (ret : Option FieldType) (n : Nat) : Prop := Cond.code y bytes maxL ret ∈ T ∧ Cond.initialized y.cls ∈ T ∧ mdOk y n ∧ Cond.static y ∈ T
section ZZ
variable {p : Program} {l : Launch} {e : Env} {R : Room} {s : State} {m : MethodId} {args : Array Value} {below : List Frame} {meth : Method} {c : Code} {H : Heap} {locs : List Loc} {cells slots : Nat} {Q : State → Prop}
variable {cc : ByteArray} {pc : Nat} {ls : Array Slot} {rest : List Value} {D : va_G} {cl : List vw_C} {A : Nat → Prop} {a : Nat} {tys : List (ClassId × FieldType)} {H0 : Heap} {S : Type} {w : S → va_W} {σ : S}
theorem z_start (h : zB D cl tys A w σ s) : zz D cl tys A w s s.heap s.heap [] σ := ⟨h.2.1, h.1, h.2.2, va_S.rf⟩
theorem z_ild (hx : p.tables.exec = Jvm.exec) (hb : c.code = cc) (hZ : zz D cl tys A w s H0 H locs σ) (q0 t0 : Nat) {cA : ClassId} {n : Nat} {f : Nat → Int32} (ha : (w σ)[q0]? = some (a, .inl (cA, n, .inl f))) (ht : tys[t0]? = some (cA, .int)) {i : Int32} (hin : ¬ (i < 0 ∨ n ≤ i.toNatClampNeg)) (hdg : decode cc pc = .ok (.iaload, 1))
    (kk : W p l e R s m args below meth c H locs cells slots Q (F0 m (pc + 1) ls (.int (f i.toNatClampNeg) :: rest))) : W p l e R s m args below meth c H locs cells slots Q (F0 m pc ls (.int i :: .ref a :: rest)) := va_iald hx hb hZ.1 hZ.2.1 q0 t0 ha ht hin hdg kk
theorem z_lld (hx : p.tables.exec = Jvm.exec) (hb : c.code = cc) (hZ : zz D cl tys A w s H0 H locs σ) (q0 t0 : Nat) {cA : ClassId} {n : Nat} {f : Nat → Int64} (ha : (w σ)[q0]? = some (a, .inl (cA, n, .inr (.inl f)))) (ht : tys[t0]? = some (cA, .long)) {i : Int32} (hin : ¬ (i < 0 ∨ n ≤ i.toNatClampNeg)) (hdg : decode cc pc = .ok (.laload, 1))
    (kk : W p l e R s m args below meth c H locs cells slots Q (F0 m (pc + 1) ls (.long (f i.toNatClampNeg) :: rest))) : W p l e R s m args below meth c H locs cells slots Q (F0 m pc ls (.int i :: .ref a :: rest)) := va_lald hx hb hZ.1 hZ.2.1 q0 t0 ha ht hin hdg kk
theorem z_zld (hx : p.tables.exec = Jvm.exec) (hb : c.code = cc) (hZ : zz D cl tys A w s H0 H locs σ) (q0 t0 : Nat) {cA : ClassId} {n : Nat} {f : Nat → Int32} (ha : (w σ)[q0]? = some (a, .inl (cA, n, .inl f))) (ht : tys[t0]? = some (cA, .boolean)) {i : Int32} (hin : ¬ (i < 0 ∨ n ≤ i.toNatClampNeg)) (hdg : decode cc pc = .ok (.baload, 1))
    (kk : W p l e R s m args below meth c H locs cells slots Q (F0 m (pc + 1) ls (.int (f i.toNatClampNeg) :: rest))) : W p l e R s m args below meth c H locs cells slots Q (F0 m pc ls (.int i :: .ref a :: rest)) := va_zald hx hb hZ.1 hZ.2.1 q0 t0 ha ht hin hdg kk
theorem z_ist (hx : p.tables.exec = Jvm.exec) (hb : c.code = cc) (hZ : zz D cl tys A w s H0 H locs σ) (q0 t0 : Nat) {cA : ClassId} {n : Nat} {f : Nat → Int32} (ha : (w σ)[q0]? = some (a, .inl (cA, n, .inl f))) (ht : tys[t0]? = some (cA, .int)) {i x : Int32} (hin : ¬ (i < 0 ∨ n ≤ i.toNatClampNeg)) (hdg : decode cc pc = .ok (.iastore, 1)) {σ' : S} (hs : (w σ).set q0 (a, .inl (cA, n, .inl (upd f i.toNatClampNeg x))) = w σ')
    (kk : ∀ (u : S) (H1 : Heap) (locs1 : List Loc), u = σ' → zz D cl tys A w s H0 H1 locs1 u → W p l e R s m args below meth c H1 locs1 cells slots Q (F0 m (pc + 1) ls rest)) : W p l e R s m args below meth c H locs cells slots Q (F0 m pc ls (.int x :: .int i :: .ref a :: rest)) :=
  va_iast hx hb hZ.1 hZ.2.1 hZ.2.2.1 hZ.2.2.2 q0 t0 ha ht hin hdg (fun H1 locs1 h1 h2 h3 => kk σ' H1 locs1 rfl ⟨hZ.1, hs ▸ h1, hs ▸ h2, h3⟩)
theorem z_lst (hx : p.tables.exec = Jvm.exec) (hb : c.code = cc) (hZ : zz D cl tys A w s H0 H locs σ) (q0 t0 : Nat) {cA : ClassId} {n : Nat} {f : Nat → Int64} (ha : (w σ)[q0]? = some (a, .inl (cA, n, .inr (.inl f)))) (ht : tys[t0]? = some (cA, .long)) {i : Int32} {x : Int64} (hin : ¬ (i < 0 ∨ n ≤ i.toNatClampNeg)) (hdg : decode cc pc = .ok (.lastore, 1)) {σ' : S} (hs : (w σ).set q0 (a, .inl (cA, n, .inr (.inl (vp_updL f i.toNatClampNeg x)))) = w σ')
    (kk : ∀ (u : S) (H1 : Heap) (locs1 : List Loc), u = σ' → zz D cl tys A w s H0 H1 locs1 u → W p l e R s m args below meth c H1 locs1 cells slots Q (F0 m (pc + 1) ls rest)) : W p l e R s m args below meth c H locs cells slots Q (F0 m pc ls (.long x :: .int i :: .ref a :: rest)) :=
  va_last hx hb hZ.1 hZ.2.1 hZ.2.2.1 hZ.2.2.2 q0 t0 ha ht hin hdg (fun H1 locs1 h1 h2 h3 => kk σ' H1 locs1 rfl ⟨hZ.1, hs ▸ h1, hs ▸ h2, h3⟩)
theorem z_zst (hx : p.tables.exec = Jvm.exec) (hb : c.code = cc) (hZ : zz D cl tys A w s H0 H locs σ) (q0 t0 : Nat) {cA : ClassId} {n : Nat} {f : Nat → Int32} (ha : (w σ)[q0]? = some (a, .inl (cA, n, .inl f))) (ht : tys[t0]? = some (cA, .boolean)) {i x : Int32} (hin : ¬ (i < 0 ∨ n ≤ i.toNatClampNeg)) (hdg : decode cc pc = .ok (.bastore, 1)) {σ' : S} (hs : (w σ).set q0 (a, .inl (cA, n, .inl (upd f i.toNatClampNeg (vp_nar .boolean x)))) = w σ')
    (kk : ∀ (u : S) (H1 : Heap) (locs1 : List Loc), u = σ' → zz D cl tys A w s H0 H1 locs1 u → W p l e R s m args below meth c H1 locs1 cells slots Q (F0 m (pc + 1) ls rest)) : W p l e R s m args below meth c H locs cells slots Q (F0 m pc ls (.int x :: .int i :: .ref a :: rest)) :=
  va_zast hx hb hZ.1 hZ.2.1 hZ.2.2.1 hZ.2.2.2 q0 t0 ha ht hin hdg (fun H1 locs1 h1 h2 h3 => kk σ' H1 locs1 rfl ⟨hZ.1, hs ▸ h1, hs ▸ h2, h3⟩)
theorem z_get (hx : p.tables.exec = Jvm.exec) (hb : c.code = cc) {own C : String} {T : u_T} {N ci index : Nat} {Ts : List Cond} (hts : ∀ w ∈ Ts, w.before args s = true) (hin : ∀ w ∈ u_ws C T N, w ∈ Ts) (hown : s.vm.findClass own = some m.cls) (hZ : zz D cl tys A w s H0 H locs σ) (q0 : Nat) {fs : List Value} (he : (w σ)[q0]? = some (a, .inr (ci, fs))) (hc : cl[ci]? = some (C, T, N)) (k : Nat) (hk : k < N) (hlink : Cond.fieldLink own index (T k).1 (T k).2.1 (T k).2.2.1 ∈ Ts) {v : Value} (hv : fs[k]? = some v) (hdg : decode cc pc = .ok (.getfield index, 3))
    (kk : W p l e R s m args below meth c H locs cells slots Q (F0 m (pc + 3) ls (v :: rest))) : W p l e R s m args below meth c H locs cells slots Q (F0 m pc ls (.ref a :: rest)) := va_get hx hb hts hin hown hZ.1 hZ.2.1 q0 he hc k hk (hts _ hlink) (fun _ h => h) hv hdg kk
theorem z_getN (hx : p.tables.exec = Jvm.exec) (hb : c.code = cc) {own C host : String} {T : u_T} {N ci index : Nat} {Ts nw : List Cond} (hg : nwg nw) (hnw : nwk nw s) (hts : ∀ w ∈ Ts, w.before args s = true) (hin : ∀ w ∈ u_ws C T N, w ∈ Ts) (hown : s.vm.findClass own = some m.cls) (hZ : zz D cl tys A w s H0 H locs σ) (q0 : Nat) {fs : List Value} (he : (w σ)[q0]? = some (a, .inr (ci, fs))) (hc : cl[ci]? = some (C, T, N)) (k : Nat) (hk : k < N) (hlink : Cond.fieldLinkNest own index (T k).1 (T k).2.1 (T k).2.2.1 host ∈ nw) {v : Value} (hv : fs[k]? = some v) (hdg : decode cc pc = .ok (.getfield index, 3))
    (kk : W p l e R s m args below meth c H locs cells slots Q (F0 m (pc + 3) ls (v :: rest))) : W p l e R s m args below meth c H locs cells slots Q (F0 m pc ls (.ref a :: rest)) := va_getN hx hb hts hin hown hZ.1 hZ.2.1 q0 he hc k hk (nwk_use hg hnw hlink) (fun _ h => h) hv hdg kk
theorem z_put (hx : p.tables.exec = Jvm.exec) (hb : c.code = cc) {own C : String} {T : u_T} {N ci index : Nat} {Ts : List Cond} (hts : ∀ w ∈ Ts, w.before args s = true) (hin : ∀ w ∈ u_ws C T N, w ∈ Ts) (ty0 : Nat → FieldType) (hty : ∀ k, k < N → parseFieldDescriptor (T k).2.2.1 = some (ty0 k)) (hnm : ∀ a, a < N → ∀ b, b < N → a ≠ b → (T a).2.1 ≠ (T b).2.1) (hown : s.vm.findClass own = some m.cls) (hZ : zz D cl tys A w s H0 H locs σ) (q0 : Nat) {fs : List Value} (he : (w σ)[q0]? = some (a, .inr (ci, fs))) (hc : cl[ci]? = some (C, T, N)) (k : Nat) (hk : k < N) (hlink : Cond.fieldLink own index (T k).1 (T k).2.1 (T k).2.2.1 ∈ Ts) (hfin : (T k).2.2.2 = false) {v : Value} (hn : narrow (ty0 k) v = v) (hfit : fits (ty0 k) v = true) (hl : k < fs.length) (hdg : decode cc pc = .ok (.putfield index, 3)) {σ' : S} (hs : (w σ).set q0 (a, .inr (ci, fs.set k v)) = w σ')
    (kk : ∀ (u : S) (H1 : Heap) (locs1 : List Loc), u = σ' → zz D cl tys A w s H0 H1 locs1 u → W p l e R s m args below meth c H1 locs1 cells slots Q (F0 m (pc + 3) ls rest)) : W p l e R s m args below meth c H locs cells slots Q (F0 m pc ls (v :: .ref a :: rest)) :=
  va_put hx hb hts hin ty0 hty hnm hown hZ.1 hZ.2.1 hZ.2.2.1 hZ.2.2.2 q0 he hc k hk (hts _ hlink) (fun _ h => h) hfin (hty k hk) hn hfit hl hdg (fun H1 locs1 h1 h2 h3 => kk σ' H1 locs1 rfl ⟨hZ.1, hs ▸ h1, hs ▸ h2, h3⟩)
theorem z_putN (hx : p.tables.exec = Jvm.exec) (hb : c.code = cc) {own C host : String} {T : u_T} {N ci index : Nat} {Ts nw : List Cond} (hg : nwg nw) (hnw : nwk nw s) (hts : ∀ w ∈ Ts, w.before args s = true) (hin : ∀ w ∈ u_ws C T N, w ∈ Ts) (ty0 : Nat → FieldType) (hty : ∀ k, k < N → parseFieldDescriptor (T k).2.2.1 = some (ty0 k)) (hnm : ∀ a, a < N → ∀ b, b < N → a ≠ b → (T a).2.1 ≠ (T b).2.1) (hown : s.vm.findClass own = some m.cls) (hZ : zz D cl tys A w s H0 H locs σ) (q0 : Nat) {fs : List Value} (he : (w σ)[q0]? = some (a, .inr (ci, fs))) (hc : cl[ci]? = some (C, T, N)) (k : Nat) (hk : k < N) (hlink : Cond.fieldLinkNest own index (T k).1 (T k).2.1 (T k).2.2.1 host ∈ nw) (hfin : (T k).2.2.2 = false) {v : Value} (hn : narrow (ty0 k) v = v) (hfit : fits (ty0 k) v = true) (hl : k < fs.length) (hdg : decode cc pc = .ok (.putfield index, 3)) {σ' : S} (hs : (w σ).set q0 (a, .inr (ci, fs.set k v)) = w σ')
    (kk : ∀ (u : S) (H1 : Heap) (locs1 : List Loc), u = σ' → zz D cl tys A w s H0 H1 locs1 u → W p l e R s m args below meth c H1 locs1 cells slots Q (F0 m (pc + 3) ls rest)) : W p l e R s m args below meth c H locs cells slots Q (F0 m pc ls (v :: .ref a :: rest)) :=
  va_putN hx hb hts hin ty0 hty hnm hown hZ.1 hZ.2.1 hZ.2.2.1 hZ.2.2.2 q0 he hc k hk (nwk_use hg hnw hlink) (fun _ h => h) hfin (hty k hk) hn hfit hl hdg (fun H1 locs1 h1 h2 h3 => kk σ' H1 locs1 rfl ⟨hZ.1, hs ▸ h1, hs ▸ h2, h3⟩)
theorem z_tdef (hx : p.tables.exec = Jvm.exec) (hb : c.code = cc) {dflt lo hi : Int} {offs : Array Int} {len : Nat} {x : Int32} {tgt : Nat} (hdg : decode cc pc = .ok (.tableswitch dflt lo hi offs, len)) (h : x.toInt < lo ∨ hi < x.toInt ∨ offs[(x.toInt - lo).toNat]? = some dflt) (ht : (pc : Int) + dflt = (tgt : Int))
    (k : W p l e R s m args below meth c H locs cells slots Q (F0 m tgt ls rest)) : W p l e R s m args below meth c H locs cells slots Q (F0 m pc ls (.int x :: rest)) := by
  by_cases h1 : x.toInt < lo
  · exact lv_tableOut hx hb hdg (Or.inl h1) ht k
  · by_cases h2 : hi < x.toInt
    · exact lv_tableOut hx hb hdg (Or.inr h2) ht k
    · exact lv_tableIn hx hb hdg h1 h2 (h.resolve_left h1 |>.resolve_left h2) ht k
/-! returns -/
theorem z_iret (hx : p.tables.exec = Jvm.exec) (hb : c.code = cc) (hr : meth.sig.returnType = some .int) (hlocks : meth.locks = false) (hZ : zz D cl tys A w s s.heap H locs σ) {v r : Int32} {u : S} (hv : v = r) (hu : σ = u) (hdg : decode cc pc = .ok (.ireturn, 1)) :
    W p l e R s m args below meth c H locs cells slots (MQ below (va_Qi (fun r' u' => r' = r ∧ u' = u) (zB D cl tys A w) A) args s cells slots A) (F0 m pc ls [.int v]) :=
  W.iret hx hb hr (fun t ht hW => ⟨⟨v, σ, rfl, ⟨hv, hu⟩, by rw [ht]; exact hZ.2.1, va_K.moved hW.alike hZ.1, hZ.2.2.1⟩, hZ.2.2.2.F ht⟩) hZ.2.2.2.2.2 hdg hlocks
theorem z_zret (hx : p.tables.exec = Jvm.exec) (hb : c.code = cc) (hr : meth.sig.returnType = some .boolean) (hlocks : meth.locks = false) (hZ : zz D cl tys A w s s.heap H locs σ) {v r : Int32} {u : S} (hn : narrow .boolean (.int v) = .int v) (hv : v = r) (hu : σ = u) (hdg : decode cc pc = .ok (.ireturn, 1)) :
    W p l e R s m args below meth c H locs cells slots (MQ below (va_Qi (fun r' u' => r' = r ∧ u' = u) (zB D cl tys A w) A) args s cells slots A) (F0 m pc ls [.int v]) :=
  W.zret hx hb hr hn (fun t ht hW => ⟨⟨v, σ, rfl, ⟨hv, hu⟩, by rw [ht]; exact hZ.2.1, va_K.moved hW.alike hZ.1, hZ.2.2.1⟩, hZ.2.2.2.F ht⟩) hZ.2.2.2.2.2 hdg hlocks
theorem z_lret (hx : p.tables.exec = Jvm.exec) (hb : c.code = cc) (hr : meth.sig.returnType = some .long) (hlocks : meth.locks = false) (hZ : zz D cl tys A w s s.heap H locs σ) {v r : Int64} {u : S} (hv : v = r) (hu : σ = u) (hdg : decode cc pc = .ok (.lreturn, 1)) :
    W p l e R s m args below meth c H locs cells slots (MQ below (va_Ql (fun r' u' => r' = r ∧ u' = u) (zB D cl tys A w) A) args s cells slots A) (F0 m pc ls [.long v]) :=
  W.lret hx hb hr (fun t ht hW => ⟨⟨v, σ, rfl, ⟨hv, hu⟩, by rw [ht]; exact hZ.2.1, va_K.moved hW.alike hZ.1, hZ.2.2.1⟩, hZ.2.2.2.F ht⟩) hZ.2.2.2.2.2 hdg hlocks
theorem z_vret (hx : p.tables.exec = Jvm.exec) (hb : c.code = cc) (hr : meth.sig.returnType = none) (hlocks : meth.locks = false) (hZ : zz D cl tys A w s s.heap H locs σ) {u : S} (hu : σ = u) (hdg : decode cc pc = .ok (.return_, 1)) :
    W p l e R s m args below meth c H locs cells slots (MQ below (va_Qv (fun u' => u' = u) (zB D cl tys A w) A) args s cells slots A) (F0 m pc ls []) :=
  W.vret hx hb hr (fun t ht hW => ⟨⟨σ, rfl, hu, by rw [ht]; exact hZ.2.1, va_K.moved hW.alike hZ.1, hZ.2.2.1⟩, hZ.2.2.2.F ht⟩) hZ.2.2.2.2.2 hdg hlocks
theorem z_piret (hx : p.tables.exec = Jvm.exec) (hb : c.code = cc) (hr : meth.sig.returnType = some .int) (hlocks : meth.locks = false) {v r : Int32} (hv : v = r) (hdg : decode cc pc = .ok (.ireturn, 1)) :
    W p l e R s m args below meth c s.heap [] cells slots (MQ below (vp_Si (fun r' => r' = r)) args s cells slots (fun _ => False)) (F0 m pc ls [.int v]) :=
  W.iret hx hb hr (fun t ht hW => ⟨v, rfl, hv, ht⟩) (fun q h => by cases h) hdg hlocks
theorem z_pzret (hx : p.tables.exec = Jvm.exec) (hb : c.code = cc) (hr : meth.sig.returnType = some .boolean) (hlocks : meth.locks = false) {v r : Int32} (hn : narrow .boolean (.int v) = .int v) (hv : v = r) (hdg : decode cc pc = .ok (.ireturn, 1)) :
    W p l e R s m args below meth c s.heap [] cells slots (MQ below (vp_Si (fun r' => r' = r)) args s cells slots (fun _ => False)) (F0 m pc ls [.int v]) :=
  W.zret hx hb hr hn (fun t ht hW => ⟨v, rfl, hv, ht⟩) (fun q h => by cases h) hdg hlocks
theorem z_plret (hx : p.tables.exec = Jvm.exec) (hb : c.code = cc) (hr : meth.sig.returnType = some .long) (hlocks : meth.locks = false) {v r : Int64} (hv : v = r) (hdg : decode cc pc = .ok (.lreturn, 1)) :
    W p l e R s m args below meth c s.heap [] cells slots (MQ below (vp_Sl (fun r' => r' = r)) args s cells slots (fun _ => False)) (F0 m pc ls [.long v]) :=
  W.lret hx hb hr (fun t ht hW => ⟨v, rfl, hv, ht⟩) (fun q h => by cases h) hdg hlocks
/-! behind a call -/
variable {st0 : List Value} {av : Array Value}
theorem z_calli {u : S} {r : Int32} (hr : va_Run p l e R s m args below meth c H locs cells slots 0 0 (F0 m pc ls st0) rest (va_Qi (fun r' u' => r' = r ∧ u' = u) (zB D cl tys A w) A av) A) (hZ : zz D cl tys A w s H0 H locs σ)
    (kk : ∀ (H1 : Heap) (locs1 : List Loc), zz D cl tys A w s H0 H1 locs1 u → W p l e R s m args below meth c H1 locs1 cells slots Q (F0 m (pc + 3) ls (.int r :: rest))) : W p l e R s m args below meth c H locs cells slots Q (F0 m pc ls st0) :=
  va_calli hr hZ.2.2.2 (fun _ _ h => h) (fun _ h => h) (fun r' u' t H1 locs1 ht hvm hw hB _ _ hS => by
    obtain ⟨rfl, rfl⟩ := hw
    exact kk H1 locs1 ⟨hZ.1, by rw [← ht]; exact hB.1, hB.2.2, hS⟩)
theorem z_calll {u : S} {r : Int64} (hr : va_Run p l e R s m args below meth c H locs cells slots 0 0 (F0 m pc ls st0) rest (va_Ql (fun r' u' => r' = r ∧ u' = u) (zB D cl tys A w) A av) A) (hZ : zz D cl tys A w s H0 H locs σ)
    (kk : ∀ (H1 : Heap) (locs1 : List Loc), zz D cl tys A w s H0 H1 locs1 u → W p l e R s m args below meth c H1 locs1 cells slots Q (F0 m (pc + 3) ls (.long r :: rest))) : W p l e R s m args below meth c H locs cells slots Q (F0 m pc ls st0) :=
  va_calll hr hZ.2.2.2 (fun _ _ h => h) (fun _ h => h) (fun r' u' t H1 locs1 ht hvm hw hB _ _ hS => by
    obtain ⟨rfl, rfl⟩ := hw
    exact kk H1 locs1 ⟨hZ.1, by rw [← ht]; exact hB.1, hB.2.2, hS⟩)
theorem z_callv {u : S} (hr : va_Run p l e R s m args below meth c H locs cells slots 0 0 (F0 m pc ls st0) rest (va_Qv (fun u' => u' = u) (zB D cl tys A w) A av) A) (hZ : zz D cl tys A w s H0 H locs σ)
    (kk : ∀ (H1 : Heap) (locs1 : List Loc), zz D cl tys A w s H0 H1 locs1 u → W p l e R s m args below meth c H1 locs1 cells slots Q (F0 m (pc + 3) ls (rest))) : W p l e R s m args below meth c H locs cells slots Q (F0 m pc ls st0) :=
  va_callv hr hZ.2.2.2 (fun _ _ h => h) (fun _ h => h) (fun u' t H1 locs1 ht hvm hw hB _ _ hS => by
    obtain rfl := hw
    exact kk H1 locs1 ⟨hZ.1, by rw [← ht]; exact hB.1, hB.2.2, hS⟩)
theorem z_pcalli {r : Int32} (hr : va_Run p l e R s m args below meth c H locs cells slots 0 0 (F0 m pc ls st0) rest (vp_Si (fun r' => r' = r) av) (fun _ => False))
    (kk : W p l e R s m args below meth c H locs cells slots Q (F0 m (pc + 3) ls (.int r :: rest))) : W p l e R s m args below meth c H locs cells slots Q (F0 m pc ls st0) :=
  vp_callSi hr.run (fun r' h => by obtain rfl := h; exact kk)
theorem z_pcalll {r : Int64} (hr : va_Run p l e R s m args below meth c H locs cells slots 0 0 (F0 m pc ls st0) rest (vp_Sl (fun r' => r' = r) av) (fun _ => False))
    (kk : W p l e R s m args below meth c H locs cells slots Q (F0 m (pc + 3) ls (.long r :: rest))) : W p l e R s m args below meth c H locs cells slots Q (F0 m pc ls st0) :=
  vp_callSl hr.run (fun r' h => by obtain rfl := h; exact kk)
/-! what a call's start has -/
def zN (D : va_G) (cl : List vw_C) (tys : List (ClassId × FieldType)) (A : Nat → Prop) {S : Type} (w : S → va_W) (nw : List Cond) (σ : S) (U : State) : Prop := zB D cl tys A w σ U ∧ nwk nw U
theorem z_preV {nw : List Cond} (hg : nwg nw) (hnw : nwk nw s) (hZ : zz D cl tys A w s H0 H locs σ) {ci q0 b : Nat} {fs : List Value} {q : vw_C} (hc : cl[ci]? = some q) (he : (w σ)[q0]? = some (b, .inr (ci, fs))) {As : List Value} : PreV s H q.1 b (va_Pc (.ref b :: As) (zN D cl tys A w nw σ)) As :=
  ⟨fun a U g mk h => ⟨h.1, ⟨h.2.1.1, va_K.moved (u := U) (U := U.calling g mk a) (Vm.Alike.refl U.vm) h.2.1.2.1, h.2.1.2.2⟩, nwk_same (s := U) (U := U.calling g mk a) hg rfl h.2.2⟩, va_recv hZ.1 hZ.2.1 hc he, fun U hU hW => ⟨rfl, ⟨by rw [hU]; exact hZ.2.1, va_K.moved hW.alike hZ.1, hZ.2.2.1⟩, nwk_warm hg hW hnw⟩⟩
theorem z_preS {nw : List Cond} (hg : nwg nw) (hnw : nwk nw s) (hZ : zz D cl tys A w s H0 H locs σ) {As : List Value} : PreS s H (va_Pc As (zN D cl tys A w nw σ)) As :=
  ⟨fun a U g mk h => ⟨h.1, ⟨h.2.1.1, va_K.moved (u := U) (U := U.calling g mk a) (Vm.Alike.refl U.vm) h.2.1.2.1, h.2.1.2.2⟩, nwk_same (s := U) (U := U.calling g mk a) hg rfl h.2.2⟩, fun U hU hW => ⟨rfl, ⟨by rw [hU]; exact hZ.2.1, va_K.moved hW.alike hZ.1, hZ.2.2.1⟩, nwk_warm hg hW hnw⟩⟩
theorem z_preP {As : List Value} : PreS s H (va_Pc As (fun _ => True)) As := ⟨fun _ _ _ _ h => h, fun _ _ _ => ⟨rfl, trivial⟩⟩
/-! calls -/
variable {y : MethodName} {bytes : ByteArray} {maxL nL n index : Nat} {ret : Option FieldType} {T : List Cond} {rm : Room} {Pc : Array Value → State → Prop} {Qc : Array Value → State → Outcome → State → Prop} {free : Addr → Prop} {own host : String} {b : Addr} {As : List Value} {g : JFrame}
theorem z_runV (F : CallFix p m c cc nL s args T own) (hgd : gdT T) (hM : Met l y (.code y bytes maxL ret :: T) rm Pc Qc 0 0 free) (hy : mV T y bytes maxL ret n) (hlink : Cond.methodLink own index y ∈ T) (hrc : rm.cells = 0) (hrs : rm.slots = 0) (hR : rm.frames + 1 ≤ R.frames ∧ 8 + (maxL + 11) + rm.locals ≤ R.locals) (hp : PreV s H y.cls b Pc As)
    (hg : g.method = m) (hn : As.length = n) (hsize : g.locals.size = nL) (hstack : g.stack = As.reverse ++ .ref b :: rest) (hW : 2 * g.monitorRoom + (rest.map fun v => v.category).sum ≤ 8) (hdg : decode cc g.pc = .ok (.invokevirtual index, 3)) (hf : cells + 0 ≤ R.cells ∧ slots + 0 ≤ R.slots) :
    va_Run p l e R s m args below meth c H locs cells slots 0 0 g rest (Qc (Value.ref b :: As).toArray) (free) :=
  va_runV F hM ⟨callB_of n F.2.2.2.2 (gdIn hgd hy.1) rfl hrc hrs (F.2.2.2.2 _ hy.2.1) (F.2.2.2.2 _ hlink) hy.2.2.1 hR, F.2.2.2.2 _ hy.2.2.2.1, F.2.2.2.2 _ hy.2.2.2.2⟩ hp hg hn hsize hstack hW hdg hf
theorem z_runVN (F : CallFix p m c cc nL s args T own) (hgd : gdT T) (hM : Met l y (.code y bytes maxL ret :: T) rm Pc Qc 0 0 free) (hy : mV T y bytes maxL ret n) {nw : List Cond} (hnw : nwk nw s) (hlink : Cond.methodLinkNest own index y host ∈ nw) (hrc : rm.cells = 0) (hrs : rm.slots = 0) (hR : rm.frames + 1 ≤ R.frames ∧ 8 + (maxL + 11) + rm.locals ≤ R.locals) (hp : PreV s H y.cls b Pc As)
    (hg : g.method = m) (hn : As.length = n) (hsize : g.locals.size = nL) (hstack : g.stack = As.reverse ++ .ref b :: rest) (hW : 2 * g.monitorRoom + (rest.map fun v => v.category).sum ≤ 8) (hdg : decode cc g.pc = .ok (.invokevirtual index, 3)) (hf : cells + 0 ≤ R.cells ∧ slots + 0 ≤ R.slots) :
    va_Run p l e R s m args below meth c H locs cells slots 0 0 g rest (Qc (Value.ref b :: As).toArray) (free) :=
  va_runVN F hM ⟨va_cnB n F.2.2.2.2 (gdIn hgd hy.1) rfl hrc hrs (hnw _ hlink) (F.2.2.2.2 _ hy.2.1) hy.2.2.1 hR, F.2.2.2.2 _ hy.2.2.2.1, F.2.2.2.2 _ hy.2.2.2.2⟩ hp hg hn hsize hstack hW hdg hf
theorem z_runS (F : CallFix p m c cc nL s args T own) (hgd : gdT T) (hM : Met l y (.code y bytes maxL ret :: T) rm Pc Qc 0 0 free) (hy : mS T y bytes maxL ret n) (hlink : Cond.methodLink own index y ∈ T) (hrc : rm.cells = 0) (hrs : rm.slots = 0) (hR : rm.frames + 1 ≤ R.frames ∧ 8 + (maxL + 11) + rm.locals ≤ R.locals) (hp : PreS s H Pc As)
    (hg : g.method = m) (hn : As.length = n) (hsize : g.locals.size = nL) (hstack : g.stack = As.reverse ++ rest) (hW : 2 * g.monitorRoom + (rest.map fun v => v.category).sum ≤ 8) (hdg : decode cc g.pc = .ok (.invokestatic index, 3)) (hf : cells + 0 ≤ R.cells ∧ slots + 0 ≤ R.slots) :
    va_Run p l e R s m args below meth c H locs cells slots 0 0 g rest (Qc As.toArray) (free) :=
  va_runS F hM ⟨callB_of n F.2.2.2.2 (gdIn hgd hy.1) rfl hrc hrs (F.2.2.2.2 _ hy.2.1) (F.2.2.2.2 _ hlink) hy.2.2.1 hR, F.2.2.2.2 _ hy.2.2.2⟩ hp hg hn hsize hstack hW hdg hf
theorem z_runSN (F : CallFix p m c cc nL s args T own) (hgd : gdT T) (hM : Met l y (.code y bytes maxL ret :: T) rm Pc Qc 0 0 free) (hy : mS T y bytes maxL ret n) {nw : List Cond} (hnw : nwk nw s) (hlink : Cond.methodLinkNest own index y host ∈ nw) (hrc : rm.cells = 0) (hrs : rm.slots = 0) (hR : rm.frames + 1 ≤ R.frames ∧ 8 + (maxL + 11) + rm.locals ≤ R.locals) (hp : PreS s H Pc As)
    (hg : g.method = m) (hn : As.length = n) (hsize : g.locals.size = nL) (hstack : g.stack = As.reverse ++ rest) (hW : 2 * g.monitorRoom + (rest.map fun v => v.category).sum ≤ 8) (hdg : decode cc g.pc = .ok (.invokestatic index, 3)) (hf : cells + 0 ≤ R.cells ∧ slots + 0 ≤ R.slots) :
    va_Run p l e R s m args below meth c H locs cells slots 0 0 g rest (Qc As.toArray) (free) :=
  va_runSN F hM ⟨va_cnB n F.2.2.2.2 (gdIn hgd hy.1) rfl hrc hrs (hnw _ hlink) (F.2.2.2.2 _ hy.2.1) hy.2.2.1 hR, F.2.2.2.2 _ hy.2.2.2, trivial⟩ hp hg hn hsize hstack hW hdg hf
end ZZ
