/-! what every method of the class and of the reference shares: the classes of arrays, the two static tables, a method's frame, its contract, a call -/
abbrev xG : Type := va_G × ClassId × ClassId × ClassId × Nat × Nat
abbrev xcI (g : xG) : ClassId := g.2.1
abbrev xcJ (g : xG) : ClassId := g.2.2.1
abbrev xcB (g : xG) : ClassId := g.2.2.2.1
abbrev xtS (g : xG) : Nat := g.2.2.2.2.1
abbrev xtM (g : xG) : Nat := g.2.2.2.2.2
abbrev xT (g : xG) : List (ClassId × FieldType) := [(xcI g, .int), (xcJ g, .long), (xcB g, .byte)]
def cSH : Nat → Int32 := fun j => [0, 4, 9, 15, 18, 21, 27].getD j 0
def cMA : Nat → Int32 := fun j => [15, 31, 63, 7, 7, 63, 7].getD j 0
def xZ (g : xG) (A : Nat → Prop) (U : State) (H : Heap) : Prop :=
  (va_Z "RandomModels$Things" "SHIFTS" "[I" (.ref (xtS g)) A U H ∧ va_T .int (xtS g) 7 (fun j => .int (cSH j)) A U H) ∧ (va_Z "RandomModels$Things" "MASKS" "[I" (.ref (xtM g)) A U H ∧ va_T .int (xtM g) 7 (fun j => .int (cMA j)) A U H ∧ va_Nw (.methodLinkNest RX6 36 yX0_init RX6) U)
theorem xZ.moved {g : xG} {A : Nat → Prop} {u U : State} {H : Heap} (hvm : u.vm.Alike U.vm) (hn : va_Nw (.methodLinkNest RX6 36 yX0_init RX6) u → va_Nw (.methodLinkNest RX6 36 yX0_init RX6) U) (h : xZ g A u H) : xZ g A U H := ⟨⟨h.1.1.moved hvm, h.1.2.moved hvm⟩, ⟨h.2.1.moved hvm, h.2.2.1.moved hvm, hn h.2.2.2⟩⟩
theorem xZ.call {g : xG} {A B : Nat → Prop} {U : State} {H0 H : Heap} {locs : List Loc} (h : xZ g A U H0) (hS : va_S A H0 H locs) (hAB : ∀ q, B q → A q) : xZ g B U H :=
  ⟨⟨(h.1.1.kept hS.2.1).narrow hAB, (h.1.2.kept hS.2.1).narrow hAB⟩, ⟨(h.2.1.kept hS.2.1).narrow hAB, (h.2.2.1.kept hS.2.1).narrow hAB, h.2.2.2⟩⟩
def vx (g : xG) (p : Program) (s : State) (m : MethodId) (args : Array Value) (meth : Method) (c : Code) (cc : ByteArray) (ret : Option FieldType) (nL : Nat) (y : MethodName) (ws : List Cond) (A : Nat → Prop) : Prop :=
  p.tables.exec = Jvm.exec ∧ c.code = cc ∧ meth.sig.returnType = ret ∧ c.maxLocals = nL ∧ s.vm.findClass y.cls = some m.cls ∧ meth.name = y.name ∧ (∀ w ∈ ws, w.before args s = true) ∧ meth.locks = false ∧ (∀ q : Nat, s.heap.size ≤ q → A q) ∧ va_K g.1 vwCl (xT g) s ∧ xZ g A s s.heap
def xPc (g : xG) (sz : Nat) (wc : va_W) (av : List Value) : Array Value → State → Prop := va_Pc av (fun U => U.heap.size = sz ∧ va_P g.1 vwCl wc U.heap ∧ va_K g.1 vwCl (xT g) U ∧ va_D (fun _ => True) wc ∧ xZ g (va_A wc sz) U U.heap)
def xBd {S : Type} (g : xG) (A : Nat → Prop) (w1 : S → va_W) : S → State → Prop := fun u t => va_P g.1 vwCl (w1 u) t.heap ∧ va_K g.1 vwCl (xT g) t ∧ va_D A (w1 u)
def xQi {S : Type} (g : xG) (post : Int32 → S → Prop) (w1 : S → va_W) (A : Nat → Prop) : Array Value → State → Outcome → State → Prop := va_Qi post (xBd g A w1) A
def xQl {S : Type} (g : xG) (post : Int64 → S → Prop) (w1 : S → va_W) (A : Nat → Prop) : Array Value → State → Outcome → State → Prop := va_Ql post (xBd g A w1) A
def xQv {S : Type} (g : xG) (post : S → Prop) (w1 : S → va_W) (A : Nat → Prop) : Array Value → State → Outcome → State → Prop := va_Qv post (xBd g A w1) A
abbrev xM (l : Launch) (y : MethodName) (ws : List Cond) (rm : Room) (g : xG) (sz : Nat) (wc : va_W) (av : List Value) (Qc : (Nat → Prop) → Array Value → State → Outcome → State → Prop) (mc ms : Nat) : Prop := Met l y ws rm (xPc g sz wc av) (Qc (va_A wc sz)) mc ms (va_A wc sz)
theorem xPc.blind (g : xG) (sz : Nat) (wc : va_W) (av : List Value) : FrameBlind (xPc g sz wc av) := fun a U gg mk q => by
  obtain ⟨q0, q1, qP, qK, qD, qZ⟩ := q
  exact ⟨q0, q1, qP, va_K.moved (u := U) (U := U.calling gg mk a) (Vm.Alike.refl U.vm) qK, qD, xZ.moved (u := U) (U := U.calling gg mk a) (Vm.Alike.refl U.vm) (fun z => va_Nw.same rfl rfl z) qZ⟩
theorem xmet {l : Launch} {y : MethodName} {ws ws' : List Cond} {rm : Room} {cc : ByteArray} {maxL : Nat} {ret : Option FieldType} {g : xG} {sz : Nat} {wc : va_W} {av : List Value} {mc ms : Nat} {Qc : (Nat → Prop) → Array Value → State → Outcome → State → Prop}
    (hy : plainName y.cls = true) (hw : ws = Cond.code y cc maxL ret :: ws') (hav : (lg_sl av).length ≤ maxL)
    (body : ∀ (p : Program) (e : Env) (s : State) (m : MethodId) (args : Array Value) (below : List Frame) (meth : Method) (c : Code) (A : Nat → Prop) (ls : Array Slot) (H : Heap) (locs : List Loc), vx g p s m args meth c cc ret maxL y ws A → va_P g.1 vwCl wc H → va_D A wc → va_S A s.heap H locs → lv_has ls maxL (lv_args 0 av) → W p l e rm s m args below meth c H locs 0 0 (MQ below (Qc A) args s mc ms A) (F0 m 0 ls [])) :
    xM l y ws rm g sz wc av Qc mc ms := by
  refine Met.ofW (cc := cc) (maxL := maxL) (ret := ret) hy hw ?_
  intro p e s m args below meth c s₁ B hml hv
  obtain ⟨rfl, hsz, hP, hK, hD0, hZ⟩ := hv
  have hts := atoms_spec (ws := ws) B.pre
  have hown : s.vm.findClass y.cls = some m.cls := findClass_of_methodNamed B.named
  have hin := (name_of_methodNamed B.named B.method).1
  subst hsz
  have hD := hD0.self (sz := s.heap.size)
  have hA : ∀ q : Nat, s.heap.size ≤ q → va_A wc s.heap.size q := fun q h => Or.inr h
  have hl := lv_entry av (n := maxL) hav
  rw [lg_entry_eq]
  exact body p e s m _ below meth c _ _ s.heap [] ⟨B.exec, B.bytes, B.returns, hml, hown, hin, hts, B.notSynchronized, hA, hK, hZ⟩ hP hD va_S.rf hl
section XC
variable {p : Program} {l : Launch} {e : Env} {R : Room} {s : State} {m : MethodId} {args : Array Value} {below : List Frame} {meth : Method} {c : Code} {H : Heap} {locs : List Loc} {cells slots : Nat} {Q : State → Prop}
variable {cc bytes : ByteArray} {ret : Option FieldType} {nL : Nat} {y0 y : MethodName} {Ts ws : List Cond} {A : Nat → Prop} {g : xG} {rm : Room} {mc ms n index maxL pc : Nat} {own C : String} {b : Addr} {As rest st0 : List Value} {ls : Array Slot} {wA wc wr : va_W} {S : Type} {w1 : S → va_W} {Qa : State → Outcome → State → Prop}
/-- what a call needs of the state, from the caller's context -/
theorem xcut (C0 : vx g p s m args meth c cc ret nL y0 Ts A) (hP : va_P g.1 vwCl wA H) (hD : va_D A wA) (hS : va_S A s.heap H locs) (isC : List Nat) (hn : va_nd isC = true) (hC1 : isC.filterMap (fun i => wA[i]?) = wc) (hC : isC.map (fun i => wA[i]?) = wc.map some) :
    (∀ q, va_A wc H.size q → A q) ∧ va_P g.1 vwCl wc H ∧ ∀ (av : List Value) (U : State), U.heap = H → s.WarmedH U.vm → xPc g H.size wc av av.toArray U := by
  obtain ⟨hx, hb, hr, hml, hown, hin, hts, hlocks, hA, hK, hZ⟩ := C0
  have hF := va_free (wc := wc) hD hS hA isC hC
  have hPc := hP.sub (ws' := wc) isC hC1
  have hDc := hD.sub (ws' := wc) isC hn hC
  refine ⟨hF, hPc, fun av U hU hW => ⟨rfl, by rw [hU], by rw [hU]; exact hPc, va_K.moved hW.alike hK, hDc.weaken (fun _ _ _ _ => trivial), ?_⟩⟩
  rw [hU]
  exact (hZ.call hS hF).moved hW.alike (fun z => va_Nw.warmM hW z)
theorem xback (hP : va_P g.1 vwCl wA H) (hD : va_D A wA) (isC isR : List Nat) (hC : isC.map (fun i => wA[i]?) = wc.map some) (hR : isR.map (fun i => wA[i]?) = wr.map some) (hn : va_nd isR = true) (hdis : ∀ i ∈ isR, i ∉ isC) {H1 : Heap} {t : State} {u : S} (ht : t.heap = H1)
    (hk : ∀ q : Nat, q < H.size → ¬ va_A wc H.size q → H1[q]? = H[q]?) (hF : ∀ q, va_A wc H.size q → A q) (hB : xBd g (va_A wc H.size) w1 u t) : va_P g.1 vwCl (wr ++ w1 u) H1 ∧ va_D A (wr ++ w1 u) := by
  obtain ⟨hP1, hK1, hD1⟩ := hB
  rw [ht] at hP1
  exact va_join hP hD isC isR hC hR hn hdis hk hF hP1 hD1
theorem xi {post : Int32 → S → Prop} {a : Array Value} (hr : (∀ q, va_A wc H.size q → A q) → va_P g.1 vwCl wc H → (∀ (av : List Value) (U : State), U.heap = H → s.WarmedH U.vm → xPc g H.size wc av av.toArray U) → va_Run p l e R s m args below meth c H locs cells slots mc ms (F0 m pc ls st0) rest (xQi g post w1 (va_A wc H.size) a) (va_A wc H.size))
    (C0 : vx g p s m args meth c cc ret nL y0 Ts A) (hP : va_P g.1 vwCl wA H) (hD : va_D A wA) (hS : va_S A s.heap H locs) (isC isR : List Nat) (hnC : va_nd isC = true) (hC1 : isC.filterMap (fun i => wA[i]?) = wc) (hC : isC.map (fun i => wA[i]?) = wc.map some) (hR : isR.map (fun i => wA[i]?) = wr.map some) (hn : va_nd isR = true) (hdis : ∀ i ∈ isR, i ∉ isC)
    (kk : ∀ (r : Int32) (u : S) (H1 : Heap) (locs1 : List Loc), post r u → va_P g.1 vwCl (wr ++ w1 u) H1 → va_D A (wr ++ w1 u) → va_S A s.heap H1 locs1 → W p l e R s m args below meth c H1 locs1 (cells + mc) (slots + ms) Q (F0 m (pc + 3) ls (.int r :: rest))) : W p l e R s m args below meth c H locs cells slots Q (F0 m pc ls st0) := by
  obtain ⟨hF, hPc, hU⟩ := xcut C0 hP hD hS isC hnC hC1 hC
  refine va_calli (hr hF hPc hU) hS (fun q _ h => hF q h) hF (fun r u t H1 locs1 ht hvm hw hB hz1 hk1 hS1 => ?_)
  obtain ⟨hP1, hD1⟩ := xback hP hD isC isR hC hR hn hdis ht hk1 hF hB
  exact kk r u H1 locs1 hw hP1 hD1 hS1
theorem xl {post : Int64 → S → Prop} {a : Array Value} (hr : (∀ q, va_A wc H.size q → A q) → va_P g.1 vwCl wc H → (∀ (av : List Value) (U : State), U.heap = H → s.WarmedH U.vm → xPc g H.size wc av av.toArray U) → va_Run p l e R s m args below meth c H locs cells slots mc ms (F0 m pc ls st0) rest (xQl g post w1 (va_A wc H.size) a) (va_A wc H.size))
    (C0 : vx g p s m args meth c cc ret nL y0 Ts A) (hP : va_P g.1 vwCl wA H) (hD : va_D A wA) (hS : va_S A s.heap H locs) (isC isR : List Nat) (hnC : va_nd isC = true) (hC1 : isC.filterMap (fun i => wA[i]?) = wc) (hC : isC.map (fun i => wA[i]?) = wc.map some) (hR : isR.map (fun i => wA[i]?) = wr.map some) (hn : va_nd isR = true) (hdis : ∀ i ∈ isR, i ∉ isC)
    (kk : ∀ (r : Int64) (u : S) (H1 : Heap) (locs1 : List Loc), post r u → va_P g.1 vwCl (wr ++ w1 u) H1 → va_D A (wr ++ w1 u) → va_S A s.heap H1 locs1 → W p l e R s m args below meth c H1 locs1 (cells + mc) (slots + ms) Q (F0 m (pc + 3) ls (.long r :: rest))) : W p l e R s m args below meth c H locs cells slots Q (F0 m pc ls st0) := by
  obtain ⟨hF, hPc, hU⟩ := xcut C0 hP hD hS isC hnC hC1 hC
  refine va_calll (hr hF hPc hU) hS (fun q _ h => hF q h) hF (fun r u t H1 locs1 ht hvm hw hB hz1 hk1 hS1 => ?_)
  obtain ⟨hP1, hD1⟩ := xback hP hD isC isR hC hR hn hdis ht hk1 hF hB
  exact kk r u H1 locs1 hw hP1 hD1 hS1
theorem xv {post : S → Prop} {a : Array Value} (hr : (∀ q, va_A wc H.size q → A q) → va_P g.1 vwCl wc H → (∀ (av : List Value) (U : State), U.heap = H → s.WarmedH U.vm → xPc g H.size wc av av.toArray U) → va_Run p l e R s m args below meth c H locs cells slots mc ms (F0 m pc ls st0) rest (xQv g post w1 (va_A wc H.size) a) (va_A wc H.size))
    (C0 : vx g p s m args meth c cc ret nL y0 Ts A) (hP : va_P g.1 vwCl wA H) (hD : va_D A wA) (hS : va_S A s.heap H locs) (isC isR : List Nat) (hnC : va_nd isC = true) (hC1 : isC.filterMap (fun i => wA[i]?) = wc) (hC : isC.map (fun i => wA[i]?) = wc.map some) (hR : isR.map (fun i => wA[i]?) = wr.map some) (hn : va_nd isR = true) (hdis : ∀ i ∈ isR, i ∉ isC)
    (kk : ∀ (u : S) (H1 : Heap) (locs1 : List Loc), post u → va_P g.1 vwCl (wr ++ w1 u) H1 → va_D A (wr ++ w1 u) → va_S A s.heap H1 locs1 → W p l e R s m args below meth c H1 locs1 (cells + mc) (slots + ms) Q (F0 m (pc + 3) ls rest)) : W p l e R s m args below meth c H locs cells slots Q (F0 m pc ls st0) := by
  obtain ⟨hF, hPc, hU⟩ := xcut C0 hP hD hS isC hnC hC1 hC
  refine va_callv (hr hF hPc hU) hS (fun q _ h => hF q h) hF (fun u t H1 locs1 ht hvm hw hB hz1 hk1 hS1 => ?_)
  obtain ⟨hP1, hD1⟩ := xback hP hD isC isR hC hR hn hdis ht hk1 hF hB
  exact kk u H1 locs1 hw hP1 hD1 hS1
/-- invokevirtual: the run -/
theorem xrV {Qc : (Nat → Prop) → Array Value → State → Outcome → State → Prop} (C0 : vx g p s m args meth c cc ret nL y0 Ts A) (hl : ls.size = nL) (hM : xM l y ws rm g H.size wc (.ref b :: As) Qc mc ms) {ret' : Option FieldType} (cw : CallW R s args y0.cls C index y bytes maxL ret' ws rm mc ms n) (q0 ci : Nat) {fs : List Value} {q : vw_C} (he : wc[q0]? = some (b, .inr (ci, fs))) (hc : vwCl[ci]? = some q) (hq : q.1 = C)
    (hn : As.length = n) (hstack : st0 = As.reverse ++ .ref b :: rest) (hW : (rest.map fun v => v.category).sum ≤ 8) (hdg : decode cc pc = .ok (.invokevirtual index, 3)) (hf : cells + mc ≤ R.cells ∧ slots + ms ≤ R.slots) :
    (∀ q, va_A wc H.size q → A q) → va_P g.1 vwCl wc H → (∀ (av : List Value) (U : State), U.heap = H → s.WarmedH U.vm → xPc g H.size wc av av.toArray U) → va_Run p l e R s m args below meth c H locs cells slots mc ms (F0 m pc ls st0) rest (Qc (va_A wc H.size) (Value.ref b :: As).toArray) (va_A wc H.size) := by
  intro hF hPc hU
  obtain ⟨hx, hb, hr, hml, hown, hin, hts, hlocks, hA, hK, hZ⟩ := C0
  subst hq
  exact va_runV (As := As) (rest := rest) ⟨hx, hb, hml, hown, hts⟩ hM cw ⟨xPc.blind g H.size wc _, va_recv hK hPc hc he, fun U h1 h2 => hU _ U h1 h2⟩ rfl hn hl hstack (lv_room hW) hdg hf
/-- invokestatic: the run -/
theorem xrS {Qc : (Nat → Prop) → Array Value → State → Outcome → State → Prop} (C0 : vx g p s m args meth c cc ret nL y0 Ts A) (hl : ls.size = nL) (hM : xM l y ws rm g H.size wc As Qc mc ms) {ret' : Option FieldType} (cw : CallB R s args y0.cls index y bytes maxL ret' ws rm mc ms n ∧ (Cond.static y).before args s = true)
    (hn : As.length = n) (hstack : st0 = As.reverse ++ rest) (hW : (rest.map fun v => v.category).sum ≤ 8) (hdg : decode cc pc = .ok (.invokestatic index, 3)) (hf : cells + mc ≤ R.cells ∧ slots + ms ≤ R.slots) :
    (∀ q, va_A wc H.size q → A q) → va_P g.1 vwCl wc H → (∀ (av : List Value) (U : State), U.heap = H → s.WarmedH U.vm → xPc g H.size wc av av.toArray U) → va_Run p l e R s m args below meth c H locs cells slots mc ms (F0 m pc ls st0) rest (Qc (va_A wc H.size) As.toArray) (va_A wc H.size) := by
  intro hF hPc hU
  obtain ⟨hx, hb, hr, hml, hown, hin, hts, hlocks, hA, hK, hZ⟩ := C0
  exact va_runS (As := As) (rest := rest) ⟨hx, hb, hml, hown, hts⟩ hM cw ⟨xPc.blind g H.size wc _, fun U h1 h2 => hU _ U h1 h2⟩ rfl hn hl hstack (lv_room hW) hdg hf
/-- invokespecial of a constructor: the run -/
theorem xrI {Qc : (Nat → Prop) → Array Value → State → Outcome → State → Prop} (C0 : vx g p s m args meth c cc ret nL y0 Ts A) (hl : ls.size = nL) (hM : xM l y ws rm g H.size wc (.ref b :: As) Qc mc ms) (cw : CallB R s args y0.cls index y bytes maxL none ws rm mc ms n ∧ y.name = "<init>" ∧ (Cond.instanceMethod y).before args s = true)
    (hn : As.length = n) (hstack : st0 = As.reverse ++ .ref b :: rest) (hW : (rest.map fun v => v.category).sum ≤ 8) (hdg : decode cc pc = .ok (.invokespecial index, 3)) (hf : cells + mc ≤ R.cells ∧ slots + ms ≤ R.slots) :
    (∀ q, va_A wc H.size q → A q) → va_P g.1 vwCl wc H → (∀ (av : List Value) (U : State), U.heap = H → s.WarmedH U.vm → xPc g H.size wc av av.toArray U) → va_Run p l e R s m args below meth c H locs cells slots mc ms (F0 m pc ls st0) rest (Qc (va_A wc H.size) (Value.ref b :: As).toArray) (va_A wc H.size) := by
  intro hF hPc hU
  obtain ⟨hx, hb, hr, hml, hown, hin, hts, hlocks, hA, hK, hZ⟩ := C0
  exact va_runI (As := As) (rest := rest) ⟨hx, hb, hml, hown, hts⟩ hM cw ⟨xPc.blind g H.size wc _, fun U h1 h2 => hU _ U h1 h2⟩ rfl hn hl hstack (lv_room hW) hdg hf
/-- invokespecial of a nest mate's private constructor: the run -/
theorem xrIN {Qc : (Nat → Prop) → Array Value → State → Outcome → State → Prop} {host : String} (C0 : vx g p s m args meth c cc ret nL y0 Ts A) (hl : ls.size = nL) (hM : xM l y ws rm g H.size wc (.ref b :: As) Qc mc ms) (cw : va_CN R s args y0.cls index y host bytes maxL none ws rm mc ms n ∧ y.name = "<init>" ∧ (Cond.instanceMethod y).before args s = true)
    (hn : As.length = n) (hstack : st0 = As.reverse ++ .ref b :: rest) (hW : (rest.map fun v => v.category).sum ≤ 8) (hdg : decode cc pc = .ok (.invokespecial index, 3)) (hf : cells + mc ≤ R.cells ∧ slots + ms ≤ R.slots) :
    (∀ q, va_A wc H.size q → A q) → va_P g.1 vwCl wc H → (∀ (av : List Value) (U : State), U.heap = H → s.WarmedH U.vm → xPc g H.size wc av av.toArray U) → va_Run p l e R s m args below meth c H locs cells slots mc ms (F0 m pc ls st0) rest (Qc (va_A wc H.size) (Value.ref b :: As).toArray) (va_A wc H.size) := by
  intro hF hPc hU
  obtain ⟨hx, hb, hr, hml, hown, hin, hts, hlocks, hA, hK, hZ⟩ := C0
  exact va_runIN (As := As) (rest := rest) ⟨hx, hb, hml, hown, hts⟩ hM cw ⟨xPc.blind g H.size wc _, fun U h1 h2 => hU _ U h1 h2⟩ rfl hn hl hstack (lv_room hW) hdg hf
end XC
section XR
variable {p : Program} {l : Launch} {e : Env} {R : Room} {s : State} {m : MethodId} {args : Array Value} {below : List Frame} {meth : Method} {c : Code} {H : Heap} {locs : List Loc} {cells slots : Nat}
variable {cc : ByteArray} {nL pc : Nat} {y0 : MethodName} {Ts : List Cond} {A : Nat → Prop} {g : xG} {ls : Array Slot} {S : Type} {w1 : S → va_W}
theorem xreti {post : Int32 → S → Prop} {v : Int32} (u : S) (C0 : vx g p s m args meth c cc (some .int) nL y0 Ts A) (hP : va_P g.1 vwCl (w1 u) H) (hD : va_D A (w1 u)) (hS : va_S A s.heap H locs) (h : post v u) (hdg : decode cc pc = .ok (.ireturn, 1)) : W p l e R s m args below meth c H locs cells slots (MQ below (xQi g post w1 A) args s cells slots A) (F0 m pc ls [.int v]) := by
  obtain ⟨hx, hb, hr, hml, hown, hin, hts, hlocks, hA, hK, hZ⟩ := C0
  exact W.iret hx hb hr (fun t ht hW => ⟨⟨v, u, rfl, h, by rw [ht]; exact hP, va_K.moved hW.alike hK, hD⟩, hS.F ht⟩) hS.2.2 hdg hlocks
theorem xretz {post : Int32 → S → Prop} {v : Int32} (u : S) (C0 : vx g p s m args meth c cc (some .boolean) nL y0 Ts A) (hn : narrow .boolean (.int v) = .int v) (hP : va_P g.1 vwCl (w1 u) H) (hD : va_D A (w1 u)) (hS : va_S A s.heap H locs) (h : post v u) (hdg : decode cc pc = .ok (.ireturn, 1)) : W p l e R s m args below meth c H locs cells slots (MQ below (xQi g post w1 A) args s cells slots A) (F0 m pc ls [.int v]) := by
  obtain ⟨hx, hb, hr, hml, hown, hin, hts, hlocks, hA, hK, hZ⟩ := C0
  exact W.zret hx hb hr hn (fun t ht hW => ⟨⟨v, u, rfl, h, by rw [ht]; exact hP, va_K.moved hW.alike hK, hD⟩, hS.F ht⟩) hS.2.2 hdg hlocks
theorem xretl {post : Int64 → S → Prop} {v : Int64} (u : S) (C0 : vx g p s m args meth c cc (some .long) nL y0 Ts A) (hP : va_P g.1 vwCl (w1 u) H) (hD : va_D A (w1 u)) (hS : va_S A s.heap H locs) (h : post v u) (hdg : decode cc pc = .ok (.lreturn, 1)) : W p l e R s m args below meth c H locs cells slots (MQ below (xQl g post w1 A) args s cells slots A) (F0 m pc ls [.long v]) := by
  obtain ⟨hx, hb, hr, hml, hown, hin, hts, hlocks, hA, hK, hZ⟩ := C0
  exact W.lret hx hb hr (fun t ht hW => ⟨⟨v, u, rfl, h, by rw [ht]; exact hP, va_K.moved hW.alike hK, hD⟩, hS.F ht⟩) hS.2.2 hdg hlocks
theorem xretv {post : S → Prop} (u : S) (C0 : vx g p s m args meth c cc none nL y0 Ts A) (hP : va_P g.1 vwCl (w1 u) H) (hD : va_D A (w1 u)) (hS : va_S A s.heap H locs) (h : post u) (hdg : decode cc pc = .ok (.return_, 1)) : W p l e R s m args below meth c H locs cells slots (MQ below (xQv g post w1 A) args s cells slots A) (F0 m pc ls []) := by
  obtain ⟨hx, hb, hr, hml, hown, hin, hts, hlocks, hA, hK, hZ⟩ := C0
  exact W.vret hx hb hr (fun t ht hW => ⟨⟨u, rfl, h, by rw [ht]; exact hP, va_K.moved hW.alike hK, hD⟩, hS.F ht⟩) hS.2.2 hdg hlocks
/-- the class of int arrays is one -/
theorem xarr {g : xG} {s : State} {cA : ClassId} {ty : FieldType} {k : Nat} {cX : ClassId} (hprim : ∀ C, ty ≠ .object C) (hK : va_K g.1 vwCl (xT g ++ [(cA, ty)]) s) (hk : (xT g)[k]? = some (cX, ty)) : cA = cX := by
  have h1 := (hK.2 3 (cA, ty) rfl).2
  have h2 := (hK.2 k (cX, ty) (by rw [List.getElem?_append_left (List.getElem?_eq_some_iff.mp hk).1]; exact hk)).2
  cases ty <;> first | exact absurd rfl (hprim _) | exact Option.some.inj (h1.symm.trans h2)
end XR
