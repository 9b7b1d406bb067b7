/-! CALLS over chunk worlds: first the run of a callee by its contract, then what the caller has behind it -/
def kn_Qi (D : va_G) (tc : Nat → ClassId) (w0 : List CH) {S : Type} (w' : S → List CH) (post : Int32 → S → Prop) (below : List Frame) (args : Array Value) (s : State) (mc ms : Nat) : State → Prop := MQ below (va_Qi post (kn_O D tc w' (kn_A w0 s.heap.size)) (kn_A w0 s.heap.size)) args s mc ms (kn_A w0 s.heap.size)
def kn_Ql (D : va_G) (tc : Nat → ClassId) (w0 : List CH) {S : Type} (w' : S → List CH) (post : Int64 → S → Prop) (below : List Frame) (args : Array Value) (s : State) (mc ms : Nat) : State → Prop := MQ below (va_Ql post (kn_O D tc w' (kn_A w0 s.heap.size)) (kn_A w0 s.heap.size)) args s mc ms (kn_A w0 s.heap.size)
def kn_Qv (D : va_G) (tc : Nat → ClassId) (w0 : List CH) {S : Type} (w' : S → List CH) (post : S → Prop) (below : List Frame) (args : Array Value) (s : State) (mc ms : Nat) : State → Prop := MQ below (va_Qv post (kn_O D tc w' (kn_A w0 s.heap.size)) (kn_A w0 s.heap.size)) args s mc ms (kn_A w0 s.heap.size)
def kn_Qq (D : va_G) (tc : Nat → ClassId) (w0 : List CH) {S : Type} (w' : S → List CH) (post : Option Nat → S → Prop) (below : List Frame) (args : Array Value) (s : State) (mc ms : Nat) : State → Prop := MQ below (va_Qq post (kn_O D tc w' (kn_A w0 s.heap.size)) (kn_A w0 s.heap.size)) args s mc ms (kn_A w0 s.heap.size)
/-- what holds all through a method: the machine, its tables, its String constants -/
def kn_X (p : Program) (s : State) (m : MethodId) (args : Array Value) (meth : Method) (c : Code) (cc : ByteArray) (nL : Nat) (ret : Option FieldType) (own : String) (Ts : List Cond) (D : va_G) (tc : Nat → ClassId) (Z : (Nat → Nat) × (Nat → Nat)) (A : Nat → Prop) : Prop := CallFix p m c cc nL s args Ts own ∧ meth.sig.returnType = ret ∧ meth.locks = false ∧ va_K D vwCl (kn_tys tc) s ∧ kn_Z Z A s s.heap ∧ ∀ q, s.heap.size ≤ q → A q
section KNC
variable {p : Program} {l : Launch} {e : Env} {R : Room} {s : State} {m : MethodId} {args : Array Value} {below : List Frame} {meth : Method} {c : Code} {H : Heap} {locs : List Loc} {cells slots : Nat} {Q : State → Prop}
variable {cc bytes : ByteArray} {pc : Nat} {ls : Array Slot} {D : va_G} {tc : Nat → ClassId} {Z : (Nat → Nat) × (Nat → Nat)} {A : Nat → Prop} {H0 : Heap} {w wc wr : List CH}
variable {own C host : String} {index maxL nL mc ms n : Nat} {Ts ws : List Cond} {y : MethodName} {ret : Option FieldType} {rm : Room} {b : Addr} {As rest st0 : List Value} {T : u_T} {N ci : Nat} {fl : List Nat} {al : List (Nat × Nat × Nat)} {ad : Nat → Nat} {v : OV}
theorem kn_pre (I : kn_I D tc A s.heap w H locs) (hK : va_K D vwCl (kn_tys tc) s) (hZ : kn_Z Z A s s.heap) (hA : ∀ q, s.heap.size ≤ q → A q) (isC : List Nat) (hC : isC.map (fun i => w[i]?) = wc.map some) (hn : va_nd isC = true) : ∀ U : State, U.heap = H → s.WarmedH U.vm → kn_B D tc Z wc H.size U := fun U hU hW => ⟨by rw [hU], by rw [hU]; exact I.1.sub isC hC, va_K.moved hW.alike hK, I.2.1.sub isC hn hC (fun _ _ _ _ _ _ => trivial), hZ.call I.2.2 (kn_free I hA isC hC) hU hW⟩
theorem kn_recv (I : kn_I D tc A H0 w H locs) (hK : va_K D vwCl (kn_tys tc) s) (i : Nat) (hw : w[i]? = some ((some (ci, fl), al), ad, v)) (hb0 : ad 0 = b) (hc : vwCl[ci]? = some (C, T, N)) : ∃ cell : Cell, H[b]? = some cell ∧ cell.vm.isStatics = false ∧ s.vm.findClass C = some cell.cls := by
  obtain ⟨-, q0, hq⟩ := kn_cellO (tc := tc) hw
  rw [hb0] at hq
  exact va_recv hK I.1 hc hq
/-- the four ways to run a callee; Qc is any of the contracts' ends -/
theorem kn_runV (S0 : CallFix p m c cc nL s args Ts own) (hK : va_K D vwCl (kn_tys tc) s) (hZ : kn_Z Z A s s.heap) (hA : ∀ q, s.heap.size ≤ q → A q) (I : kn_I D tc A s.heap w H locs) {Qc : Array Value → State → Outcome → State → Prop} {free : Addr → Prop} (hM : Met l y ws rm (va_Pc (.ref b :: As) (kn_B D tc Z wc H.size)) Qc mc ms free) (cw : CallW R s args own C index y bytes maxL ret ws rm mc ms n) (isC : List Nat) (hC : isC.map (fun i => w[i]?) = wc.map some) (hn : va_nd isC = true) (i : Nat) (hw : w[i]? = some ((some (ci, fl), al), ad, v)) (hb0 : ad 0 = b) (hc : vwCl[ci]? = some (C, T, N)) (hlen : As.length = n) (hsize : ls.size = nL) (hst : st0 = As.reverse ++ .ref b :: rest) (hW : (rest.map fun v => v.category).sum ≤ 8) (hdg : decode cc pc = .ok (.invokevirtual index, 3)) (hf : cells + mc ≤ R.cells ∧ slots + ms ≤ R.slots) :
    va_Run p l e R s m args below meth c H locs cells slots mc ms (F0 m pc ls st0) rest (Qc (Value.ref b :: As).toArray) free :=
  va_runV (As := As) (rest := rest) S0 hM cw ⟨kn_blind, kn_recv I hK i hw hb0 hc, fun U hU hW => ⟨rfl, kn_pre I hK hZ hA isC hC hn U hU hW⟩⟩ rfl hlen hsize hst (lv_room hW) hdg hf
theorem kn_runVR (S0 : CallFix p m c cc nL s args Ts own) (hK : va_K D vwCl (kn_tys tc) s) (hZ : kn_Z Z A s s.heap) (hA : ∀ q, s.heap.size ≤ q → A q) (I : kn_I D tc A s.heap w H locs) {Qc : Array Value → State → Outcome → State → Prop} {free : Addr → Prop} (hM : Met l y ws rm (va_Pc (.ref b :: As) (kn_B D tc Z wc H.size)) Qc mc ms free) (cw : CallW R s args own C index y bytes maxL ret ws rm mc ms n) (isC : List Nat) (hC : isC.map (fun i => w[i]?) = wc.map some) (hn : va_nd isC = true) (hrec : ∃ cell : Cell, H[b]? = some cell ∧ cell.vm.isStatics = false ∧ s.vm.findClass C = some cell.cls) (hlen : As.length = n) (hsize : ls.size = nL) (hst : st0 = As.reverse ++ .ref b :: rest) (hW : (rest.map fun v => v.category).sum ≤ 8) (hdg : decode cc pc = .ok (.invokevirtual index, 3)) (hf : cells + mc ≤ R.cells ∧ slots + ms ≤ R.slots) :
    va_Run p l e R s m args below meth c H locs cells slots mc ms (F0 m pc ls st0) rest (Qc (Value.ref b :: As).toArray) free :=
  va_runV (As := As) (rest := rest) S0 hM cw ⟨kn_blind, hrec, fun U hU hW => ⟨rfl, kn_pre I hK hZ hA isC hC hn U hU hW⟩⟩ rfl hlen hsize hst (lv_room hW) hdg hf
theorem kn_runS (S0 : CallFix p m c cc nL s args Ts own) (hK : va_K D vwCl (kn_tys tc) s) (hZ : kn_Z Z A s s.heap) (hA : ∀ q, s.heap.size ≤ q → A q) (I : kn_I D tc A s.heap w H locs) {Qc : Array Value → State → Outcome → State → Prop} {free : Addr → Prop} (hM : Met l y ws rm (va_Pc As (kn_B D tc Z wc H.size)) Qc mc ms free) (cw : CallB R s args own index y bytes maxL ret ws rm mc ms n ∧ (Cond.static y).before args s = true) (isC : List Nat) (hC : isC.map (fun i => w[i]?) = wc.map some) (hn : va_nd isC = true) (hlen : As.length = n) (hsize : ls.size = nL) (hst : st0 = As.reverse ++ rest) (hW : (rest.map fun v => v.category).sum ≤ 8) (hdg : decode cc pc = .ok (.invokestatic index, 3)) (hf : cells + mc ≤ R.cells ∧ slots + ms ≤ R.slots) :
    va_Run p l e R s m args below meth c H locs cells slots mc ms (F0 m pc ls st0) rest (Qc As.toArray) free :=
  va_runS (As := As) (rest := rest) S0 hM cw ⟨kn_blind, fun U hU hW => ⟨rfl, kn_pre I hK hZ hA isC hC hn U hU hW⟩⟩ rfl hlen hsize hst (lv_room hW) hdg hf
theorem kn_runI (S0 : CallFix p m c cc nL s args Ts own) (hK : va_K D vwCl (kn_tys tc) s) (hZ : kn_Z Z A s s.heap) (hA : ∀ q, s.heap.size ≤ q → A q) (I : kn_I D tc A s.heap w H locs) {Qc : Array Value → State → Outcome → State → Prop} {free : Addr → Prop} (hM : Met l y ws rm (va_Pc (.ref b :: As) (kn_B D tc Z wc H.size)) Qc mc ms free) (cw : CallB R s args own index y bytes maxL none ws rm mc ms n ∧ y.name = "<init>" ∧ (Cond.instanceMethod y).before args s = true) (isC : List Nat) (hC : isC.map (fun i => w[i]?) = wc.map some) (hn : va_nd isC = true) (hlen : As.length = n) (hsize : ls.size = nL) (hst : st0 = As.reverse ++ .ref b :: rest) (hW : (rest.map fun v => v.category).sum ≤ 8) (hdg : decode cc pc = .ok (.invokespecial index, 3)) (hf : cells + mc ≤ R.cells ∧ slots + ms ≤ R.slots) :
    va_Run p l e R s m args below meth c H locs cells slots mc ms (F0 m pc ls st0) rest (Qc (Value.ref b :: As).toArray) free :=
  va_runI (As := As) (rest := rest) S0 hM cw ⟨kn_blind, fun U hU hW => ⟨rfl, kn_pre I hK hZ hA isC hC hn U hU hW⟩⟩ rfl hlen hsize hst (lv_room hW) hdg hf
theorem kw_calli {S : Type} {w' : S → List CH} {post : Int32 → S → Prop} {a : Array Value} (I : kn_I D tc A H0 w H locs) (hA : ∀ q, H0.size ≤ q → A q) (isC isR : List Nat) (hC : isC.map (fun i => w[i]?) = wc.map some) (hR : isR.map (fun i => w[i]?) = wr.map some) (hn : va_nd isR = true) (hdis : ∀ i ∈ isR, i ∉ isC)
    (hr : va_Run p l e R s m args below meth c H locs cells slots mc ms (F0 m pc ls st0) rest (va_Qi post (kn_O D tc w' (kn_A wc H.size)) (kn_A wc H.size) a) (kn_A wc H.size))
    (kk : ∀ (r : Int32) (u : S) (H1 : Heap) (locs1 : List Loc), post r u → kn_I D tc A H0 (wr ++ w' u) H1 locs1 → W p l e R s m args below meth c H1 locs1 (cells + mc) (slots + ms) Q (F0 m (pc + 3) ls (.int r :: rest))) : W p l e R s m args below meth c H locs cells slots Q (F0 m pc ls st0) := by
  have hF := kn_free I hA isC hC
  refine va_calli hr I.2.2 (fun q _ h => hF q h) hF (fun r u t H1 locs1 ht hvm hp hB hz hk hS => ?_)
  obtain ⟨hP1, hD1⟩ := hB
  rw [ht] at hP1
  obtain ⟨hP2, hD2⟩ := kn_join I hF isC isR hC hR hn hdis hk hP1 hD1
  exact kk r u H1 locs1 hp ⟨hP2, hD2, hS⟩
theorem kw_calll {S : Type} {w' : S → List CH} {post : Int64 → S → Prop} {a : Array Value} (I : kn_I D tc A H0 w H locs) (hA : ∀ q, H0.size ≤ q → A q) (isC isR : List Nat) (hC : isC.map (fun i => w[i]?) = wc.map some) (hR : isR.map (fun i => w[i]?) = wr.map some) (hn : va_nd isR = true) (hdis : ∀ i ∈ isR, i ∉ isC)
    (hr : va_Run p l e R s m args below meth c H locs cells slots mc ms (F0 m pc ls st0) rest (va_Ql post (kn_O D tc w' (kn_A wc H.size)) (kn_A wc H.size) a) (kn_A wc H.size))
    (kk : ∀ (r : Int64) (u : S) (H1 : Heap) (locs1 : List Loc), post r u → kn_I D tc A H0 (wr ++ w' u) H1 locs1 → W p l e R s m args below meth c H1 locs1 (cells + mc) (slots + ms) Q (F0 m (pc + 3) ls (.long r :: rest))) : W p l e R s m args below meth c H locs cells slots Q (F0 m pc ls st0) := by
  have hF := kn_free I hA isC hC
  refine va_calll hr I.2.2 (fun q _ h => hF q h) hF (fun r u t H1 locs1 ht hvm hp hB hz hk hS => ?_)
  obtain ⟨hP1, hD1⟩ := hB
  rw [ht] at hP1
  obtain ⟨hP2, hD2⟩ := kn_join I hF isC isR hC hR hn hdis hk hP1 hD1
  exact kk r u H1 locs1 hp ⟨hP2, hD2, hS⟩
theorem kw_callv {S : Type} {w' : S → List CH} {post : S → Prop} {a : Array Value} (I : kn_I D tc A H0 w H locs) (hA : ∀ q, H0.size ≤ q → A q) (isC isR : List Nat) (hC : isC.map (fun i => w[i]?) = wc.map some) (hR : isR.map (fun i => w[i]?) = wr.map some) (hn : va_nd isR = true) (hdis : ∀ i ∈ isR, i ∉ isC)
    (hr : va_Run p l e R s m args below meth c H locs cells slots mc ms (F0 m pc ls st0) rest (va_Qv post (kn_O D tc w' (kn_A wc H.size)) (kn_A wc H.size) a) (kn_A wc H.size))
    (kk : ∀ (u : S) (H1 : Heap) (locs1 : List Loc), post u → kn_I D tc A H0 (wr ++ w' u) H1 locs1 → W p l e R s m args below meth c H1 locs1 (cells + mc) (slots + ms) Q (F0 m (pc + 3) ls rest)) : W p l e R s m args below meth c H locs cells slots Q (F0 m pc ls st0) := by
  have hF := kn_free I hA isC hC
  refine va_callv hr I.2.2 (fun q _ h => hF q h) hF (fun u t H1 locs1 ht hvm hp hB hz hk hS => ?_)
  obtain ⟨hP1, hD1⟩ := hB
  rw [ht] at hP1
  obtain ⟨hP2, hD2⟩ := kn_join I hF isC isR hC hR hn hdis hk hP1 hD1
  exact kk u H1 locs1 hp ⟨hP2, hD2, hS⟩
theorem kw_callq {S : Type} {w' : S → List CH} {post : Option Nat → S → Prop} {a : Array Value} (I : kn_I D tc A H0 w H locs) (hA : ∀ q, H0.size ≤ q → A q) (isC isR : List Nat) (hC : isC.map (fun i => w[i]?) = wc.map some) (hR : isR.map (fun i => w[i]?) = wr.map some) (hn : va_nd isR = true) (hdis : ∀ i ∈ isR, i ∉ isC)
    (hr : va_Run p l e R s m args below meth c H locs cells slots mc ms (F0 m pc ls st0) rest (va_Qq post (kn_O D tc w' (kn_A wc H.size)) (kn_A wc H.size) a) (kn_A wc H.size))
    (kk : ∀ (r : Option Nat) (u : S) (H1 : Heap) (locs1 : List Loc), post r u → kn_I D tc A H0 (wr ++ w' u) H1 locs1 → W p l e R s m args below meth c H1 locs1 (cells + mc) (slots + ms) Q (F0 m (pc + 3) ls (va_rf r :: rest))) : W p l e R s m args below meth c H locs cells slots Q (F0 m pc ls st0) := by
  have hF := kn_free I hA isC hC
  refine va_callq hr I.2.2 (fun q _ h => hF q h) hF (fun r u t H1 locs1 ht hvm hp hB hz hk hS => ?_)
  obtain ⟨hP1, hD1⟩ := hB
  rw [ht] at hP1
  obtain ⟨hP2, hD2⟩ := kn_join I hF isC isR hC hR hn hdis hk hP1 hD1
  exact kk r u H1 locs1 hp ⟨hP2, hD2, hS⟩
/-- a contract's ends -/
theorem kw_iret {w0 : List CH} {S : Type} {w' : S → List CH} {post : Int32 → S → Prop} {r : Int32} (hx : p.tables.exec = Jvm.exec) (hb : c.code = cc) (hr : meth.sig.returnType = some .int) (hlocks : meth.locks = false) (I : kn_I D tc (kn_A w0 s.heap.size) s.heap w H locs) (u : S) (hw : w = w' u) (hp : post r u) (hdg : decode cc pc = .ok (.ireturn, 1)) :
    W p l e R s m args below meth c H locs cells slots (kn_Qi D tc w0 w' post below args s cells slots) (F0 m pc ls [.int r]) := by
  subst hw
  exact W.iret (v := r) hx hb hr (fun t ht hW => ⟨⟨r, u, rfl, hp, by rw [ht]; exact I.1, I.2.1⟩, I.2.2.F ht⟩) I.2.2.2.2 hdg hlocks
theorem kw_zret {w0 : List CH} {S : Type} {w' : S → List CH} {post : Int32 → S → Prop} {r : Int32} {ty : FieldType} (hx : p.tables.exec = Jvm.exec) (hb : c.code = cc) (hr : meth.sig.returnType = some ty) (hn : narrow ty (.int r) = .int r) (hlocks : meth.locks = false) (I : kn_I D tc (kn_A w0 s.heap.size) s.heap w H locs) (u : S) (hw : w = w' u) (hp : post r u) (hdg : decode cc pc = .ok (.ireturn, 1)) :
    W p l e R s m args below meth c H locs cells slots (kn_Qi D tc w0 w' post below args s cells slots) (F0 m pc ls [.int r]) := by
  subst hw
  exact W.zret (v := r) hx hb hr hn (fun t ht hW => ⟨⟨r, u, rfl, hp, by rw [ht]; exact I.1, I.2.1⟩, I.2.2.F ht⟩) I.2.2.2.2 hdg hlocks
theorem kw_lret {w0 : List CH} {S : Type} {w' : S → List CH} {post : Int64 → S → Prop} {r : Int64} (hx : p.tables.exec = Jvm.exec) (hb : c.code = cc) (hr : meth.sig.returnType = some .long) (hlocks : meth.locks = false) (I : kn_I D tc (kn_A w0 s.heap.size) s.heap w H locs) (u : S) (hw : w = w' u) (hp : post r u) (hdg : decode cc pc = .ok (.lreturn, 1)) :
    W p l e R s m args below meth c H locs cells slots (kn_Ql D tc w0 w' post below args s cells slots) (F0 m pc ls [.long r]) := by
  subst hw
  exact W.lret (v := r) hx hb hr (fun t ht hW => ⟨⟨r, u, rfl, hp, by rw [ht]; exact I.1, I.2.1⟩, I.2.2.F ht⟩) I.2.2.2.2 hdg hlocks
theorem kw_vret {w0 : List CH} {S : Type} {w' : S → List CH} {post : S → Prop} (hx : p.tables.exec = Jvm.exec) (hb : c.code = cc) (hr : meth.sig.returnType = none) (hlocks : meth.locks = false) (I : kn_I D tc (kn_A w0 s.heap.size) s.heap w H locs) (u : S) (hw : w = w' u) (hp : post u) (hdg : decode cc pc = .ok (.return_, 1)) :
    W p l e R s m args below meth c H locs cells slots (kn_Qv D tc w0 w' post below args s cells slots) (F0 m pc ls []) := by
  subst hw
  exact W.vret hx hb hr (fun t ht hW => ⟨⟨u, rfl, hp, by rw [ht]; exact I.1, I.2.1⟩, I.2.2.F ht⟩) I.2.2.2.2 hdg hlocks
theorem kw_aret {w0 : List CH} {S : Type} {w' : S → List CH} {post : Option Nat → S → Prop} {r : Option Nat} {x : Value} {rt : FieldType} (hx : p.tables.exec = Jvm.exec) (hb : c.code = cc) (hr : meth.sig.returnType = some rt) (hrt : (∃ n, rt = .object n) ∨ ∃ t, rt = .array t) (hlocks : meth.locks = false) (I : kn_I D tc (kn_A w0 s.heap.size) s.heap w H locs) (u : S) (hw : w = w' u) (hxr : va_rf r = x) (hp : post r u) (hdg : decode cc pc = .ok (.areturn, 1)) :
    W p l e R s m args below meth c H locs cells slots (kn_Qq D tc w0 w' post below args s cells slots) (F0 m pc ls [x]) := by
  subst hw
  subst hxr
  refine W.aret (v := va_rf r) hx hb hr hrt ?_ (fun t ht hW => ⟨⟨r, u, rfl, hp, by rw [ht]; exact I.1, I.2.1⟩, I.2.2.F ht⟩) I.2.2.2.2 hdg hlocks
  cases r with
  | none => exact Or.inl rfl
  | some a => exact Or.inr ⟨a, rfl⟩
end KNC
theorem kn_ofi {l : Launch} {D : va_G} {tc : Nat → ClassId} {Z : (Nat → Nat) × (Nat → Nat)} {y : MethodName} {rm : Room} {mc ms : Nat} {av : List Value} {w : List CH} {S : Type} {w' : S → List CH} {post : Int32 → S → Prop} {cc : ByteArray} {nL : Nat} {ret : Option FieldType} {lv : List (Nat × Value)} (hy : plainName y.cls = true) (hn : (lg_sl av).length ≤ nL) (hlv : lv_args 0 av = lv)
    (body : ∀ (p : Program) (e : Env) (s : State) (m : MethodId) (below : List Frame) (meth : Method) (c : Code) (ls : Array Slot), kn_X p s m av.toArray meth c cc nL ret y.cls kn_all D tc Z (kn_A w s.heap.size) → kn_I D tc (kn_A w s.heap.size) s.heap w s.heap [] → lv_has ls nL lv → (y.name = "<init>" → meth.name = "<init>") → W p l e rm s m av.toArray below meth c s.heap [] 0 0 (kn_Qi D tc w w' post below av.toArray s mc ms) (F0 m 0 ls [])) : CTi l D tc Z y (Cond.code y cc nL ret :: kn_all) rm mc ms av w w' post := by
  intro sz
  refine Met.ofW (cc := cc) (maxL := nL) (ret := ret) hy rfl ?_
  intro p e s m args below meth c s₁ B hml hv
  obtain ⟨rfl, hsz, hP, hK, hD0, hZ⟩ := hv
  subst hsz
  rw [lg_entry_eq]
  exact body p e s m below meth c _ ⟨⟨B.exec, B.bytes, hml, findClass_of_methodNamed B.named, fun w h => atoms_spec (ws := Cond.code y cc nL ret :: kn_all) B.pre w (List.mem_cons_of_mem _ h)⟩, B.returns, B.notSynchronized, hK, hZ, fun q h => Or.inr h⟩ ⟨hP, hD0.self, va_S.rf⟩ (hlv ▸ lv_entry av hn) (fun hi => (name_of_methodNamed B.named B.method).1.trans hi)
theorem kn_ofl {l : Launch} {D : va_G} {tc : Nat → ClassId} {Z : (Nat → Nat) × (Nat → Nat)} {y : MethodName} {rm : Room} {mc ms : Nat} {av : List Value} {w : List CH} {S : Type} {w' : S → List CH} {post : Int64 → S → Prop} {cc : ByteArray} {nL : Nat} {ret : Option FieldType} {lv : List (Nat × Value)} (hy : plainName y.cls = true) (hn : (lg_sl av).length ≤ nL) (hlv : lv_args 0 av = lv)
    (body : ∀ (p : Program) (e : Env) (s : State) (m : MethodId) (below : List Frame) (meth : Method) (c : Code) (ls : Array Slot), kn_X p s m av.toArray meth c cc nL ret y.cls kn_all D tc Z (kn_A w s.heap.size) → kn_I D tc (kn_A w s.heap.size) s.heap w s.heap [] → lv_has ls nL lv → (y.name = "<init>" → meth.name = "<init>") → W p l e rm s m av.toArray below meth c s.heap [] 0 0 (kn_Ql D tc w w' post below av.toArray s mc ms) (F0 m 0 ls [])) : CTl l D tc Z y (Cond.code y cc nL ret :: kn_all) rm mc ms av w w' post := by
  intro sz
  refine Met.ofW (cc := cc) (maxL := nL) (ret := ret) hy rfl ?_
  intro p e s m args below meth c s₁ B hml hv
  obtain ⟨rfl, hsz, hP, hK, hD0, hZ⟩ := hv
  subst hsz
  rw [lg_entry_eq]
  exact body p e s m below meth c _ ⟨⟨B.exec, B.bytes, hml, findClass_of_methodNamed B.named, fun w h => atoms_spec (ws := Cond.code y cc nL ret :: kn_all) B.pre w (List.mem_cons_of_mem _ h)⟩, B.returns, B.notSynchronized, hK, hZ, fun q h => Or.inr h⟩ ⟨hP, hD0.self, va_S.rf⟩ (hlv ▸ lv_entry av hn) (fun hi => (name_of_methodNamed B.named B.method).1.trans hi)
theorem kn_ofv {l : Launch} {D : va_G} {tc : Nat → ClassId} {Z : (Nat → Nat) × (Nat → Nat)} {y : MethodName} {rm : Room} {mc ms : Nat} {av : List Value} {w : List CH} {S : Type} {w' : S → List CH} {post : S → Prop} {cc : ByteArray} {nL : Nat} {ret : Option FieldType} {lv : List (Nat × Value)} (hy : plainName y.cls = true) (hn : (lg_sl av).length ≤ nL) (hlv : lv_args 0 av = lv)
    (body : ∀ (p : Program) (e : Env) (s : State) (m : MethodId) (below : List Frame) (meth : Method) (c : Code) (ls : Array Slot), kn_X p s m av.toArray meth c cc nL ret y.cls kn_all D tc Z (kn_A w s.heap.size) → kn_I D tc (kn_A w s.heap.size) s.heap w s.heap [] → lv_has ls nL lv → (y.name = "<init>" → meth.name = "<init>") → W p l e rm s m av.toArray below meth c s.heap [] 0 0 (kn_Qv D tc w w' post below av.toArray s mc ms) (F0 m 0 ls [])) : CTv l D tc Z y (Cond.code y cc nL ret :: kn_all) rm mc ms av w w' post := by
  intro sz
  refine Met.ofW (cc := cc) (maxL := nL) (ret := ret) hy rfl ?_
  intro p e s m args below meth c s₁ B hml hv
  obtain ⟨rfl, hsz, hP, hK, hD0, hZ⟩ := hv
  subst hsz
  rw [lg_entry_eq]
  exact body p e s m below meth c _ ⟨⟨B.exec, B.bytes, hml, findClass_of_methodNamed B.named, fun w h => atoms_spec (ws := Cond.code y cc nL ret :: kn_all) B.pre w (List.mem_cons_of_mem _ h)⟩, B.returns, B.notSynchronized, hK, hZ, fun q h => Or.inr h⟩ ⟨hP, hD0.self, va_S.rf⟩ (hlv ▸ lv_entry av hn) (fun hi => (name_of_methodNamed B.named B.method).1.trans hi)
theorem kn_ofq {l : Launch} {D : va_G} {tc : Nat → ClassId} {Z : (Nat → Nat) × (Nat → Nat)} {y : MethodName} {rm : Room} {mc ms : Nat} {av : List Value} {w : List CH} {S : Type} {w' : S → List CH} {post : Option Nat → S → Prop} {cc : ByteArray} {nL : Nat} {ret : Option FieldType} {lv : List (Nat × Value)} (hy : plainName y.cls = true) (hn : (lg_sl av).length ≤ nL) (hlv : lv_args 0 av = lv)
    (body : ∀ (p : Program) (e : Env) (s : State) (m : MethodId) (below : List Frame) (meth : Method) (c : Code) (ls : Array Slot), kn_X p s m av.toArray meth c cc nL ret y.cls kn_all D tc Z (kn_A w s.heap.size) → kn_I D tc (kn_A w s.heap.size) s.heap w s.heap [] → lv_has ls nL lv → (y.name = "<init>" → meth.name = "<init>") → W p l e rm s m av.toArray below meth c s.heap [] 0 0 (kn_Qq D tc w w' post below av.toArray s mc ms) (F0 m 0 ls [])) : CTq l D tc Z y (Cond.code y cc nL ret :: kn_all) rm mc ms av w w' post := by
  intro sz
  refine Met.ofW (cc := cc) (maxL := nL) (ret := ret) hy rfl ?_
  intro p e s m args below meth c s₁ B hml hv
  obtain ⟨rfl, hsz, hP, hK, hD0, hZ⟩ := hv
  subst hsz
  rw [lg_entry_eq]
  exact body p e s m below meth c _ ⟨⟨B.exec, B.bytes, hml, findClass_of_methodNamed B.named, fun w h => atoms_spec (ws := Cond.code y cc nL ret :: kn_all) B.pre w (List.mem_cons_of_mem _ h)⟩, B.returns, B.notSynchronized, hK, hZ, fun q h => Or.inr h⟩ ⟨hP, hD0.self, va_S.rf⟩ (hlv ▸ lv_entry av hn) (fun hi => (name_of_methodNamed B.named B.method).1.trans hi)
theorem CTi.met {l : Launch} {D : va_G} {tc : Nat → ClassId} {Z : (Nat → Nat) × (Nat → Nat)} {y : MethodName} {ws : List Cond} {rm : Room} {mc ms : Nat} {av : List Value} {w : List CH} {S : Type} {w' : S → List CH} {post : Int32 → S → Prop} (h : CTi l D tc Z y ws rm mc ms av w w' post) (sz : Nat) : Met l y ws rm (va_Pc av (kn_B D tc Z w sz)) (va_Qi post (kn_O D tc w' (kn_A w sz)) (kn_A w sz)) mc ms (kn_A w sz) := h sz
theorem CTl.met {l : Launch} {D : va_G} {tc : Nat → ClassId} {Z : (Nat → Nat) × (Nat → Nat)} {y : MethodName} {ws : List Cond} {rm : Room} {mc ms : Nat} {av : List Value} {w : List CH} {S : Type} {w' : S → List CH} {post : Int64 → S → Prop} (h : CTl l D tc Z y ws rm mc ms av w w' post) (sz : Nat) : Met l y ws rm (va_Pc av (kn_B D tc Z w sz)) (va_Ql post (kn_O D tc w' (kn_A w sz)) (kn_A w sz)) mc ms (kn_A w sz) := h sz
theorem CTv.met {l : Launch} {D : va_G} {tc : Nat → ClassId} {Z : (Nat → Nat) × (Nat → Nat)} {y : MethodName} {ws : List Cond} {rm : Room} {mc ms : Nat} {av : List Value} {w : List CH} {S : Type} {w' : S → List CH} {post : S → Prop} (h : CTv l D tc Z y ws rm mc ms av w w' post) (sz : Nat) : Met l y ws rm (va_Pc av (kn_B D tc Z w sz)) (va_Qv post (kn_O D tc w' (kn_A w sz)) (kn_A w sz)) mc ms (kn_A w sz) := h sz
theorem CTq.met {l : Launch} {D : va_G} {tc : Nat → ClassId} {Z : (Nat → Nat) × (Nat → Nat)} {y : MethodName} {ws : List Cond} {rm : Room} {mc ms : Nat} {av : List Value} {w : List CH} {S : Type} {w' : S → List CH} {post : Option Nat → S → Prop} (h : CTq l D tc Z y ws rm mc ms av w w' post) (sz : Nat) : Met l y ws rm (va_Pc av (kn_B D tc Z w sz)) (va_Qq post (kn_O D tc w' (kn_A w sz)) (kn_A w sz)) mc ms (kn_A w sz) := h sz
theorem kn_nz {r : Int32} (h : r = 0 ∨ r = 1) : narrow .boolean (.int r) = .int r := by
  rcases h with rfl | rfl <;> rfl
theorem kn_fz {r : Int32} (h : r = 0 ∨ r = 1) : fits .boolean (.int r) = true := by
  rcases h with rfl | rfl <;> rfl
theorem kn_nei {x y : Int32} {k : Int} (h : ¬ x = y) (hk : y.toInt = k) : x.toInt ≠ k := fun e => h (Int32.toInt_inj.mp (e.trans hk.symm))
theorem kn_goodV {own C : String} {idx maxL : Nat} {y : MethodName} {bytes : ByteArray} {ret : Option FieldType} (h1 : Cond.methodLink own idx y ∈ kn_all) (h2 : Cond.instanceMethod y ∈ kn_all) (h3 : Cond.selects C y y ∈ kn_all) (h4 : Cond.initialized C ∈ kn_all) (h5 : Cond.code y bytes maxL ret ∈ kn_all) : GoodIn kn_all (wsV own idx C y (Cond.code y bytes maxL ret :: kn_all)) := by
  have key : ∀ w, w ∈ kn_all → w ∈ kn_all ∧ ((w.onTables && w.keeps) = true ∨ ∃ ty, w = .arrayClass ty) := fun w h => ⟨h, good_of_word (kn_good h)⟩
  intro w hw
  refine key w ?_
  rcases List.mem_append.mp hw with h | h
  · rcases List.mem_cons.mp h with rfl | h
    · exact h1
    · rcases List.mem_cons.mp h with rfl | h
      · exact h2
      · rcases List.mem_cons.mp h with rfl | h
        · exact h3
        · rcases List.mem_cons.mp h with rfl | h
          · exact h4
          · cases h
  · rcases List.mem_cons.mp h with rfl | h
    · exact h5
    · exact h
theorem kn_goodS {own : String} {idx maxL : Nat} {y : MethodName} {bytes : ByteArray} {ret : Option FieldType} (h1 : Cond.methodLink own idx y ∈ kn_all) (h2 : Cond.static y ∈ kn_all) (h4 : Cond.initialized y.cls ∈ kn_all) (h5 : Cond.code y bytes maxL ret ∈ kn_all) : GoodIn kn_all (va_wsS own idx y (Cond.code y bytes maxL ret :: kn_all)) := by
  have key : ∀ w, w ∈ kn_all → w ∈ kn_all ∧ ((w.onTables && w.keeps) = true ∨ ∃ ty, w = .arrayClass ty) := fun w h => ⟨h, good_of_word (kn_good h)⟩
  intro w hw
  refine key w ?_
  rcases List.mem_append.mp hw with h | h
  · rcases List.mem_cons.mp h with rfl | h
    · exact h1
    · rcases List.mem_cons.mp h with rfl | h
      · exact h2
      · rcases List.mem_cons.mp h with rfl | h
        · exact h4
        · cases h
  · rcases List.mem_cons.mp h with rfl | h
    · exact h5
    · exact h
theorem kn_cwV {R : Room} {s : State} {args : Array Value} {own C : String} {index : Nat} {y : MethodName} {bytes : ByteArray} {maxL mc ms : Nat} {ret : Option FieldType} {rm : Room} (n : Nat) (ht : ∀ w ∈ kn_all, w.before args s = true) (h1 : Cond.methodLink own index y ∈ kn_all) (h2 : Cond.instanceMethod y ∈ kn_all) (h3 : Cond.selects C y y ∈ kn_all) (h4 : Cond.initialized C ∈ kn_all) (h5 : Cond.code y bytes maxL ret ∈ kn_all) (hrc : rm.cells = mc) (hrs : rm.slots = ms) (hd : y.cls = C ∧ y.cls ≠ "java/lang/invoke/MethodHandle" ∧ y.cls ≠ "java/lang/invoke/VarHandle" ∧ (parseMethodDescriptor y.desc).map (fun d => d.parameters.length) = some n) (hR : rm.frames + 1 ≤ R.frames ∧ 8 + (maxL + 11) + rm.locals ≤ R.locals) : CallW R s args own C index y bytes maxL ret (Cond.code y bytes maxL ret :: kn_all) rm mc ms n :=
  cwV n ht (kn_goodV h1 h2 h3 h4 h5) rfl hrc hrs hd hR
theorem kn_cwS {R : Room} {s : State} {args : Array Value} {own : String} {index : Nat} {y : MethodName} {bytes : ByteArray} {maxL mc ms : Nat} {ret : Option FieldType} {rm : Room} (n : Nat) (ht : ∀ w ∈ kn_all, w.before args s = true) (h1 : Cond.methodLink own index y ∈ kn_all) (h2 : Cond.static y ∈ kn_all) (h4 : Cond.initialized y.cls ∈ kn_all) (h5 : Cond.code y bytes maxL ret ∈ kn_all) (hrc : rm.cells = mc) (hrs : rm.slots = ms) (hd : y.cls ≠ "java/lang/invoke/MethodHandle" ∧ y.cls ≠ "java/lang/invoke/VarHandle" ∧ (parseMethodDescriptor y.desc).map (fun d => d.parameters.length) = some n) (hR : rm.frames + 1 ≤ R.frames ∧ 8 + (maxL + 11) + rm.locals ≤ R.locals) : CallB R s args own index y bytes maxL ret (Cond.code y bytes maxL ret :: kn_all) rm mc ms n ∧ (Cond.static y).before args s = true :=
  va_cwS n ht (kn_goodS h1 h2 h4 h5) rfl hrc hrs hd hR
section KNL
variable {p : Program} {l : Launch} {e : Env} {R : Room} {s : State} {m : MethodId} {args : Array Value} {below : List Frame} {meth : Method} {c : Code} {H : Heap} {locs : List Loc} {cells slots : Nat} {Q : State → Prop}
variable {cc : ByteArray} {pc : Nat} {ls : Array Slot} {rest : List Value} {D : va_G} {tc : Nat → ClassId} {A : Nat → Prop} {H0 : Heap} {w : List CH}
theorem kw_ldcW9 {T : State} (X : Stand p l e R s m args below meth c T locs cells slots) (hexec : p.tables.exec = Jvm.exec) {own text : String} {index : Nat} {a : Addr} (hown : s.vm.findClass own = some m.cls)
    (hconst : (Cond.stringRef own index text).before args s = true) (hev : (Term.string own index).eval args s none [] s = some (.ref a)) {g : JFrame} (hg : g.method = m) (hdg : decode c.code g.pc = .ok (.ldc_w index, 3)) :
    ∀ target, Steps p.tables e below (T.setTop { g with pc := g.pc + 3, stack := .ref a :: g.stack }) target → Steps p.tables e below (T.setTop g) target := by
  obtain ⟨k, cf, i, a', hk, hcf, hcp, -, hr, hev'⟩ := Cond.stringRef_spec hown hconst
  cases hev.symm.trans hev'
  obtain ⟨k', hk', he⟩ := X.warmed.alike.2.2 _ _ hk
  have hr' : k'.resolved[index]? = some (some (.string a)) := by
    rcases X.warmed.entry hk hk' index with h | ⟨h, -⟩
    · rw [h]; exact hr
    · rw [hr] at h; cases h
  intro target hrest
  subst hg
  jvm_step X.here [hexec, hdg, ldc_w.wp_string (e := e) (s := T) (f := g) X.here.top hk' (by rw [he]; exact hcf) hcp hr']
  exact hrest
theorem kw_ldcSw (hexec : p.tables.exec = Jvm.exec) (hb : c.code = cc) {own tx : String} {index q : Nat} (hown : s.vm.findClass own = some m.cls) (hZ : vk_R own index tx q s) (hdg : decode cc pc = .ok (.ldc_w index, 3))
    (k : W p l e R s m args below meth c H locs cells slots Q (F0 m (pc + 3) ls (.ref q :: rest))) : W p l e R s m args below meth c H locs cells slots Q (F0 m pc ls rest) := by
  intro T hT X
  obtain ⟨t, a1, b1⟩ := k T hT X
  exact ⟨t, kw_ldcW9 X hexec hown (text := tx) (a := q) hZ.1 hZ.2 (g := F0 m pc ls rest) rfl (by rw [hb]; exact hdg) t a1, b1⟩
theorem kw_aloadq_n (hexec : p.tables.exec = Jvm.exec) (hb : c.code = cc) {k : Fin 4} {i : Nat} {r : Option Nat} (hdg : decode cc pc = .ok (.aload_n k, 1)) (hi : (k : Nat) = i) (hl : ls[i]? = some (.val (va_rf r)))
    (kk : W p l e R s m args below meth c H locs cells slots Q (F0 m (pc + 1) ls (va_rf r :: rest))) : W p l e R s m args below meth c H locs cells slots Q (F0 m pc ls rest) := by
  cases r with
  | none => exact lv_aload_nN hexec hb hdg hi hl kk
  | some a => exact lv_aload_n hexec hb hdg hi hl kk
theorem kw_aloadq (hexec : p.tables.exec = Jvm.exec) (hb : c.code = cc) {i : Nat} {r : Option Nat} (hdg : decode cc pc = .ok (.aload i, 2)) (hl : ls[i]? = some (.val (va_rf r)))
    (kk : W p l e R s m args below meth c H locs cells slots Q (F0 m (pc + 2) ls (va_rf r :: rest))) : W p l e R s m args below meth c H locs cells slots Q (F0 m pc ls rest) := by
  cases r with
  | none => exact lv_aloadN hexec hb hdg hl kk
  | some a => exact lv_aload hexec hb hdg hl kk
theorem kw_astoreq_n (hexec : p.tables.exec = Jvm.exec) (hb : c.code = cc) {k : Fin 4} {i nL : Nat} {r : Option Nat} {lv lv' : List (Nat × Value)} (hdg : decode cc pc = .ok (.astore_n k, 1)) (hi : (k : Nat) = i) (h : lv_has ls nL lv) (hn : i < nL) (hl : (i, va_rf r) :: lv.filter (fun q => !(q.1 == i) && !(q.1 + 1 == i && q.2.category == 2)) = lv')
    (kk : ∀ ls' : Array Slot, lv_has ls' nL lv' → W p l e R s m args below meth c H locs cells slots Q (F0 m (pc + 1) ls' rest)) : W p l e R s m args below meth c H locs cells slots Q (F0 m pc ls (va_rf r :: rest)) := by
  cases r with
  | none => exact lv_astore_nN hexec hb hdg hi h hn hl kk
  | some a => exact lv_astore_n hexec hb hdg hi h hn hl kk
theorem kw_astoreq (hexec : p.tables.exec = Jvm.exec) (hb : c.code = cc) {i nL : Nat} {r : Option Nat} {lv lv' : List (Nat × Value)} (hdg : decode cc pc = .ok (.astore i, 2)) (h : lv_has ls nL lv) (hn : i < nL) (hl : (i, va_rf r) :: lv.filter (fun q => !(q.1 == i) && !(q.1 + 1 == i && q.2.category == 2)) = lv')
    (kk : ∀ ls' : Array Slot, lv_has ls' nL lv' → W p l e R s m args below meth c H locs cells slots Q (F0 m (pc + 2) ls' rest)) : W p l e R s m args below meth c H locs cells slots Q (F0 m pc ls (va_rf r :: rest)) := by
  cases r with
  | none => exact lv_astoreN hexec hb hdg h hn hl kk
  | some a => exact lv_astore hexec hb hdg h hn hl kk
theorem kw_iinc (hexec : p.tables.exec = Jvm.exec) (hb : c.code = cc) {i nL k : Nat} {n : Int} {x nv : Int32} {lv : List (Nat × Value)} {lvf : Int32 → List (Nat × Value)} (hdg : decode cc pc = .ok (.iinc i n, 3)) (h : lv_has ls nL lv) (hk : lv[k]? = some (i, .int x)) (hv : Int32.ofInt n = nv) (hn : i < nL) (hl : ∀ y : Int32, (i, Value.int y) :: lv.filter (fun q => !(q.1 == i) && !(q.1 + 1 == i && q.2.category == 2)) = lvf y)
    (kk : ∀ y : Int32, y = x + nv → ∀ ls' : Array Slot, lv_has ls' nL (lvf y) → W p l e R s m args below meth c H locs cells slots Q (F0 m (pc + 3) ls' rest)) : W p l e R s m args below meth c H locs cells slots Q (F0 m pc ls rest) :=
  lv_iinc hexec hb hdg h hk (congrArg (fun z => x + z) hv) hn (hl _) (fun ls' h' => kk _ rfl ls' h')
theorem kw_copy (hexec : p.tables.exec = Jvm.exec) (hb : c.code = cc) (hml : c.maxLocals = ls.size) {own : String} {index : Nat} (hown : s.vm.findClass own = some m.cls) (hlink : (Cond.methodLink own index arraycopyName).before args s = true) (hnat : (Cond.native arraycopyName).before args s = true) (hstat : (Cond.static arraycopyName).before args s = true) (hini : (Cond.initialized "java/lang/System").before args s = true)
    (hK : va_K D vwCl (kn_tys tc) s) (I : kn_I D tc A H0 w H locs) (i0 i1 : Nat) {kd0 kd1 : KD} {ad0 ad1 : Nat → Nat} {v0 v1 : OV} (hw0 : w[i0]? = some (kd0, ad0, v0)) (hw1 : w[i1]? = some (kd1, ad1, v1)) (k0 n0 k1 n1 : Nat) (hk0 : (k0, 0, n0) ∈ kd0.2) (hk1 : (k1, 0, n1) ∈ kd1.2) (hu : ∀ b ∈ kd1.2, b.1 = k1 → b = (k1, 0, n1))
    {sp dp n : Int32} (h1 : ¬ sp < 0) (h2 : ¬ dp < 0) (h3 : ¬ n < 0) (h4 : sp.toNatClampNeg + n.toNatClampNeg ≤ n0) (h5 : dp.toNatClampNeg + n.toNatClampNeg ≤ n1)
    (hframes : 1 ≤ R.frames) (hlocals : (rest.map fun v => v.category).sum + (nativeFrameWords "java/lang/System" "arraycopy" 5 + 11) ≤ R.locals) (hdg : decode cc pc = .ok (.invokestatic index, 3))
    (kk : ∀ v' : OV, v' = sa v1 k1 (va_cpy (v0.2.1 k0) (v1.2.1 k1) sp.toNatClampNeg dp.toNatClampNeg n.toNatClampNeg) → ∀ (H1 : Heap) (locs1 : List Loc), kn_I D tc A H0 (w.set i1 (kd1, ad1, v')) H1 locs1 → W p l e R s m args below meth c H1 locs1 cells slots Q (F0 m (pc + 3) ls rest)) : W p l e R s m args below meth c H locs cells slots Q (F0 m pc ls (.int n :: .int dp :: .ref (ad1 (k1 + 1)) :: .int sp :: .ref (ad0 (k0 + 1)) :: rest)) := by
  obtain ⟨-, q0, hq0⟩ := kn_cellA (tc := tc) hw0 hk0
  obtain ⟨hm, q1, hq1⟩ := kn_cellA (tc := tc) hw1 hk1
  refine va_copyi hexec hb hml hown hlink hnat hstat hini hK I.1 (kn_va_D I.2.1) I.2.2 q0 q1 0 0 hq0 hq1 rfl rfl rfl h1 h2 h3 h4 h5 (fun _ _ => rfl) hframes hlocals hdg (fun H1 locs1 hP1 _ hS1 => kk _ rfl H1 locs1 ⟨?_, I.2.1.set hw1 rfl, hS1⟩)
  refine kn_P_set I.2.1 hw1 hm hq1 (fun z hz => ?_) hP1
  rcases kn_key_a (v := v1) (v' := sa v1 k1 (va_cpy (v0.2.1 k0) (v1.2.1 k1) sp.toNatClampNeg dp.toNatClampNeg n.toNatClampNeg)) (I.2.1.2 i1 _ hw1).1 hk1 rfl (kn_ac_sa hu) z hz with h | h
  · left
    rw [h]
    unfold kn_ac sa
    dsimp only
    rw [if_pos rfl]
    first | rfl | done
  · exact Or.inr h
end KNL
theorem kn_dec {code : ByteArray} {tab : List (Nat × (Instr × Nat))} (h : ∀ q ∈ tab, decode code q.1 = .ok q.2) (i : Nat) {pc len : Nat} {op : Instr} (hi : tab[i]? = some (pc, (op, len))) : decode code pc = .ok (op, len) := h (pc, (op, len)) (List.mem_of_getElem? hi)
