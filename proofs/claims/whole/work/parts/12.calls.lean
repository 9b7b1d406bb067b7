/-! CALLS over chunk worlds: first the run of a callee by its contract, then what the caller has behind it -/
section KNC
variable {p : Program} {l : Launch} {e : Env} {R : Room} {s : State} {m : MethodId} {args : Array Value} {below : List Frame} {meth : Method} {c : Code} {H : Heap} {locs : List Loc} {cells slots : Nat} {Q : State → Prop}
variable {cc bytes : ByteArray} {pc : Nat} {ls : Array Slot} {D : va_G} {tc : Nat → ClassId} {Z : (Nat → Nat) × (Nat → Nat)} {A : Nat → Prop} {H0 : Heap} {w wc wr : List CH}
variable {own C host : String} {index maxL nL mc ms n : Nat} {Ts ws : List Cond} {y : MethodName} {ret : Option FieldType} {rm : Room} {b : Addr} {As rest st0 : List Value} {T : u_T} {N ci : Nat} {fl : List Nat} {al : List (Nat × Nat × Nat)} {ad : Nat → Nat} {v : OV}
theorem kn_pre (I : kn_I D tc A s.heap w H locs) (hK : va_K D vwCl (kn_tys tc) s) (hZ : kn_Z Z A s s.heap) (hA : ∀ q, s.heap.size ≤ q → A q) (isC : List Nat) (hC : isC.map (fun i => w[i]?) = wc.map some) (hn : va_nd isC = true) : ∀ U : State, U.heap = H → s.WarmedH U.vm → kn_B D tc Z wc H.size U := fun U hU hW => ⟨by rw [hU], by rw [hU]; exact I.1.sub isC hC, va_K.moved hW.alike hK, I.2.1.sub isC hn hC (fun _ _ _ _ _ _ => trivial), hZ.call I.2.2 (kn_free I hA isC hC) hU hW⟩
theorem kn_recv (I : kn_I D tc A H0 w H locs) (hK : va_K D vwCl (kn_tys tc) s) (i : Nat) (hw : w[i]? = some ((some (ci, fl), al), ad, v)) (hb0 : ad 0 = b) (hc : vwCl[ci]? = some (C, T, N)) : ∃ cell : Cell, H[b]? = some cell ∧ cell.vm.isStatics = false ∧ s.vm.findClass C = some cell.cls := by
  obtain ⟨-, q0, hq⟩ := kn_cellO (tc := tc) hw
  rw [hb0] at hq
  exact va_recv hK I.1 hc hq
/-- the four ways to run a callee; Qc is any of the contracts' ends -/
theorem kn_runV (S0 : CallFix p m c cc nL s args Ts own) (hK : va_K D vwCl (kn_tys tc) s) (hZ : kn_Z Z A s s.heap) (hA : ∀ q, s.heap.size ≤ q → A q) (I : kn_I D tc A s.heap w H locs) {Qc : Array Value → State → Outcome → State → Prop} {free : Addr → Prop} (hM : Met l y ws rm (va_Pc (.ref b :: As) (kn_B D tc Z wc H.size)) Qc mc ms free) (cw : CallW R s args own C index y bytes maxL ret ws rm mc ms n) (isC : List Nat) (hC : isC.map (fun i => w[i]?) = wc.map some) (hn : va_nd isC = true) (i : Nat) (hw : w[i]? = some ((some (ci, fl), al), ad, v)) (hb0 : ad 0 = b) (hc : vwCl[ci]? = some (C, T, N)) (hlen : As.length = n) (hsize : ls.size = nL) (hst : st0 = As.reverse ++ .ref b :: rest) (hW : (rest.map fun v => v.category).sum ≤ 8) (hdg : decode cc pc = .ok (.invokevirtual index, 3)) (hf : cells + mc ≤ R.cells ∧ slots + ms ≤ R.slots) :
    va_Run p l e R s m args below meth c H locs cells slots mc ms (F0 m pc ls st0) rest (Qc (Value.ref b :: As).toArray) free :=
  va_runV (As := As) (rest := rest) S0 hM cw ⟨kn_blind, kn_recv I hK i hw hb0 hc, fun U hU hW => ⟨rfl, kn_pre I hK hZ hA isC hC hn U hU hW⟩⟩ rfl hlen hsize hst (lv_room hW) hdg hf
theorem kn_runS (S0 : CallFix p m c cc nL s args Ts own) (hK : va_K D vwCl (kn_tys tc) s) (hZ : kn_Z Z A s s.heap) (hA : ∀ q, s.heap.size ≤ q → A q) (I : kn_I D tc A s.heap w H locs) {Qc : Array Value → State → Outcome → State → Prop} {free : Addr → Prop} (hM : Met l y ws rm (va_Pc As (kn_B D tc Z wc H.size)) Qc mc ms free) (cw : CallB R s args own index y bytes maxL ret ws rm mc ms n ∧ (Cond.static y).before args s = true) (isC : List Nat) (hC : isC.map (fun i => w[i]?) = wc.map some) (hn : va_nd isC = true) (hlen : As.length = n) (hsize : ls.size = nL) (hst : st0 = As.reverse ++ rest) (hW : (rest.map fun v => v.category).sum ≤ 8) (hdg : decode cc pc = .ok (.invokestatic index, 3)) (hf : cells + mc ≤ R.cells ∧ slots + ms ≤ R.slots) :
    va_Run p l e R s m args below meth c H locs cells slots mc ms (F0 m pc ls st0) rest (Qc As.toArray) free :=
  va_runS (As := As) (rest := rest) S0 hM cw ⟨kn_blind, fun U hU hW => ⟨rfl, kn_pre I hK hZ hA isC hC hn U hU hW⟩⟩ rfl hlen hsize hst (lv_room hW) hdg hf
theorem kn_runI (S0 : CallFix p m c cc nL s args Ts own) (hK : va_K D vwCl (kn_tys tc) s) (hZ : kn_Z Z A s s.heap) (hA : ∀ q, s.heap.size ≤ q → A q) (I : kn_I D tc A s.heap w H locs) {Qc : Array Value → State → Outcome → State → Prop} {free : Addr → Prop} (hM : Met l y ws rm (va_Pc (.ref b :: As) (kn_B D tc Z wc H.size)) Qc mc ms free) (cw : CallB R s args own index y bytes maxL none ws rm mc ms n ∧ y.name = "<init>" ∧ (Cond.instanceMethod y).before args s = true) (isC : List Nat) (hC : isC.map (fun i => w[i]?) = wc.map some) (hn : va_nd isC = true) (hlen : As.length = n) (hsize : ls.size = nL) (hst : st0 = As.reverse ++ .ref b :: rest) (hW : (rest.map fun v => v.category).sum ≤ 8) (hdg : decode cc pc = .ok (.invokespecial index, 3)) (hf : cells + mc ≤ R.cells ∧ slots + ms ≤ R.slots) :
    va_Run p l e R s m args below meth c H locs cells slots mc ms (F0 m pc ls st0) rest (Qc (Value.ref b :: As).toArray) free :=
  va_runI (As := As) (rest := rest) S0 hM cw ⟨kn_blind, fun U hU hW => ⟨rfl, kn_pre I hK hZ hA isC hC hn U hU hW⟩⟩ rfl hlen hsize hst (lv_room hW) hdg hf
theorem kw_calli {S : Type} {w' : S → List CH} {post : Int32 → S → Prop} {a : Array Value} (I : kn_I D tc A H0 w H locs) (hA : ∀ q, H0.size ≤ q → A q) (isC isR : List Nat) (hC : isC.map (fun i => w[i]?) = wc.map some) (hR : isR.map (fun i => w[i]?) = wr.map some) (hn : va_nd isR = true) (hdis : ∀ i ∈ isR, i ∉ isC)
    (hr : va_Run p l e R s m args below meth c H locs cells slots mc ms (F0 m pc ls st0) rest (va_Qi post (kn_O D tc w' (kn_A wc H.size)) (kn_A wc H.size) a) (kn_A wc H.size))
    (kk : ∀ (r : Int32) (u : S) (H1 : Heap) (locs1 : List Loc), post r u → kn_I D tc A H0 (wr ++ w' u) H1 locs1 → W p l e R s m args below meth c H1 locs1 (cells + mc) (slots + ms) Q (F0 m (pc + 3) ls (.int r :: rest))) : W p l e R s m args below meth c H locs cells slots Q (F0 m pc ls st0) := by
  have hF := kn_free I hA isC hC
  refine va_calli hr I.2.2 (fun q _ h => hF q h) hF (fun r u t H1 locs1 ht hvm hp hB hz hk hS => ?_)
  obtain ⟨hP1, hD1⟩ := hB
  rw [ht] at hP1
  obtain ⟨hP2, hD2⟩ := kn_join I hF isC isR hC hR hn hdis hk hP1 hD1
  exact kk r u H1 locs1 hp ⟨hP2, hD2, hS⟩
theorem kw_calll {S : Type} {w' : S → List CH} {post : Int64 → S → Prop} {a : Array Value} (I : kn_I D tc A H0 w H locs) (hA : ∀ q, H0.size ≤ q → A q) (isC isR : List Nat) (hC : isC.map (fun i => w[i]?) = wc.map some) (hR : isR.map (fun i => w[i]?) = wr.map some) (hn : va_nd isR = true) (hdis : ∀ i ∈ isR, i ∉ isC)
    (hr : va_Run p l e R s m args below meth c H locs cells slots mc ms (F0 m pc ls st0) rest (va_Ql post (kn_O D tc w' (kn_A wc H.size)) (kn_A wc H.size) a) (kn_A wc H.size))
    (kk : ∀ (r : Int64) (u : S) (H1 : Heap) (locs1 : List Loc), post r u → kn_I D tc A H0 (wr ++ w' u) H1 locs1 → W p l e R s m args below meth c H1 locs1 (cells + mc) (slots + ms) Q (F0 m (pc + 3) ls (.long r :: rest))) : W p l e R s m args below meth c H locs cells slots Q (F0 m pc ls st0) := by
  have hF := kn_free I hA isC hC
  refine va_calll hr I.2.2 (fun q _ h => hF q h) hF (fun r u t H1 locs1 ht hvm hp hB hz hk hS => ?_)
  obtain ⟨hP1, hD1⟩ := hB
  rw [ht] at hP1
  obtain ⟨hP2, hD2⟩ := kn_join I hF isC isR hC hR hn hdis hk hP1 hD1
  exact kk r u H1 locs1 hp ⟨hP2, hD2, hS⟩
theorem kw_callv {S : Type} {w' : S → List CH} {post : S → Prop} {a : Array Value} (I : kn_I D tc A H0 w H locs) (hA : ∀ q, H0.size ≤ q → A q) (isC isR : List Nat) (hC : isC.map (fun i => w[i]?) = wc.map some) (hR : isR.map (fun i => w[i]?) = wr.map some) (hn : va_nd isR = true) (hdis : ∀ i ∈ isR, i ∉ isC)
    (hr : va_Run p l e R s m args below meth c H locs cells slots mc ms (F0 m pc ls st0) rest (va_Qv post (kn_O D tc w' (kn_A wc H.size)) (kn_A wc H.size) a) (kn_A wc H.size))
    (kk : ∀ (u : S) (H1 : Heap) (locs1 : List Loc), post u → kn_I D tc A H0 (wr ++ w' u) H1 locs1 → W p l e R s m args below meth c H1 locs1 (cells + mc) (slots + ms) Q (F0 m (pc + 3) ls rest)) : W p l e R s m args below meth c H locs cells slots Q (F0 m pc ls st0) := by
  have hF := kn_free I hA isC hC
  refine va_callv hr I.2.2 (fun q _ h => hF q h) hF (fun u t H1 locs1 ht hvm hp hB hz hk hS => ?_)
  obtain ⟨hP1, hD1⟩ := hB
  rw [ht] at hP1
  obtain ⟨hP2, hD2⟩ := kn_join I hF isC isR hC hR hn hdis hk hP1 hD1
  exact kk u H1 locs1 hp ⟨hP2, hD2, hS⟩
theorem kw_callq {S : Type} {w' : S → List CH} {post : Option Nat → S → Prop} {a : Array Value} (I : kn_I D tc A H0 w H locs) (hA : ∀ q, H0.size ≤ q → A q) (isC isR : List Nat) (hC : isC.map (fun i => w[i]?) = wc.map some) (hR : isR.map (fun i => w[i]?) = wr.map some) (hn : va_nd isR = true) (hdis : ∀ i ∈ isR, i ∉ isC)
    (hr : va_Run p l e R s m args below meth c H locs cells slots mc ms (F0 m pc ls st0) rest (va_Qq post (kn_O D tc w' (kn_A wc H.size)) (kn_A wc H.size) a) (kn_A wc H.size))
    (kk : ∀ (r : Option Nat) (u : S) (H1 : Heap) (locs1 : List Loc), post r u → kn_I D tc A H0 (wr ++ w' u) H1 locs1 → W p l e R s m args below meth c H1 locs1 (cells + mc) (slots + ms) Q (F0 m (pc + 3) ls (va_rf r :: rest))) : W p l e R s m args below meth c H locs cells slots Q (F0 m pc ls st0) := by
  have hF := kn_free I hA isC hC
  refine va_callq hr I.2.2 (fun q _ h => hF q h) hF (fun r u t H1 locs1 ht hvm hp hB hz hk hS => ?_)
  obtain ⟨hP1, hD1⟩ := hB
  rw [ht] at hP1
  obtain ⟨hP2, hD2⟩ := kn_join I hF isC isR hC hR hn hdis hk hP1 hD1
  exact kk r u H1 locs1 hp ⟨hP2, hD2, hS⟩
/-- a contract's ends -/
theorem kw_iret {w0 : List CH} {S : Type} {w' : S → List CH} {post : Int32 → S → Prop} {r : Int32} (hx : p.tables.exec = Jvm.exec) (hb : c.code = cc) (hr : meth.sig.returnType = some .int) (hlocks : meth.locks = false) (I : kn_I D tc (kn_A w0 s.heap.size) s.heap w H locs) (u : S) (hw : w = w' u) (hp : post r u) (hdg : decode cc pc = .ok (.ireturn, 1)) :
    W p l e R s m args below meth c H locs cells slots (MQ below (va_Qi post (kn_O D tc w' (kn_A w0 s.heap.size)) (kn_A w0 s.heap.size)) args s cells slots (kn_A w0 s.heap.size)) (F0 m pc ls [.int r]) := by
  subst hw
  exact W.iret (v := r) hx hb hr (fun t ht hW => ⟨⟨r, u, rfl, hp, by rw [ht]; exact I.1, I.2.1⟩, I.2.2.F ht⟩) I.2.2.2.2 hdg hlocks
theorem kw_zret {w0 : List CH} {S : Type} {w' : S → List CH} {post : Int32 → S → Prop} {r : Int32} {ty : FieldType} (hx : p.tables.exec = Jvm.exec) (hb : c.code = cc) (hr : meth.sig.returnType = some ty) (hn : narrow ty (.int r) = .int r) (hlocks : meth.locks = false) (I : kn_I D tc (kn_A w0 s.heap.size) s.heap w H locs) (u : S) (hw : w = w' u) (hp : post r u) (hdg : decode cc pc = .ok (.ireturn, 1)) :
    W p l e R s m args below meth c H locs cells slots (MQ below (va_Qi post (kn_O D tc w' (kn_A w0 s.heap.size)) (kn_A w0 s.heap.size)) args s cells slots (kn_A w0 s.heap.size)) (F0 m pc ls [.int r]) := by
  subst hw
  exact W.zret (v := r) hx hb hr hn (fun t ht hW => ⟨⟨r, u, rfl, hp, by rw [ht]; exact I.1, I.2.1⟩, I.2.2.F ht⟩) I.2.2.2.2 hdg hlocks
theorem kw_lret {w0 : List CH} {S : Type} {w' : S → List CH} {post : Int64 → S → Prop} {r : Int64} (hx : p.tables.exec = Jvm.exec) (hb : c.code = cc) (hr : meth.sig.returnType = some .long) (hlocks : meth.locks = false) (I : kn_I D tc (kn_A w0 s.heap.size) s.heap w H locs) (u : S) (hw : w = w' u) (hp : post r u) (hdg : decode cc pc = .ok (.lreturn, 1)) :
    W p l e R s m args below meth c H locs cells slots (MQ below (va_Ql post (kn_O D tc w' (kn_A w0 s.heap.size)) (kn_A w0 s.heap.size)) args s cells slots (kn_A w0 s.heap.size)) (F0 m pc ls [.long r]) := by
  subst hw
  exact W.lret (v := r) hx hb hr (fun t ht hW => ⟨⟨r, u, rfl, hp, by rw [ht]; exact I.1, I.2.1⟩, I.2.2.F ht⟩) I.2.2.2.2 hdg hlocks
theorem kw_vret {w0 : List CH} {S : Type} {w' : S → List CH} {post : S → Prop} (hx : p.tables.exec = Jvm.exec) (hb : c.code = cc) (hr : meth.sig.returnType = none) (hlocks : meth.locks = false) (I : kn_I D tc (kn_A w0 s.heap.size) s.heap w H locs) (u : S) (hw : w = w' u) (hp : post u) (hdg : decode cc pc = .ok (.return_, 1)) :
    W p l e R s m args below meth c H locs cells slots (MQ below (va_Qv post (kn_O D tc w' (kn_A w0 s.heap.size)) (kn_A w0 s.heap.size)) args s cells slots (kn_A w0 s.heap.size)) (F0 m pc ls []) := by
  subst hw
  exact W.vret hx hb hr (fun t ht hW => ⟨⟨u, rfl, hp, by rw [ht]; exact I.1, I.2.1⟩, I.2.2.F ht⟩) I.2.2.2.2 hdg hlocks
theorem kw_aret {w0 : List CH} {S : Type} {w' : S → List CH} {post : Option Nat → S → Prop} {r : Option Nat} {x : Value} {rt : FieldType} (hx : p.tables.exec = Jvm.exec) (hb : c.code = cc) (hr : meth.sig.returnType = some rt) (hrt : (∃ n, rt = .object n) ∨ ∃ t, rt = .array t) (hlocks : meth.locks = false) (I : kn_I D tc (kn_A w0 s.heap.size) s.heap w H locs) (u : S) (hw : w = w' u) (hxr : va_rf r = x) (hp : post r u) (hdg : decode cc pc = .ok (.areturn, 1)) :
    W p l e R s m args below meth c H locs cells slots (MQ below (va_Qq post (kn_O D tc w' (kn_A w0 s.heap.size)) (kn_A w0 s.heap.size)) args s cells slots (kn_A w0 s.heap.size)) (F0 m pc ls [x]) := by
  subst hw
  subst hxr
  refine W.aret (v := va_rf r) hx hb hr hrt ?_ (fun t ht hW => ⟨⟨r, u, rfl, hp, by rw [ht]; exact I.1, I.2.1⟩, I.2.2.F ht⟩) I.2.2.2.2 hdg hlocks
  cases r with
  | none => exact Or.inl rfl
  | some a => exact Or.inr ⟨a, rfl⟩
end KNC
