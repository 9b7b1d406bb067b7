/-! 'new C(); dup; <init>' in one row -/
theorem kn_fs_ad0 (q : Nat) : ∀ (l : List Nat) (k0 : Nat), kn_fs (kn_ad0 q) kn_v0 k0 l = kn_fs (kn_ad0 0) kn_v0 k0 l
  | [], _ => rfl
  | c :: l, k0 => by
    show kn_fv (kn_ad0 q) kn_v0 k0 c :: kn_fs (kn_ad0 q) kn_v0 (k0 + 1) l = kn_fv (kn_ad0 0) kn_v0 k0 c :: kn_fs (kn_ad0 0) kn_v0 (k0 + 1) l
    rw [kn_fs_ad0 q l (k0 + 1)]
    congr 1
theorem kn_flat_app {tc : Nat → ClassId} {w1 w2 : List CH} : kn_flat tc (w1 ++ w2) = kn_flat tc w1 ++ kn_flat tc w2 := List.flatMap_append
section KNMK
variable {p : Program} {l : Launch} {e : Env} {R : Room} {s : State} {m : MethodId} {args : Array Value} {below : List Frame} {meth : Method} {c : Code} {H : Heap} {locs : List Loc} {cells slots : Nat} {Q : State → Prop}
variable {cc bytes : ByteArray} {pc : Nat} {ls : Array Slot} {D : va_G} {tc : Nat → ClassId} {Z : (Nat → Nat) × (Nat → Nat)} {A : Nat → Prop} {w : List CH}
variable {own C host : String} {index index2 maxL nL mc ms : Nat} {y : MethodName} {rm : Room} {rest : List Value} {T : u_T} {N ci : Nat} {fl : List Nat} {kC : KD} {v0 : OV}
theorem kw_new (S0 : CallFix p m c cc nL s args kn_all own) (hK : va_K D vwCl (kn_tys tc) s) (hA : ∀ q, s.heap.size ≤ q → A q) (I : kn_I D tc A s.heap w H locs) (hin : ∀ w ∈ u_ws C T N, w ∈ kn_all) (ty : Nat → FieldType) (hty : ∀ k, k < N → parseFieldDescriptor (T k).2.2.1 = some (ty k)) (hcl : Cond.classLink own index C ∈ kn_all) (hinst : Cond.instantiable C N ∈ kn_all) (hini : Cond.initialized C ∈ kn_all) (hc : vwCl[ci]? = some (C, T, N)) (hd : ∀ j, j < N → defaultValue (ty j) = vp_V (kn_fs (kn_ad0 0) kn_v0 0 fl) j) (hcells : cells + 1 ≤ R.cells) (hslots : slots + N ≤ R.slots) (hdg : decode cc pc = .ok (.new index, 3))
    (kk : ∀ (q : Nat) (H1 : Heap), kn_I D tc A s.heap (w ++ [((some (ci, fl), []), kn_ad0 q, kn_v0)]) H1 locs → W p l e R s m args below meth c H1 locs (cells + 1) (slots + N) Q (F0 m (pc + 3) ls (.ref q :: rest))) : W p l e R s m args below meth c H locs cells slots Q (F0 m pc ls rest) := by
  obtain ⟨hx, hb, hml, hown, hts⟩ := S0
  refine va_new (fs := kn_fs (kn_ad0 0) kn_v0 0 fl) hx hb hts hin ty hty hown (hts _ hcl) (hts _ hinst) (hts _ hini) hK I.1 (kn_va_D I.2.1) I.2.2 hA hc hd hcells hslots hdg (fun q H1 hP hD hS => kk q H1 ?_)
  have e : kn_flat tc w ++ [(q, .inr (ci, kn_fs (kn_ad0 0) kn_v0 0 fl))] = kn_flat tc (w ++ [((some (ci, fl), []), kn_ad0 q, kn_v0)]) := by
    rw [kn_flat_app]
    congr 1
    show _ = [(kn_ad0 q 0, Sum.inr (ci, kn_fs (kn_ad0 q) kn_v0 0 fl))]
    rw [kn_fs_ad0 q]
    rfl
  rw [e] at hP hD
  exact kn_I_of _ hP hD hS
/-- the constructor's call, of a class's own or of a nest mate -/
theorem kw_initN (S0 : CallFix p m c cc nL s args kn_all own) (hK : va_K D vwCl (kn_tys tc) s) (hZ : kn_Z Z A s s.heap) (hA : ∀ q, s.heap.size ≤ q → A q) {q : Nat} {raw : KD} (I : kn_I D tc A s.heap (w ++ [(raw, kn_ad0 q, kn_v0)]) H locs) (hM : CTv l D tc Z y (Cond.code y bytes maxL none :: kn_all) rm mc ms [.ref q] [(raw, kn_ad0 q, kn_v0)] (fun (u : Nat → Nat) => [(kC, u, v0)]) (fun u => u 0 = q)) (j : Nat) (hn : kn_nest[j]? = some (own, index, y, host)) (hini : Cond.initialized y.cls ∈ kn_all) (hcode : Cond.code y bytes maxL none ∈ kn_all) (hinst : Cond.instanceMethod y ∈ kn_all) (hrc : rm.cells = mc) (hrs : rm.slots = ms) (hd : y.cls ≠ "java/lang/invoke/MethodHandle" ∧ y.cls ≠ "java/lang/invoke/VarHandle" ∧ (parseMethodDescriptor y.desc).map (fun d => d.parameters.length) = some 0) (hname : y.name = "<init>") (hR : rm.frames + 1 ≤ R.frames ∧ 8 + (maxL + 11) + rm.locals ≤ R.locals) (hsize : ls.size = nL) (hW : (rest.map fun v => v.category).sum ≤ 8) (hdg : decode cc pc = .ok (.invokespecial index, 3)) (hf : cells + mc ≤ R.cells ∧ slots + ms ≤ R.slots)
    (kk : ∀ (u : Nat → Nat) (H1 : Heap) (locs1 : List Loc), u 0 = q → kn_I D tc A s.heap (w ++ [(kC, u, v0)]) H1 locs1 → W p l e R s m args below meth c H1 locs1 (cells + mc) (slots + ms) Q (F0 m (pc + 3) ls rest)) : W p l e R s m args below meth c H locs cells slots Q (F0 m pc ls (.ref q :: rest)) := by
  have I2 : kn_I D tc A s.heap ([(raw, kn_ad0 q, kn_v0)] ++ w) H locs := I.perm List.perm_append_comm
  have hts := S0.2.2.2.2
  have hG : GoodIn kn_all (Cond.code y bytes maxL none :: kn_all) := by
    intro z hz
    rcases List.mem_cons.mp hz with rfl | h
    · exact ⟨hcode, good_of_word (kn_good hcode)⟩
    · exact ⟨h, good_of_word (kn_good h)⟩
  have cw : va_CN R s args own index y host bytes maxL none (Cond.code y bytes maxL none :: kn_all) rm mc ms 0 := va_cnB 0 hts hG rfl hrc hrs (hZ.2.2.2.1 _ (List.mem_of_getElem? hn)) (hts _ hini) hd hR
  refine kw_callv (wc := [(raw, kn_ad0 q, kn_v0)]) (wr := w) I2 hA (kn_pl1 _ _) (kn_pl2 _ _) (kn_pl1_ok _ _) (kn_pl2_ok _ _) (kn_pl2_nd _ _) (kn_pl_dis _ _) (va_runIN (As := []) (rest := rest) S0 (hM.met _) ⟨cw, hname, hts _ hinst⟩ ⟨kn_blind, fun U hU hW9 => ⟨rfl, kn_pre I2 hK hZ hA (kn_pl1 _ _) (kn_pl1_ok _ _) (kn_pl1_nd _ _) U hU hW9⟩⟩ rfl rfl hsize rfl (lv_room hW) hdg hf) (fun u H1 locs1 hp I3 => kk u H1 locs1 hp I3)
theorem kw_init (S0 : CallFix p m c cc nL s args kn_all own) (hK : va_K D vwCl (kn_tys tc) s) (hZ : kn_Z Z A s s.heap) (hA : ∀ q, s.heap.size ≤ q → A q) {q : Nat} {raw : KD} {U : Type} {w' : U → List CH} {post : U → Prop} (I : kn_I D tc A s.heap (w ++ [(raw, kn_ad0 q, kn_v0)]) H locs) (hM : CTv l D tc Z y (Cond.code y bytes maxL none :: kn_all) rm mc ms [.ref q] [(raw, kn_ad0 q, kn_v0)] w' post) (hlink : Cond.methodLink own index y ∈ kn_all) (hini : Cond.initialized y.cls ∈ kn_all) (hcode : Cond.code y bytes maxL none ∈ kn_all) (hinst : Cond.instanceMethod y ∈ kn_all) (hrc : rm.cells = mc) (hrs : rm.slots = ms) (hd : y.cls ≠ "java/lang/invoke/MethodHandle" ∧ y.cls ≠ "java/lang/invoke/VarHandle" ∧ (parseMethodDescriptor y.desc).map (fun d => d.parameters.length) = some 0) (hname : y.name = "<init>") (hR : rm.frames + 1 ≤ R.frames ∧ 8 + (maxL + 11) + rm.locals ≤ R.locals) (hsize : ls.size = nL) (hW : (rest.map fun v => v.category).sum ≤ 8) (hdg : decode cc pc = .ok (.invokespecial index, 3)) (hf : cells + mc ≤ R.cells ∧ slots + ms ≤ R.slots)
    (kk : ∀ (u : U) (H1 : Heap) (locs1 : List Loc), post u → kn_I D tc A s.heap (w ++ w' u) H1 locs1 → W p l e R s m args below meth c H1 locs1 (cells + mc) (slots + ms) Q (F0 m (pc + 3) ls rest)) : W p l e R s m args below meth c H locs cells slots Q (F0 m pc ls (.ref q :: rest)) := by
  have I2 : kn_I D tc A s.heap ([(raw, kn_ad0 q, kn_v0)] ++ w) H locs := I.perm List.perm_append_comm
  have hts := S0.2.2.2.2
  have hG : GoodIn kn_all (Cond.code y bytes maxL none :: kn_all) := by
    intro z hz
    rcases List.mem_cons.mp hz with rfl | h
    · exact ⟨hcode, good_of_word (kn_good hcode)⟩
    · exact ⟨h, good_of_word (kn_good h)⟩
  have cw := cwI (R := R) (s := s) (args := args) (own := own) (index := index) (y := y) (bytes := bytes) (maxL := maxL) (rm := rm) (mc := mc) (ms := ms) 0 hts hG rfl hrc hrs (hts _ hini) (hts _ hlink) (hts _ hinst) hname hd hR
  refine kw_callv (wc := [(raw, kn_ad0 q, kn_v0)]) (wr := w) I2 hA (kn_pl1 _ _) (kn_pl2 _ _) (kn_pl1_ok _ _) (kn_pl2_ok _ _) (kn_pl2_nd _ _) (kn_pl_dis _ _) (va_runI (As := []) (rest := rest) S0 (hM.met _) cw ⟨kn_blind, fun U hU hW9 => ⟨rfl, kn_pre I2 hK hZ hA (kn_pl1 _ _) (kn_pl1_ok _ _) (kn_pl1_nd _ _) U hU hW9⟩⟩ rfl rfl hsize rfl (lv_room hW) hdg hf) (fun u H1 locs1 hp I3 => kk u H1 locs1 hp I3)
end KNMK
