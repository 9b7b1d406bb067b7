/-! 'new int[7][4]', and the constructor's call of a nest mate that makes more -/
theorem kn_rot (A P B : List CH) : ((A ++ P) ++ B).Perm ((A ++ B) ++ P) := by
  rw [List.append_assoc, List.append_assoc]
  exact List.Perm.append_left A List.perm_append_comm
def kn_adG (q : Nat) (r : Nat → Nat) : Nat → Nat := fun j => if j = 1 then q else if j < 1000 then 0 else if (j - 1000) % 200 = 0 ∧ (j - 1000) / 200 < 7 then r ((j - 1000) / 200) + 1 else 0
theorem kn_adG_q {q : Nat} {r : Nat → Nat} : kn_q (kn_adG q r) 0 = (fun i => if i < 7 then some (r i) else none) := by
  funext i
  unfold kn_q kn_adG
  rw [if_neg (show ¬ 1000 + 200 * i + 0 = 1 by omega), if_neg (show ¬ 1000 + 200 * i + 0 < 1000 by omega)]
  have e : (1000 + 200 * i + 0 - 1000) / 200 = i := by omega
  have e2 : (1000 + 200 * i + 0 - 1000) % 200 = 0 := by omega
  rw [e, e2]
  by_cases h : i < 7
  · rw [if_pos ⟨rfl, h⟩, if_pos h]
  · rw [if_neg (fun c => h c.2), if_neg h]
section KNMN
variable {p : Program} {l : Launch} {e : Env} {R : Room} {s : State} {m : MethodId} {args : Array Value} {below : List Frame} {meth : Method} {c : Code} {H : Heap} {locs : List Loc} {cells slots : Nat} {Q : State → Prop}
variable {cc bytes : ByteArray} {pc : Nat} {ls : Array Slot} {D : va_G} {tc : Nat → ClassId} {Z : (Nat → Nat) × (Nat → Nat)} {A : Nat → Prop} {H0 : Heap} {w : List CH}
variable {own host : String} {index maxL nL mc ms : Nat} {y : MethodName} {rm : Room} {rest : List Value}
theorem kw_mna (hexec : p.tables.exec = Jvm.exec) (hb : c.code = cc) (hown : s.vm.findClass own = some m.cls) (hclink : (Cond.classLink own index "[[I").before args s = true) (hover : va_AOA .int s) (harr : (Cond.arrayClass .int).before args s = true) (hK : va_K D vwCl (kn_tys tc) s) (hA : ∀ q, H0.size ≤ q → A q) (I : kn_I D tc A H0 w H locs) (hcells : cells + (1 + 7) ≤ R.cells) (hslots : slots + (7 + 7 * 4) ≤ R.slots) (hdg : decode cc pc = .ok (.multianewarray index 2, 4))
    (kk : ∀ (q : Nat) (r : Nat → Nat) (H1 : Heap), kn_I D tc A H0 (w ++ [(kArr 7 7, kn_adG q r, kn_v0), (kArr 0 4, kn_ad1 (r 0), kn_v0), (kArr 0 4, kn_ad1 (r 1), kn_v0), (kArr 0 4, kn_ad1 (r 2), kn_v0), (kArr 0 4, kn_ad1 (r 3), kn_v0), (kArr 0 4, kn_ad1 (r 4), kn_v0), (kArr 0 4, kn_ad1 (r 5), kn_v0), (kArr 0 4, kn_ad1 (r 6), kn_v0)]) H1 locs → W p l e R s m args below meth c H1 locs (cells + 1 + 7) (slots + 7 + 7 * 4) Q (F0 m (pc + 4) ls (.ref q :: rest))) : W p l e R s m args below meth c H locs cells slots Q (F0 m pc ls (.int 4 :: .int 7 :: rest)) := by
  have hP : va_P D vwCl (kn_flat tc w ++ va_pl [] (fun _ => .inl (tc 0, 0, .inl (fun _ => 0)))) H := by
    rw [show va_pl [] (fun _ => (.inl (tc 0, 0, .inl (fun _ => 0)) : va_E)) = [] from rfl, List.append_nil]
    exact I.1
  have hD : va_D A (kn_flat tc w ++ va_pl [] (fun _ => .inl (tc 0, 0, .inl (fun _ => 0)))) := by
    rw [show va_pl [] (fun _ => (.inl (tc 0, 0, .inl (fun _ => 0)) : va_E)) = [] from rfl, List.append_nil]
    exact kn_va_D I.2.1
  refine va_mna (ty := .int) (cy := tc 0) (z := (4, .inl (fun _ => 0))) hexec hb hown hclink hover harr (hK.2 0 _ rfl).2 hK hP hD I.2.2 hA (N' := 7) (K' := 4) (by decide) (by decide) (by decide) (by decide) (by decide) (by decide) (by decide) rfl rfl hcells hslots (fun _ => rfl) hdg (fun q r cA H1 _ _ hK9 hP1 hD1 hS1 => ?_)
  have h1 : s.vm.findClass ("[" ++ (FieldType.array .int).toString) = some (tc 7) := (hK.2 7 _ rfl).2
  have h2 : s.vm.findClass ("[" ++ (FieldType.array .int).toString) = some cA := (hK9.2 8 _ rfl).2
  have hcA : cA = tc 7 := Option.some.inj (h2.symm.trans h1)
  subst hcA
  have e1 : va_pl ([] ++ (List.range 7).map r) (vr_up (fun _ => (.inl (tc 0, 0, .inl (fun _ => 0)) : va_E)) ((List.range 7).map r) (.inl (tc 0, (4, .inl (fun _ => 0))))) = ((List.range 7).map r).map (fun a => (a, (.inl (tc 0, (4, .inl (fun _ => 0))) : va_E))) := by
    unfold va_pl
    refine List.map_congr_left (fun a ha => ?_)
    exact congrArg (fun z => (a, z)) (vr_up_in ha)
  rw [e1, List.append_assoc] at hP1 hD1
  have e : kn_flat tc w ++ ([(q, .inl (tc 7, 7, .inr (.inr (.inr (.inr (fun i => if i < 7 then some (r i) else none))))))] ++ ((List.range 7).map r).map (fun a => (a, (.inl (tc 0, (4, .inl (fun _ => 0))) : va_E)))) = kn_flat tc (w ++ [(kArr 7 7, kn_adG q r, kn_v0), (kArr 0 4, kn_ad1 (r 0), kn_v0), (kArr 0 4, kn_ad1 (r 1), kn_v0), (kArr 0 4, kn_ad1 (r 2), kn_v0), (kArr 0 4, kn_ad1 (r 3), kn_v0), (kArr 0 4, kn_ad1 (r 4), kn_v0), (kArr 0 4, kn_ad1 (r 5), kn_v0), (kArr 0 4, kn_ad1 (r 6), kn_v0)]) := by
    rw [kn_flat_app, ← kn_adG_q]
    rfl
  rw [e] at hP1 hD1
  exact kk q r H1 (kn_I_of _ hP1 hD1 hS1)
theorem kw_initM (S0 : CallFix p m c cc nL s args kn_all own) (hK : va_K D vwCl (kn_tys tc) s) (hZ : kn_Z Z A s s.heap) (hA : ∀ q, s.heap.size ≤ q → A q) {q : Nat} {raw : KD} {U : Type} {w' : U → List CH} {post : U → Prop} (I : kn_I D tc A s.heap (w ++ [(raw, kn_ad0 q, kn_v0)]) H locs) (hM : CTv l D tc Z y (Cond.code y bytes maxL none :: kn_all) rm mc ms [.ref q] [(raw, kn_ad0 q, kn_v0)] w' post) (j : Nat) (hn : kn_nest[j]? = some (own, index, y, host)) (hini : Cond.initialized y.cls ∈ kn_all) (hcode : Cond.code y bytes maxL none ∈ kn_all) (hinst : Cond.instanceMethod y ∈ kn_all) (hrc : rm.cells = mc) (hrs : rm.slots = ms) (hd : y.cls ≠ "java/lang/invoke/MethodHandle" ∧ y.cls ≠ "java/lang/invoke/VarHandle" ∧ (parseMethodDescriptor y.desc).map (fun d => d.parameters.length) = some 0) (hname : y.name = "<init>") (hR : rm.frames + 1 ≤ R.frames ∧ 8 + (maxL + 11) + rm.locals ≤ R.locals) (hsize : ls.size = nL) (hW : (rest.map fun v => v.category).sum ≤ 8) (hdg : decode cc pc = .ok (.invokespecial index, 3)) (hf : cells + mc ≤ R.cells ∧ slots + ms ≤ R.slots)
    (kk : ∀ (u : U) (H1 : Heap) (locs1 : List Loc), post u → kn_I D tc A s.heap (w ++ w' u) H1 locs1 → W p l e R s m args below meth c H1 locs1 (cells + mc) (slots + ms) Q (F0 m (pc + 3) ls rest)) : W p l e R s m args below meth c H locs cells slots Q (F0 m pc ls (.ref q :: rest)) := by
  have I2 : kn_I D tc A s.heap ([(raw, kn_ad0 q, kn_v0)] ++ w) H locs := I.perm List.perm_append_comm
  have hts := S0.2.2.2.2
  have hG : GoodIn kn_all (Cond.code y bytes maxL none :: kn_all) := by
    intro z hz
    rcases List.mem_cons.mp hz with rfl | h
    · exact ⟨hcode, good_of_word (kn_good hcode)⟩
    · exact ⟨h, good_of_word (kn_good h)⟩
  have cw : va_CN R s args own index y host bytes maxL none (Cond.code y bytes maxL none :: kn_all) rm mc ms 0 := va_cnB 0 hts hG rfl hrc hrs (hZ.2.2.2.1 _ (List.mem_of_getElem? hn)) (hts _ hini) hd hR
  refine kw_callv (wc := [(raw, kn_ad0 q, kn_v0)]) (wr := w) I2 hA (kn_pl1 _ _) (kn_pl2 _ _) (kn_pl1_ok _ _) (kn_pl2_ok _ _) (kn_pl2_nd _ _) (kn_pl_dis _ _) (va_runIN (As := []) (rest := rest) S0 (hM.met _) ⟨cw, hname, hts _ hinst⟩ ⟨kn_blind, fun U hU hW9 => ⟨rfl, kn_pre I2 hK hZ hA (kn_pl1 _ _) (kn_pl1_ok _ _) (kn_pl1_nd _ _) U hU hW9⟩⟩ rfl rfl hsize rfl (lv_room hW) hdg hf) (fun u H1 locs1 hp I3 => kk u H1 locs1 hp I3)
end KNMN
