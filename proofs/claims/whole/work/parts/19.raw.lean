/-! OBJECTS IN THE MAKING: every reference may be null (code 2) -/
theorem kn_fs_eq3 {ad : Nat → Nat} {v : OV} {k a : Nat} : ∀ (l : List Nat) (k0 : Nat), k < k0 → kn_fs (kn_up ad k a) v k0 l = kn_fs ad v k0 l := fun l k0 h => kn_fs_eq2 l k0 h
theorem kn_fs_set3 {ad : Nat → Nat} {v : OV} {a : Nat} : ∀ (l : List Nat) (k0 k : Nat), l[k]? = some 2 → kn_fs (kn_up ad (k0 + k) (a + 1)) v k0 l = (kn_fs ad v k0 l).set k (.ref a)
  | [], _, k, h => by simp at h
  | c0 :: l, k0, 0, h => by
    rw [List.getElem?_cons_zero] at h
    cases h
    show kn_fv (kn_up ad k0 (a + 1)) v k0 2 :: kn_fs (kn_up ad k0 (a + 1)) v (k0 + 1) l = .ref a :: kn_fs ad v (k0 + 1) l
    rw [kn_fs_eq2 l (k0 + 1) (by omega)]
    congr 1
    show va_rf (kn_o (kn_up ad k0 (a + 1) (k0 + 1))) = .ref a
    rw [kn_up_s]
    rfl
  | c0 :: l, k0, k + 1, h => by
    rw [List.getElem?_cons_succ] at h
    show kn_fv (kn_up ad (k0 + (k + 1)) (a + 1)) v k0 c0 :: kn_fs (kn_up ad (k0 + (k + 1)) (a + 1)) v (k0 + 1) l = kn_fv ad v k0 c0 :: (kn_fs ad v (k0 + 1) l).set k (.ref a)
    have e : k0 + (k + 1) = k0 + 1 + k := by omega
    rw [e, kn_fs_set3 l (k0 + 1) k h]
    congr 1
    unfold kn_fv
    rw [kn_up_n (by omega)]
theorem kn_conv {D : va_G} {tc : Nat → ClassId} {A : Nat → Prop} {H0 H : Heap} {w w' : List CH} {locs : List Loc} (I : kn_I D tc A H0 w H locs) (h : kn_flat tc w = kn_flat tc w') : kn_I D tc A H0 w' H locs := by
  have hP := I.1
  have hD := kn_va_D (tc := tc) I.2.1
  unfold kn_P at hP
  rw [h] at hP hD
  exact kn_I_of _ hP hD I.2.2
def kn_ad1 (q : Nat) : Nat → Nat := fun j => if j = 1 then q else 0
def kArr (t n : Nat) : KD := (none, [(0, t, n)])
section KNRW
variable {p : Program} {l : Launch} {e : Env} {R : Room} {s : State} {m : MethodId} {args : Array Value} {below : List Frame} {meth : Method} {c : Code} {H : Heap} {locs : List Loc} {cells slots : Nat} {Q : State → Prop}
variable {cc : ByteArray} {pc : Nat} {ls : Array Slot} {rest : List Value} {D : va_G} {tc : Nat → ClassId} {A : Nat → Prop} {H0 : Heap} {w : List CH}
variable {own C : String} {T : u_T} {N ci index : Nat} {Ts : List Cond} {fl : List Nat} {ad : Nat → Nat} {v : OV}
/-- a final reference is set, in a constructor -/
theorem kw_putF (hexec : p.tables.exec = Jvm.exec) (hb : c.code = cc) (hts : ∀ w ∈ Ts, w.before args s = true) (hin : ∀ w ∈ u_ws C T N, w ∈ Ts) (ty0 : Nat → FieldType) (hty : ∀ k, k < N → parseFieldDescriptor (T k).2.2.1 = some (ty0 k)) (hnm : ∀ a, a < N → ∀ b, b < N → a ≠ b → (T a).2.1 ≠ (T b).2.1) (hown : s.vm.findClass own = some m.cls) (hK : va_K D vwCl (kn_tys tc) s) (I : kn_I D tc A H0 w H locs) (i : Nat) (hw : w[i]? = some ((some (ci, fl), []), ad, v)) (hc : vwCl[ci]? = some (C, T, N)) (k : Nat) (hk : k < N) (hf : fl[k]? = some 2) (hlink : (Cond.fieldLink own index (T k).1 (T k).2.1 (T k).2.2.1).before args s = true) (hfin : (T k).2.2.2 = true) (hin2 : meth.name = "<init>") (hdecl : (T k).1 = own) {a : Nat} (hn : narrow (ty0 k) (.ref a) = .ref a) (hfit : fits (ty0 k) (.ref a) = true) (hdg : decode cc pc = .ok (.putfield index, 3))
    (kk : ∀ (H1 : Heap) (locs1 : List Loc), kn_I D tc A H0 (w.set i ((some (ci, fl), []), kn_up ad k (a + 1), v)) H1 locs1 → W p l e R s m args below meth c H1 locs1 cells slots Q (F0 m (pc + 3) ls rest)) : W p l e R s m args below meth c H locs cells slots Q (F0 m pc ls (.ref a :: .ref (ad 0) :: rest)) := by
  obtain ⟨hm, q0, hq⟩ := kn_cellO (tc := tc) hw
  have he : kn_ads ((some (ci, fl), []), kn_up ad k (a + 1), v) = kn_ads ((some (ci, fl), []), ad, v) := kn_up_ads (kd := (some (ci, fl), [])) (fun b hb => by cases hb)
  refine va_putF hexec hb hts hin ty0 hty hnm hown hK I.1 (kn_va_D I.2.1) I.2.2 q0 hq hc k hk hlink (fun _ h => h) hfin hin2 hdecl (hty k hk) hn hfit (kn_fs_lt hf) hdg (fun H1 locs1 hP1 _ hS1 => kk H1 locs1 ⟨?_, I.2.1.set hw he, hS1⟩)
  refine kn_P_set I.2.1 hw hm hq (fun y hy => ?_) hP1
  rcases List.mem_append.mp hy with h | h
  · left
    have h1 : y = kn_oc (kn_up ad k (a + 1)) v (ci, fl) := List.mem_singleton.mp h
    rw [h1]
    unfold kn_oc
    rw [kn_up_0]
    refine congrArg (fun z => (ad 0, Sum.inr (ci, z))) ?_
    have e0 := kn_fs_set3 (ad := ad) (v := v) (a := a) fl 0 k hf
    rw [Nat.zero_add] at e0
    exact e0
  · cases h
/-- another reference is set -/
theorem kw_putN (hexec : p.tables.exec = Jvm.exec) (hb : c.code = cc) (hts : ∀ w ∈ Ts, w.before args s = true) (hin : ∀ w ∈ u_ws C T N, w ∈ Ts) (ty0 : Nat → FieldType) (hty : ∀ k, k < N → parseFieldDescriptor (T k).2.2.1 = some (ty0 k)) (hnm : ∀ a, a < N → ∀ b, b < N → a ≠ b → (T a).2.1 ≠ (T b).2.1) (hown : s.vm.findClass own = some m.cls) (hK : va_K D vwCl (kn_tys tc) s) (I : kn_I D tc A H0 w H locs) (i : Nat) (hw : w[i]? = some ((some (ci, fl), []), ad, v)) (hc : vwCl[ci]? = some (C, T, N)) (k : Nat) (hk : k < N) (hf : fl[k]? = some 2) (hlink : (Cond.fieldLink own index (T k).1 (T k).2.1 (T k).2.2.1).before args s = true) (hfin : (T k).2.2.2 = false) {a : Nat} (hn : narrow (ty0 k) (.ref a) = .ref a) (hfit : fits (ty0 k) (.ref a) = true) (hdg : decode cc pc = .ok (.putfield index, 3))
    (kk : ∀ (H1 : Heap) (locs1 : List Loc), kn_I D tc A H0 (w.set i ((some (ci, fl), []), kn_up ad k (a + 1), v)) H1 locs1 → W p l e R s m args below meth c H1 locs1 cells slots Q (F0 m (pc + 3) ls rest)) : W p l e R s m args below meth c H locs cells slots Q (F0 m pc ls (.ref a :: .ref (ad 0) :: rest)) := by
  obtain ⟨hm, q0, hq⟩ := kn_cellO (tc := tc) hw
  have he : kn_ads ((some (ci, fl), []), kn_up ad k (a + 1), v) = kn_ads ((some (ci, fl), []), ad, v) := kn_up_ads (kd := (some (ci, fl), [])) (fun b hb => by cases hb)
  refine va_put hexec hb hts hin ty0 hty hnm hown hK I.1 (kn_va_D I.2.1) I.2.2 q0 hq hc k hk hlink (fun _ h => h) hfin (hty k hk) hn hfit (kn_fs_lt hf) hdg (fun H1 locs1 hP1 _ hS1 => kk H1 locs1 ⟨?_, I.2.1.set hw he, hS1⟩)
  refine kn_P_set I.2.1 hw hm hq (fun y hy => ?_) hP1
  rcases List.mem_append.mp hy with h | h
  · left
    have h1 : y = kn_oc (kn_up ad k (a + 1)) v (ci, fl) := List.mem_singleton.mp h
    rw [h1]
    unfold kn_oc
    rw [kn_up_0]
    refine congrArg (fun z => (ad 0, Sum.inr (ci, z))) ?_
    have e0 := kn_fs_set3 (ad := ad) (v := v) (a := a) fl 0 k hf
    rw [Nat.zero_add] at e0
    exact e0
  · cases h
theorem kw_newI (hexec : p.tables.exec = Jvm.exec) (hb : c.code = cc) (harr : (Cond.arrayClass (newarray.typeOf .int)).before args s = true) (hK : va_K D vwCl (kn_tys tc) s) (hA : ∀ q, H0.size ≤ q → A q) (I : kn_I D tc A H0 w H locs) {n : Int32} {N' : Nat} (hn : ¬ n < 0) (hN : n.toNatClampNeg = N') (hbytes : N' * componentBytes .int ≤ 536870912) (hcells : cells + 1 ≤ R.cells) (hslots : slots + N' ≤ R.slots) (hdg : decode cc pc = .ok (.newarray .int, 2))
    (kk : ∀ (q : Nat) (H1 : Heap), kn_I D tc A H0 (w ++ [(kArr 0 N', kn_ad1 q, kn_v0)]) H1 locs → W p l e R s m args below meth c H1 locs (cells + 1) (slots + N') Q (F0 m (pc + 2) ls (.ref q :: rest))) : W p l e R s m args below meth c H locs cells slots Q (F0 m pc ls (.int n :: rest)) := by
  refine va_newa (atype := .int) (ty := .int) (a0 := (N', .inl (fun _ => 0))) hexec hb harr rfl hK I.1 (kn_va_D I.2.1) I.2.2 hA (fun _ => rfl) hn hN hbytes hcells hslots hdg (fun q cA H1 hK9 hP hD hS => ?_)
  have hcA := kn_cAi hK hK9
  subst hcA
  have e : kn_flat tc w ++ [(q, .inl (tc 0, (N', .inl (fun _ => 0))))] = kn_flat tc (w ++ [(kArr 0 N', kn_ad1 q, kn_v0)]) := by
    rw [kn_flat_app]
    rfl
  rw [e] at hP hD
  exact kk q H1 (kn_I_of _ hP hD hS)
theorem kn_cAq {cl : List vw_C} {cA : ClassId} (t : Nat) {E : String} (ht : (kn_tys tc)[t]? = some (tc t, .object E)) (h0 : va_K D cl (kn_tys tc) s) (h : va_K D cl (kn_tys tc ++ [(cA, .object E)]) s) : cA = tc t := by
  obtain ⟨-, -, -, -, -, h1⟩ := (h0.2 t _ ht).2
  obtain ⟨-, -, -, -, -, h2⟩ := (h.2 8 (cA, .object E) rfl).2
  exact Option.some.inj (h2.symm.trans h1)
theorem kw_newQ (hexec : p.tables.exec = Jvm.exec) (hb : c.code = cc) {E : String} (hown : s.vm.findClass own = some m.cls) (hclink : (Cond.classLink own index E).before args s = true) (hover : va_AO E s) (hK : va_K D vwCl (kn_tys tc) s) (hA : ∀ q, H0.size ≤ q → A q) (I : kn_I D tc A H0 w H locs) (t : Nat) (ht : (kn_tys tc)[t + 4]? = some (tc (t + 4), .object E)) {n : Int32} {N' : Nat} (hn : ¬ n < 0) (hN : n.toNatClampNeg = N') (hbytes : N' * 4 ≤ 536870912) (hcells : cells + 1 ≤ R.cells) (hslots : slots + N' ≤ R.slots) (hdg : decode cc pc = .ok (.anewarray index, 3))
    (kk : ∀ (q : Nat) (H1 : Heap), kn_I D tc A H0 (w ++ [(kArr (t + 4) N', kn_ad1 q, kn_v0)]) H1 locs → W p l e R s m args below meth c H1 locs (cells + 1) (slots + N') Q (F0 m (pc + 3) ls (.ref q :: rest))) : W p l e R s m args below meth c H locs cells slots Q (F0 m pc ls (.int n :: rest)) := by
  refine va_newq hexec hb hown hclink hover hK I.1 (kn_va_D I.2.1) I.2.2 hA hn hN hbytes hcells hslots hdg (fun q cA H1 hK9 hP hD hS => ?_)
  have hcA := kn_cAq (t + 4) ht hK hK9
  subst hcA
  have e2 : kn_q (kn_ad1 q) 0 = (fun _ => none) := by
    funext i
    unfold kn_q kn_ad1
    rw [if_neg (by omega)]
  have e : kn_flat tc w ++ [(q, .inl (tc (t + 4), N', .inr (.inr (.inr (.inr (fun _ => none))))))] = kn_flat tc (w ++ [(kArr (t + 4) N', kn_ad1 q, kn_v0)]) := by
    rw [kn_flat_app, ← e2]
    rfl
  rw [e] at hP hD
  exact kk q H1 (kn_I_of _ hP hD hS)
end KNRW
