/-! 992: rows for the law's body -/
theorem kn_segNA {segs sC sR : List (List CH)} (is : List Nat) (n : Nat) (hn : segs.length = n) (hp : is.isPerm (List.range n) = true) (hs : is.map (fun i => segs[i]?) = (sC ++ sR).map some) : segs.flatten.Perm (sC.flatten ++ sR.flatten) := kn_segA is (by rw [hn]; exact hp) hs
theorem kn_segNB {sC sR segs : List (List CH)} (is : List Nat) (n : Nat) (hn : (sC ++ sR).length = n) (hp : is.isPerm (List.range n) = true) (hs : is.map (fun i => (sC ++ sR)[i]?) = segs.map some) : (sC.flatten ++ sR.flatten).Perm segs.flatten := kn_segB is (by rw [hn]; exact hp) hs
theorem kn_segNAB {sA sB sC sD : List (List CH)} (is : List Nat) (n : Nat) (hn : (sA ++ sB).length = n) (hp : is.isPerm (List.range n) = true) (hs : is.map (fun i => (sA ++ sB)[i]?) = (sC ++ sD).map some) : (sA.flatten ++ sB.flatten).Perm (sC.flatten ++ sD.flatten) := by
  have := kn_segNB (segs := sC ++ sD) is n hn hp hs
  rw [List.flatten_append] at this
  exact this
def LX (p : Program) (s : State) (m : MethodId) (c : Code) (D : va_G) (tc : Nat → ClassId) (Z : (Nat → Nat) × (Nat → Nat)) (A : Nat → Prop) (b L : Nat) (xs : Nat → Int32) : Prop := CallFix p m c code 4 s #[Value.ref b] kn_all R_law ∧ va_K D vwCl (kn_tys tc) s ∧ kn_Z Z A s s.heap ∧ (∀ q, s.heap.size ≤ q → A q) ∧ va_X b L xs s s.heap ∧ b < s.heap.size ∧ ¬ A b ∧ L ≤ 3072
section LZR
variable {p : Program} {l : Launch} {e : Env} {R : Room} {s : State} {m : MethodId} {args : Array Value} {below : List Frame} {meth : Method} {c : Code} {H : Heap} {locs : List Loc} {cells slots : Nat} {Q : State → Prop}
variable {cc bytes : ByteArray} {pc : Nat} {ls : Array Slot} {D : va_G} {tc : Nat → ClassId} {Z : (Nat → Nat) × (Nat → Nat)} {A : Nat → Prop} {H0 : Heap} {w wc wr : List CH}
variable {own C : String} {index maxL nL mc ms n : Nat} {y : MethodName} {rm : Room} {b : Addr} {As rest st0 : List Value} {T : u_T} {N ci : Nat} {fl : List Nat} {al : List (Nat × Nat × Nat)} {ad : Nat → Nat} {v : OV}
theorem lz_call (S0 : CallFix p m c cc nL s args kn_all own) (hK : va_K D vwCl (kn_tys tc) s) (hZ : kn_Z Z A s s.heap) (hA : ∀ q, s.heap.size ≤ q → A q) (I : kn_I D tc A s.heap w H locs) (hp : w.Perm (wc ++ wr)) {S : Type} {w' : S → List CH} {post : Int32 → S → Prop} (hM : CTi l D tc Z y (Cond.code y bytes maxL (some .int) :: kn_all) rm mc ms (.ref b :: As) wc w' post) (h1 : Cond.methodLink own index y ∈ kn_all) (h2 : Cond.instanceMethod y ∈ kn_all) (h3 : Cond.selects C y y ∈ kn_all) (h4 : Cond.initialized C ∈ kn_all) (h5 : Cond.code y bytes maxL (some .int) ∈ kn_all) (hrc : rm.cells = mc) (hrs : rm.slots = ms) (hd : y.cls = C ∧ y.cls ≠ "java/lang/invoke/MethodHandle" ∧ y.cls ≠ "java/lang/invoke/VarHandle" ∧ (parseMethodDescriptor y.desc).map (fun d => d.parameters.length) = some n) (hR : rm.frames + 1 ≤ R.frames ∧ 8 + (maxL + 11) + rm.locals ≤ R.locals) (hw : (wc ++ wr)[0]? = some ((some (ci, fl), al), ad, v)) (hb0 : ad 0 = b) (hc : vwCl[ci]? = some (C, T, N)) (hlen : As.length = n) (hsize : ls.size = nL) (hst : st0 = As.reverse ++ .ref b :: rest) (hW : (rest.map fun v => v.category).sum ≤ 8) (hdg : decode cc pc = .ok (.invokevirtual index, 3)) (hf : cells + mc ≤ R.cells ∧ slots + ms ≤ R.slots)
    (kk : ∀ (r : Int32) (u : S) (H1 : Heap) (locs1 : List Loc), post r u → kn_I D tc A s.heap (wr ++ w' u) H1 locs1 → W p l e R s m args below meth c H1 locs1 (cells + mc) (slots + ms) Q (F0 m (pc + 3) ls (.int r :: rest))) : W p l e R s m args below meth c H locs cells slots Q (F0 m pc ls st0) :=
  kw_calli (wc := wc) (wr := wr) (I.perm hp) hA (kn_pl1 _ _) (kn_pl2 _ _) (kn_pl1_ok _ _) (kn_pl2_ok _ _) (kn_pl2_nd _ _) (kn_pl_dis _ _) (kn_runV (As := As) (rest := rest) S0 hK hZ hA (I.perm hp) (hM.met _) (kn_cwV n S0.2.2.2.2 h1 h2 h3 h4 h5 hrc hrs hd hR) (kn_pl1 _ _) (kn_pl1_ok _ _) (kn_pl1_nd _ _) 0 hw hb0 hc hlen hsize hst hW hdg hf) (fun r u H1 locs1 h I1 => kk r u H1 locs1 h I1)
theorem lz_arg {k L i : Nat} {k' : Int} {xs : Nat → Int32} {x1 x2 : Value} (hx : p.tables.exec = Jvm.exec) (hb : c.code = code) (hX : va_X b L xs s s.heap) (hbl : b < s.heap.size) (hbA : ¬ A b) (hL : L ≤ 3072) (I : kn_I D tc A s.heap w H locs) (hl : lv_has ls 4 [(0, .ref b), (1, x1), (2, x2), (3, .int (nI i))]) (hi : i + k < L) (hk : Int32.ofInt k' = nI k) (d0 : decode code pc = .ok (.aload_n 0, 1)) (d1 : decode code (pc + 1) = .ok (.iload_n 3, 1)) (d2 : decode code (pc + 2) = .ok (.iconst k', 1)) (d3 : decode code (pc + 3) = .ok (.iadd, 1)) (d4 : decode code (pc + 4) = .ok (.iaload, 1)) (kk : W p l e R s m args below meth c H locs cells slots Q (F0 m (pc + 5) ls (.int (xs (i + k)) :: rest))) : W p l e R s m args below meth c H locs cells slots Q (F0 m pc ls rest) := by
  refine lv_aload_n hx hb d0 rfl (lv_at hl 0 rfl) ?_
  refine lv_iload_n hx hb d1 rfl (lv_at hl 3 rfl) ?_
  refine lv_iconst (v := nI k) hx hb d2 hk ?_
  refine lv_iadd hx hb d3 ?_
  rw [nI_add]
  refine va_sld hx hb hX hbl hbA I.2.2 (vp_in_nI hi (by omega)) d4 ?_
  rw [nI_clamp (by omega)]
  exact kk
end LZR
