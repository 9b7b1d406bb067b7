/-! a reference is stored in an array of references -/
def kn_uq (ad : Nat → Nat) (k i a : Nat) : Nat → Nat := fun j => if j = 1000 + 200 * i + k then a + 1 else ad j
theorem kn_uq_low {ad : Nat → Nat} {k i a j : Nat} (hj : j < 1000) : kn_uq ad k i a j = ad j := if_neg (by omega)
theorem kn_uq_q {ad : Nat → Nat} {k i a : Nat} : kn_q (kn_uq ad k i a) k = va_up (kn_q ad k) i (some a) := by
  funext j
  by_cases h : j = i
  · subst h
    have e : kn_uq ad k j a (1000 + 200 * j + k) = a + 1 := if_pos rfl
    unfold kn_q va_up
    rw [e, if_pos rfl]
  · have e : kn_uq ad k i a (1000 + 200 * j + k) = ad (1000 + 200 * j + k) := if_neg (by omega)
    unfold kn_q va_up
    rw [e, if_neg h]
theorem kn_uq_n {ad : Nat → Nat} {k i a b : Nat} (hb : b ≠ k) (h1 : b < 200) (h2 : k < 200) : kn_q (kn_uq ad k i a) b = kn_q ad b := by
  funext j
  have e : kn_uq ad k i a (1000 + 200 * j + b) = ad (1000 + 200 * j + b) := if_neg (by omega)
  unfold kn_q
  rw [e]
theorem kn_fs_low {ad ad' : Nat → Nat} {v : OV} (h : ∀ j, j < 1000 → ad' j = ad j) : ∀ (l : List Nat) (k0 : Nat), k0 + l.length < 999 → kn_fs ad' v k0 l = kn_fs ad v k0 l
  | [], _, _ => rfl
  | c :: l, k0, hl => by
    rw [List.length_cons] at hl
    show kn_fv ad' v k0 c :: kn_fs ad' v (k0 + 1) l = kn_fv ad v k0 c :: kn_fs ad v (k0 + 1) l
    rw [kn_fs_low h l (k0 + 1) (by omega)]
    congr 1
    unfold kn_fv
    rw [h (k0 + 1) (by omega)]
def kn_sm (kd : KD) : Prop := (∀ o, kd.1 = some o → o.2.length < 900) ∧ ∀ b ∈ kd.2, b.1 < 200
section KNQS
variable {p : Program} {l : Launch} {e : Env} {R : Room} {s : State} {m : MethodId} {args : Array Value} {below : List Frame} {meth : Method} {c : Code} {H : Heap} {locs : List Loc} {cells slots : Nat} {Q : State → Prop}
variable {cc : ByteArray} {pc : Nat} {ls : Array Slot} {rest : List Value} {D : va_G} {tc : Nat → ClassId} {A : Nat → Prop} {H0 : Heap} {w : List CH}
theorem kn_uq_ads {kd : KD} {ad : Nat → Nat} {v : OV} {k i a : Nat} (hs : kn_sm kd) : kn_ads (kd, kn_uq ad k i a, v) = kn_ads (kd, ad, v) := by
  unfold kn_ads
  dsimp only
  rw [kn_uq_low (show 0 < 1000 by omega)]
  congr 1
  exact List.map_congr_left (fun b hb => kn_uq_low (by have := hs.2 b hb; omega))
theorem kw_qast (hexec : p.tables.exec = Jvm.exec) (hb : c.code = cc) (hK : va_K D vwCl (kn_tys tc) s) (I : kn_I D tc A H0 w H locs) (i0 : Nat) {kd : KD} {ad : Nat → Nat} {v : OV} (hw0 : w[i0]? = some (kd, ad, v)) (hs : kn_sm kd) (k t n : Nat) (hk : (k, t + 4, n) ∈ kd.2) (hu : ∀ b ∈ kd.2, b.1 = k → b = (k, t + 4, n)) {r : vw_C} (ht : (kn_tys tc)[t + 4]? = some (tc (t + 4), .object r.1)) (i1 : Nat) {cj : Nat} {flj : List Nat} {alj : List (Nat × Nat × Nat)} {adj : Nat → Nat} {vj : OV} (hw1 : w[i1]? = some ((some (cj, flj), alj), adj, vj)) (hc : vwCl[cj]? = some r) {x : Int32} (hin : vp_in x n) (hdg : decode cc pc = .ok (.aastore, 1))
    (kk : ∀ (H1 : Heap) (locs1 : List Loc), kn_I D tc A H0 (w.set i0 (kd, kn_uq ad k x.toNatClampNeg (adj 0), v)) H1 locs1 → W p l e R s m args below meth c H1 locs1 cells slots Q (F0 m (pc + 1) ls rest)) : W p l e R s m args below meth c H locs cells slots Q (F0 m pc ls (.ref (adj 0) :: .int x :: .ref (ad (k + 1)) :: rest)) := by
  obtain ⟨hm, q0, hq⟩ := kn_cellA (tc := tc) hw0 hk
  obtain ⟨-, q1, hq1⟩ := kn_cellO (tc := tc) hw1
  have hk2 : k < 200 := hs.2 _ hk
  refine va_astq hexec hb hK I.1 (kn_va_D I.2.1) I.2.2 q0 (t + 4) q1 cj hq ht hq1 hc hin hdg (fun H1 locs1 hP1 _ hS1 => kk H1 locs1 ⟨?_, I.2.1.set hw0 (kn_uq_ads hs), hS1⟩)
  refine kn_P_set I.2.1 hw0 hm hq (fun y hy => ?_) hP1
  have hnd := (I.2.1.2 i0 _ hw0).1
  have hlow : ∀ j, j < 1000 → kn_uq ad k x.toNatClampNeg (adj 0) j = ad j := fun j hj => kn_uq_low hj
  rcases List.mem_append.mp hy with h | h
  · right
    obtain ⟨o, ho, rfl⟩ := List.mem_map.mp h
    have hko : kd.1 = some o := by
      have : o ∈ kd.1.toList := ho
      rw [Option.mem_toList] at this
      exact this
    have e : kn_oc (kn_uq ad k x.toNatClampNeg (adj 0)) v o = kn_oc ad v o := by
      unfold kn_oc
      rw [hlow 0 (by omega), kn_fs_low hlow o.2 0 (by have := hs.1 o hko; omega)]
    have e3 : kn_oc (kd, kn_uq ad k x.toNatClampNeg (adj 0), v).2.1 (kd, kn_uq ad k x.toNatClampNeg (adj 0), v).2.2 o = kn_oc ad v o := e
    rw [e3]
    exact ⟨List.mem_append_left _ (List.mem_map.mpr ⟨o, ho, rfl⟩), kn_arr_obj hnd hko hk⟩
  · obtain ⟨b, hb2, rfl⟩ := List.mem_map.mp h
    have ea : kn_uq ad k x.toNatClampNeg (adj 0) (b.1 + 1) = ad (b.1 + 1) := hlow _ (by have := hs.2 b hb2; omega)
    by_cases eb : b = (k, t + 4, n)
    · left
      subst eb
      show (kn_uq ad k x.toNatClampNeg (adj 0) (k + 1), Sum.inl (tc (t + 4), (n, Sum.inr (Sum.inr (Sum.inr (Sum.inr (kn_q (kn_uq ad k x.toNatClampNeg (adj 0)) k))))))) = _
      rw [kn_uq_q]
      rw [show kn_uq ad k x.toNatClampNeg (adj 0) (k + 1) = ad (k + 1) from ea]
    · right
      have hbk : b.1 ≠ k := fun h => eb (hu b hb2 h)
      have e : kn_ar tc (kn_uq ad k x.toNatClampNeg (adj 0)) v b = kn_ar tc ad v b := by
        unfold kn_ar kn_ac
        rw [ea, kn_uq_n hbk (hs.2 b hb2) hk2]
      have e3 : kn_ar tc (kd, kn_uq ad k x.toNatClampNeg (adj 0), v).2.1 (kd, kn_uq ad k x.toNatClampNeg (adj 0), v).2.2 b = kn_ar tc ad v b := e
      rw [e3]
      exact ⟨List.mem_append_right _ (List.mem_map.mpr ⟨b, hb2, rfl⟩), fun h => eb (kn_inj kd.2 (kn_arr_nodup hnd) b hb2 (k, t + 4, n) hk h)⟩
/-- a reference is read, in the making -/
theorem kw_geto (hexec : p.tables.exec = Jvm.exec) (hb : c.code = cc) {own C : String} {T : u_T} {N ci index : Nat} {Ts : List Cond} {fl : List Nat} {al : List (Nat × Nat × Nat)} {ad : Nat → Nat} {v : OV} (hts : ∀ w ∈ Ts, w.before args s = true) (hin : ∀ w ∈ u_ws C T N, w ∈ Ts) (hown : s.vm.findClass own = some m.cls) (hK : va_K D vwCl (kn_tys tc) s) (I : kn_I D tc A H0 w H locs) (i : Nat) (hw : w[i]? = some ((some (ci, fl), al), ad, v)) (hc : vwCl[ci]? = some (C, T, N)) (k : Nat) (hk : k < N) (hf : fl[k]? = some 2) (hlink : (Cond.fieldLink own index (T k).1 (T k).2.1 (T k).2.2.1).before args s = true) (hdg : decode cc pc = .ok (.getfield index, 3)) {a : Nat} (ha : kn_o (ad (k + 1)) = some a)
    (kk : W p l e R s m args below meth c H locs cells slots Q (F0 m (pc + 3) ls (.ref a :: rest))) : W p l e R s m args below meth c H locs cells slots Q (F0 m pc ls (.ref (ad 0) :: rest)) := by
  obtain ⟨-, q0, hq⟩ := kn_cellO (tc := tc) hw
  refine va_get hexec hb hts hin hown hK I.1 q0 hq hc k hk hlink (fun _ h => h) (kn_fs_at0 hf) hdg ?_
  show W p l e R s m args below meth c H locs cells slots Q (F0 m (pc + 3) ls (va_rf (kn_o (ad (k + 1))) :: rest))
  rw [ha]
  exact kk
end KNQS
