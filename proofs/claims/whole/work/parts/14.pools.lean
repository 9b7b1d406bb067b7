/-! POOLS: chunks of a kind by number; a world is a list of segments; segments may change places -/
theorem kn_flat_map (tc : Nat → ClassId) (w : List CH) : (kn_flat tc w).map Prod.fst = w.flatMap kn_ads := by
  unfold kn_flat
  rw [List.map_flatMap]
  congr 1
  funext ch
  exact kn_ads_eq tc ch
theorem kn_D_of {A : Nat → Prop} : ∀ (w : List CH), (w.flatMap kn_ads).Nodup → (∀ ch ∈ w, ∀ a ∈ kn_ads ch, A a) → kn_D A w
  | [], _, _ => ⟨fun i j p q a hi => by simp at hi, fun i p hi => by simp at hi⟩
  | c :: w, h, hA => by
    have h0 : (kn_ads c ++ w.flatMap kn_ads).Nodup := h
    obtain ⟨h1, h2, h3⟩ := List.pairwise_append.mp h0
    have ih := kn_D_of (A := A) w h2 (fun ch hc => hA ch (List.mem_cons_of_mem _ hc))
    have key : ∀ (j : Nat) (q : CH) (a : Nat), w[j]? = some q → a ∈ kn_ads q → a ∈ kn_ads c → False := fun j q a hj hq hc =>
      h3 a hc a (List.mem_flatMap.mpr ⟨q, List.mem_of_getElem? hj, hq⟩) rfl
    refine ⟨fun i j p q a hi hj hp hq => ?_, fun i p hi => ⟨?_, hA p (List.mem_of_getElem? hi)⟩⟩
    · cases i with
      | zero =>
        rw [List.getElem?_cons_zero] at hi
        cases hi
        cases j with
        | zero => rfl
        | succ j =>
          rw [List.getElem?_cons_succ] at hj
          exact (key j q a hj hq hp).elim
      | succ i =>
        rw [List.getElem?_cons_succ] at hi
        cases j with
        | zero =>
          rw [List.getElem?_cons_zero] at hj
          cases hj
          exact (key i p a hi hp hq).elim
        | succ j =>
          rw [List.getElem?_cons_succ] at hj
          rw [ih.1 i j p q a hi hj hp hq]
    · cases i with
      | zero =>
        rw [List.getElem?_cons_zero] at hi
        cases hi
        exact h1
      | succ i =>
        rw [List.getElem?_cons_succ] at hi
        exact (ih.2 i p hi).1
theorem kn_D.perm {A : Nat → Prop} {w w' : List CH} (h : kn_D A w) (hp : w.Perm w') : kn_D A w' := by
  refine kn_D_of w' ?_ (fun ch hc a ha => ?_)
  · have h1 := kn_flat_nodup (tc := fun _ => (0 : Nat)) w h
    rw [kn_flat_map] at h1
    exact (List.Perm.flatMap_right kn_ads hp).nodup h1
  · obtain ⟨i, hi⟩ := List.getElem?_of_mem (hp.mem_iff.mpr hc)
    exact (h.2 i ch hi).2 a ha
theorem kn_P.perm {D : va_G} {tc : Nat → ClassId} {w w' : List CH} {H : Heap} (h : kn_P D tc w H) (hp : w.Perm w') : kn_P D tc w' H := by
  intro k x hk
  obtain ⟨j, ch, hj, hx⟩ := kn_mem.mp (List.mem_of_getElem? hk)
  obtain ⟨i, hi⟩ := List.getElem?_of_mem (hp.mem_iff.mpr (List.mem_of_getElem? hj))
  obtain ⟨q0, hq0⟩ := List.getElem?_of_mem (kn_mem (tc := tc).mpr ⟨i, ch, hi, hx⟩)
  exact h q0 x hq0
theorem kn_I.perm {D : va_G} {tc : Nat → ClassId} {A : Nat → Prop} {H0 H : Heap} {w w' : List CH} {locs : List Loc} (I : kn_I D tc A H0 w H locs) (hp : w.Perm w') : kn_I D tc A H0 w' H locs := ⟨I.1.perm hp, I.2.1.perm hp, I.2.2⟩
theorem kn_range {α : Type} (l : List α) : (List.range l.length).map (fun i => l[i]?) = l.map some := by
  apply List.ext_getElem?
  intro i
  rw [List.getElem?_map, List.getElem?_map]
  by_cases h : i < l.length
  · rw [List.getElem?_range h]
    show some l[i]? = _
    rw [List.getElem?_eq_getElem h]
    rfl
  · rw [List.getElem?_eq_none (by rw [List.length_range]; omega), List.getElem?_eq_none (by omega)]
    rfl
theorem kn_fmap {α : Type} (l : List α) : (l.map some).filterMap id = l := by
  induction l with
  | nil => rfl
  | cons a l ih => rw [List.map_cons, List.filterMap_cons]; exact congrArg (fun z => a :: z) ih
/-- segments in another order -/
theorem kn_seg {segs segs' : List (List CH)} (is : List Nat) (hp : is.isPerm (List.range segs.length) = true) (hs : is.map (fun i => segs[i]?) = segs'.map some) : segs.flatten.Perm segs'.flatten := by
  have h1 := (List.isPerm_iff.mp hp).map (fun i => segs[i]?)
  rw [hs, kn_range] at h1
  have h2 := h1.filterMap id
  rw [kn_fmap, kn_fmap] at h2
  exact h2.symm.flatten
def kn_pool (k : KD) (n : Nat) (ad : Nat → Nat → Nat) (v : Nat → OV) : List CH := (List.range n).map (fun i => (k, ad i, v i))
def kn_rest (k : KD) (n : Nat) (ad : Nat → Nat → Nat) (v : Nat → OV) (i : Nat) : List CH := ((List.range n).erase i).map (fun j => (k, ad j, v j))
theorem kn_pool_out {k : KD} {n : Nat} {ad : Nat → Nat → Nat} {v : Nat → OV} {i : Nat} (hi : i < n) : (kn_pool k n ad v).Perm ([(k, ad i, v i)] ++ kn_rest k n ad v i) := (List.perm_cons_erase (List.mem_range.mpr hi)).map (fun j => (k, ad j, v j))
theorem kn_rest_up {k : KD} {n : Nat} {ad : Nat → Nat → Nat} {v : Nat → OV} {i : Nat} {x : OV} : kn_rest k n ad (va_up v i x) i = kn_rest k n ad v i := by
  unfold kn_rest
  refine List.map_congr_left (fun j hj => ?_)
  have hne : j ≠ i := ((List.Nodup.mem_erase_iff List.nodup_range).mp hj).1
  show (k, ad j, va_up v i x j) = (k, ad j, v j)
  rw [show va_up v i x j = v j from if_neg hne]
theorem kn_pool_back {k : KD} {n : Nat} {ad : Nat → Nat → Nat} {v : Nat → OV} {i : Nat} (hi : i < n) (x : OV) : ([(k, ad i, x)] ++ kn_rest k n ad v i).Perm (kn_pool k n ad (va_up v i x)) := by
  have h := (kn_pool_out (k := k) (ad := ad) (v := va_up v i x) hi).symm
  rw [kn_rest_up, show va_up v i x i = x from if_pos rfl] at h
  exact h
/-- a segment is changed for a permuted one -/
theorem kn_seg1 {a a' : List CH} {t : List (List CH)} (h : a.Perm a') : (a :: t).flatten.Perm (a' :: t).flatten := h.append_right t.flatten
theorem kn_seg_app {a b : List CH} {t : List (List CH)} : ((a ++ b) :: t).flatten = (a :: b :: t).flatten := by
  show (a ++ b) ++ t.flatten = a ++ (b ++ t.flatten)
  rw [List.append_assoc]
section KNPO
variable {p : Program} {l : Launch} {e : Env} {R : Room} {s : State} {m : MethodId} {args : Array Value} {below : List Frame} {meth : Method} {c : Code} {H : Heap} {locs : List Loc} {cells slots : Nat} {Q : State → Prop}
variable {pc : Nat} {ls : Array Slot} {D : va_G} {tc : Nat → ClassId} {A : Nat → Prop} {H0 : Heap} {wc wr : List CH} {mc ms : Nat} {rest st0 : List Value}
/-- places of an append's parts -/
def kn_pl1 (a b : List CH) : List Nat := List.range a.length
def kn_pl2 (a b : List CH) : List Nat := (List.range b.length).map (fun i => a.length + i)
theorem kn_pl1_ok (a b : List CH) : (kn_pl1 a b).map (fun i => (a ++ b)[i]?) = a.map some := by
  rw [← kn_range a]
  unfold kn_pl1
  refine List.map_congr_left (fun i hi => ?_)
  exact List.getElem?_append_left (List.mem_range.mp hi)
theorem kn_pl2_ok (a b : List CH) : (kn_pl2 a b).map (fun i => (a ++ b)[i]?) = b.map some := by
  rw [← kn_range b]
  unfold kn_pl2
  rw [List.map_map]
  refine List.map_congr_left (fun i _ => ?_)
  show (a ++ b)[a.length + i]? = b[i]?
  rw [List.getElem?_append_right (by omega)]
  congr 1
  omega
theorem kn_nd_of : ∀ (l : List Nat), l.Nodup → va_nd l = true
  | [], _ => rfl
  | a :: l, h => by
    rw [List.nodup_cons] at h
    simp only [va_nd, Bool.and_eq_true, decide_eq_true_eq]
    exact ⟨h.1, kn_nd_of l h.2⟩
theorem kn_pl1_nd (a b : List CH) : va_nd (kn_pl1 a b) = true := kn_nd_of _ List.nodup_range
theorem kn_pl2_nd (a b : List CH) : va_nd (kn_pl2 a b) = true := by
  refine kn_nd_of _ ?_
  unfold kn_pl2
  refine List.Pairwise.map _ (fun x y hxy => ?_) (List.nodup_range (n := b.length))
  omega
theorem kn_pl_dis (a b : List CH) : ∀ i ∈ kn_pl2 a b, i ∉ kn_pl1 a b := by
  intro i h1 h2
  obtain ⟨j, -, rfl⟩ := List.mem_map.mp h1
  have := List.mem_range.mp h2
  omega
end KNPO
/-- segments parted in two -/
theorem kn_segA {segs sC sR : List (List CH)} (is : List Nat) (hp : is.isPerm (List.range segs.length) = true) (hs : is.map (fun i => segs[i]?) = (sC ++ sR).map some) : segs.flatten.Perm (sC.flatten ++ sR.flatten) := by
  rw [← List.flatten_append]
  exact kn_seg is hp hs
theorem kn_segB {sC sR segs : List (List CH)} (is : List Nat) (hp : is.isPerm (List.range (sC ++ sR).length) = true) (hs : is.map (fun i => (sC ++ sR)[i]?) = segs.map some) : (sC.flatten ++ sR.flatten).Perm segs.flatten := by
  rw [← List.flatten_append]
  exact kn_seg is hp hs
/-- an element of a pool is taken out, and put back -/
theorem kn_focus {k : KD} {n : Nat} {ad : Nat → Nat → Nat} {v : Nat → OV} {i : Nat} {t : List (List CH)} (hi : i < n) : (kn_pool k n ad v :: t).flatten.Perm ([(k, ad i, v i)] :: kn_rest k n ad v i :: t).flatten := by
  rw [← kn_seg_app]
  exact kn_seg1 (kn_pool_out hi)
theorem kn_unfocus {k : KD} {n : Nat} {ad : Nat → Nat → Nat} {v : Nat → OV} {i : Nat} {x : OV} {t : List (List CH)} (hi : i < n) : ([(k, ad i, x)] :: kn_rest k n ad v i :: t).flatten.Perm (kn_pool k n ad (va_up v i x) :: t).flatten := by
  rw [← kn_seg_app]
  exact kn_seg1 (kn_pool_back hi x)
theorem kn_unfocus0 {k : KD} {n : Nat} {ad : Nat → Nat → Nat} {v : Nat → OV} {i : Nat} {t : List (List CH)} (hi : i < n) : ([(k, ad i, v i)] :: kn_rest k n ad v i :: t).flatten.Perm (kn_pool k n ad v :: t).flatten := (kn_focus hi).symm
