/-! CHUNK WORLDS: a world is a list of chunks; a chunk is an object with the arrays that it owns (or arrays alone): its kind, its addresses, its value -/
/-- a value: ints by field, int arrays by field, long arrays (references lie among the addresses) -/
abbrev OV : Type := (Nat → Int32) × (Nat → Nat → Int32) × (Nat → Nat → Int64)
/-- a kind: the object's class and its fields' codes (0 an int, 1 a fixed reference, 2 a moving one), and its arrays (field, type code, length) -/
abbrev KD : Type := Option (Nat × List Nat) × List (Nat × Nat × Nat)
abbrev CH : Type := KD × (Nat → Nat) × OV
/-- a reference, or none: 0 is none -/
def kn_o (a : Nat) : Option Nat := match a with
  | 0 => none
  | b + 1 => some b
def kn_fv (ad : Nat → Nat) (v : OV) (k code : Nat) : Value := match code with
  | 0 => .int (v.1 k)
  | 1 => .ref (ad (k + 1))
  | _ => va_rf (kn_o (ad (k + 1)))
def kn_fs (ad : Nat → Nat) (v : OV) : Nat → List Nat → List Value
  | _, [] => []
  | k, c :: l => kn_fv ad v k c :: kn_fs ad v (k + 1) l
theorem kn_fs_at (ad : Nat → Nat) (v : OV) : ∀ (l : List Nat) (k0 k c : Nat), l[k]? = some c → (kn_fs ad v k0 l)[k]? = some (kn_fv ad v (k0 + k) c)
  | [], _, k, c, h => by simp at h
  | c0 :: l, k0, 0, c, h => by
    rw [List.getElem?_cons_zero] at h
    cases h
    rfl
  | c0 :: l, k0, k + 1, c, h => by
    rw [List.getElem?_cons_succ] at h
    show (kn_fs ad v (k0 + 1) l)[k]? = _
    rw [kn_fs_at ad v l (k0 + 1) k c h]
    congr 2
    omega
theorem kn_fs_len (ad : Nat → Nat) (v : OV) : ∀ (l : List Nat) (k0 : Nat), (kn_fs ad v k0 l).length = l.length
  | [], _ => rfl
  | c :: l, k0 => by
    show (kn_fs ad v (k0 + 1) l).length + 1 = l.length + 1
    rw [kn_fs_len ad v l (k0 + 1)]
theorem kn_fs_eq {ad : Nat → Nat} {v v' : OV} : ∀ (l : List Nat) (k0 : Nat), (∀ j d, l[j]? = some d → kn_fv ad v' (k0 + j) d = kn_fv ad v (k0 + j) d) → kn_fs ad v' k0 l = kn_fs ad v k0 l
  | [], _, _ => rfl
  | c :: l, k0, h => by
    show kn_fv ad v' k0 c :: kn_fs ad v' (k0 + 1) l = kn_fv ad v k0 c :: kn_fs ad v (k0 + 1) l
    have h1 : kn_fv ad v' k0 c = kn_fv ad v k0 c := h 0 c rfl
    rw [h1]
    congr 1
    exact kn_fs_eq l (k0 + 1) (fun j d hd => by
      have := h (j + 1) d (by rw [List.getElem?_cons_succ]; exact hd)
      rw [show k0 + 1 + j = k0 + (j + 1) by omega]
      exact this)
/-- a field's change, in the list of values -/
theorem kn_fs_set (ad : Nat → Nat) (v v' : OV) (x : Value) : ∀ (l : List Nat) (k0 k c : Nat), l[k]? = some c → kn_fv ad v' (k0 + k) c = x → (∀ j d, l[j]? = some d → j ≠ k → kn_fv ad v' (k0 + j) d = kn_fv ad v (k0 + j) d) → kn_fs ad v' k0 l = (kn_fs ad v k0 l).set k x
  | [], _, k, c, h, _, _ => by simp at h
  | c0 :: l, k0, 0, c, h, hx, ho => by
    rw [List.getElem?_cons_zero] at h
    cases h
    show kn_fv ad v' k0 c0 :: kn_fs ad v' (k0 + 1) l = x :: kn_fs ad v (k0 + 1) l
    have h1 : kn_fv ad v' k0 c0 = x := hx
    rw [h1]
    congr 1
    exact kn_fs_eq l (k0 + 1) (fun j d hd => by
      have := ho (j + 1) d (by rw [List.getElem?_cons_succ]; exact hd) (by omega)
      rw [show k0 + 1 + j = k0 + (j + 1) by omega]
      exact this)
  | c0 :: l, k0, k + 1, c, h, hx, ho => by
    rw [List.getElem?_cons_succ] at h
    show kn_fv ad v' k0 c0 :: kn_fs ad v' (k0 + 1) l = kn_fv ad v k0 c0 :: (kn_fs ad v (k0 + 1) l).set k x
    have h1 : kn_fv ad v' k0 c0 = kn_fv ad v k0 c0 := ho 0 c0 rfl (by omega)
    rw [h1]
    congr 1
    refine kn_fs_set ad v v' x l (k0 + 1) k c h ?_ (fun j d hd hj => ?_)
    · rw [show k0 + 1 + k = k0 + (k + 1) by omega]
      exact hx
    · have := ho (j + 1) d (by rw [List.getElem?_cons_succ]; exact hd) (by omega)
      rw [show k0 + 1 + j = k0 + (j + 1) by omega]
      exact this
/-- what an array of references holds: it lies among the addresses, from 1000 on -/
def kn_q (ad : Nat → Nat) (k i : Nat) : Option Nat := match ad (1000 + 200 * i + k) with
  | 0 => none
  | a + 1 => some a
def kn_ac (ad : Nat → Nat) (v : OV) (a : Nat × Nat × Nat) : vp_A := (a.2.2, match a.2.1 with
  | 0 => .inl (v.2.1 a.1)
  | 1 => .inl (v.2.1 a.1)
  | 2 => .inl (v.2.1 a.1)
  | 3 => .inr (.inl (v.2.2 a.1))
  | _ => .inr (.inr (.inr (.inr (kn_q ad a.1)))))
def kn_oc (ad : Nat → Nat) (v : OV) (o : Nat × List Nat) : Nat × va_E := (ad 0, .inr (o.1, kn_fs ad v 0 o.2))
def kn_ar (tc : Nat → ClassId) (ad : Nat → Nat) (v : OV) (a : Nat × Nat × Nat) : Nat × va_E := (ad (a.1 + 1), .inl (tc a.2.1, kn_ac ad v a))
def kn_cells (tc : Nat → ClassId) (ch : CH) : va_W := ch.1.1.toList.map (kn_oc ch.2.1 ch.2.2) ++ ch.1.2.map (kn_ar tc ch.2.1 ch.2.2)
def kn_ads (ch : CH) : List Nat := ch.1.1.toList.map (fun _ => ch.2.1 0) ++ ch.1.2.map (fun a => ch.2.1 (a.1 + 1))
theorem kn_ads_eq (tc : Nat → ClassId) (ch : CH) : (kn_cells tc ch).map Prod.fst = kn_ads ch := by
  unfold kn_cells kn_ads
  rw [List.map_append, List.map_map, List.map_map]
  rfl
def kn_flat (tc : Nat → ClassId) (w : List CH) : va_W := w.flatMap (kn_cells tc)
def kn_P (D : va_G) (tc : Nat → ClassId) (w : List CH) (H : Heap) : Prop := va_P D vwCl (kn_flat tc w) H
def kn_D (A : Nat → Prop) (w : List CH) : Prop := (∀ (i j : Nat) (p q : CH) (a : Nat), w[i]? = some p → w[j]? = some q → a ∈ kn_ads p → a ∈ kn_ads q → i = j) ∧ ∀ (i : Nat) (p : CH), w[i]? = some p → (kn_ads p).Nodup ∧ ∀ a ∈ kn_ads p, A a
theorem kn_nd : ∀ (l : List Nat), l.Nodup → ∀ (i j a : Nat), l[i]? = some a → l[j]? = some a → i = j
  | [], _, i, j, a, h, _ => by simp at h
  | b :: l, hn, i, j, a, h1, h2 => by
    rw [List.nodup_cons] at hn
    cases i with
    | zero =>
      cases j with
      | zero => rfl
      | succ j =>
        rw [List.getElem?_cons_zero] at h1
        rw [List.getElem?_cons_succ] at h2
        cases h1
        exact absurd (List.mem_of_getElem? h2) hn.1
    | succ i =>
      rw [List.getElem?_cons_succ] at h1
      cases j with
      | zero =>
        rw [List.getElem?_cons_zero] at h2
        cases h2
        exact absurd (List.mem_of_getElem? h1) hn.1
      | succ j =>
        rw [List.getElem?_cons_succ] at h2
        rw [kn_nd l hn.2 i j a h1 h2]
theorem kn_mem {tc : Nat → ClassId} {w : List CH} {x : Nat × va_E} : x ∈ kn_flat tc w ↔ ∃ (i : Nat) (ch : CH), w[i]? = some ch ∧ x ∈ kn_cells tc ch := by
  unfold kn_flat
  rw [List.mem_flatMap]
  constructor
  · rintro ⟨ch, h1, h2⟩
    obtain ⟨i, hi⟩ := List.getElem?_of_mem h1
    exact ⟨i, ch, hi, h2⟩
  · rintro ⟨i, ch, h1, h2⟩
    exact ⟨ch, List.mem_of_getElem? h1, h2⟩
theorem kn_memA {tc : Nat → ClassId} {ch : CH} {x : Nat × va_E} (h : x ∈ kn_cells tc ch) : x.1 ∈ kn_ads ch := by
  rw [← kn_ads_eq tc ch]
  exact List.mem_map.mpr ⟨x, h, rfl⟩
theorem kn_flat_nodup {tc : Nat → ClassId} {A : Nat → Prop} : ∀ (w : List CH), kn_D A w → ((kn_flat tc w).map Prod.fst).Nodup
  | [], _ => List.Pairwise.nil
  | ch :: w, h => by
    show List.Pairwise _ ((kn_cells tc ch ++ kn_flat tc w).map Prod.fst)
    rw [List.map_append, kn_ads_eq]
    refine List.pairwise_append.mpr ⟨(h.2 0 ch rfl).1, kn_flat_nodup w ⟨fun i j p q a hi hj ha hb => ?_, fun i p hi => h.2 (i + 1) p hi⟩, fun a ha b hb hab => ?_⟩
    · have := h.1 (i + 1) (j + 1) p q a hi hj ha hb
      omega
    · obtain ⟨x, hx, hxb⟩ := List.mem_map.mp hb
      obtain ⟨i, q, hi, hq⟩ := kn_mem.mp hx
      have h1 : a ∈ kn_ads q := by rw [hab, ← hxb]; exact kn_memA hq
      have := h.1 0 (i + 1) ch q a rfl hi ha h1
      omega
theorem kn_va_D {tc : Nat → ClassId} {A : Nat → Prop} {w : List CH} (h : kn_D A w) : va_D A (kn_flat tc w) := by
  refine ⟨fun i j p q hi hj hpq => ?_, fun k q hq => ?_⟩
  · refine kn_nd _ (kn_flat_nodup (tc := tc) w h) i j p.1 ?_ ?_
    · rw [List.getElem?_map, hi]; rfl
    · rw [List.getElem?_map, hj, hpq]; rfl
  · obtain ⟨i, ch, h1, h2⟩ := kn_mem.mp (List.mem_of_getElem? hq)
    exact (h.2 i ch h1).2 _ (kn_memA h2)
theorem kn_ads_same {ch ch' : CH} (h1 : ch'.1 = ch.1) (h2 : ch'.2.1 = ch.2.1) : kn_ads ch' = kn_ads ch := by
  unfold kn_ads
  rw [h1, h2]
theorem kn_D.set {A : Nat → Prop} {w : List CH} {i : Nat} {ch ch' : CH} (h : kn_D A w) (hw : w[i]? = some ch) (ha : kn_ads ch' = kn_ads ch) : kn_D A (w.set i ch') := by
  have key : ∀ (j : Nat) (p : CH), (w.set i ch')[j]? = some p → ∃ p0, w[j]? = some p0 ∧ kn_ads p = kn_ads p0 := by
    intro j p hj
    by_cases e : j = i
    · subst e
      rw [List.getElem?_set_self (List.getElem?_eq_some_iff.mp hw).1] at hj
      cases hj
      exact ⟨ch, hw, ha⟩
    · rw [List.getElem?_set_ne (Ne.symm e)] at hj
      exact ⟨p, hj, rfl⟩
  refine ⟨fun j k p q a hj hk hp hq => ?_, fun j p hj => ?_⟩
  · obtain ⟨p0, h1, h2⟩ := key j p hj
    obtain ⟨q0, h3, h4⟩ := key k q hk
    exact h.1 j k p0 q0 a h1 h3 (h2 ▸ hp) (h4 ▸ hq)
  · obtain ⟨p0, h1, h2⟩ := key j p hj
    rw [h2]
    exact h.2 j p0 h1
theorem kn_P_set {D : va_G} {tc : Nat → ClassId} {A : Nat → Prop} {w : List CH} {i q0 a : Nat} {ch ch' : CH} {e0 e' : va_E} {H : Heap} (hD : kn_D A w) (hw : w[i]? = some ch) (hin : (a, e0) ∈ kn_cells tc ch) (hq0 : (kn_flat tc w)[q0]? = some (a, e0)) (key : ∀ x ∈ kn_cells tc ch', x = (a, e') ∨ (x ∈ kn_cells tc ch ∧ x.1 ≠ a)) (hP : va_P D vwCl ((kn_flat tc w).set q0 (a, e')) H) : kn_P D tc (w.set i ch') H := by
  have hl := (List.getElem?_eq_some_iff.mp hq0).1
  have old : ∀ x : Nat × va_E, x ∈ kn_flat tc w → x.1 ≠ a → va_at D vwCl x H := by
    intro x hx hne
    obtain ⟨q1, hq1⟩ := List.getElem?_of_mem hx
    have hne2 : q0 ≠ q1 := fun e => by
      subst e
      rw [hq0] at hq1
      cases hq1
      exact hne rfl
    exact hP q1 x (by rw [List.getElem?_set_ne hne2]; exact hq1)
  intro k x hk
  obtain ⟨j, p, hj, hx⟩ := kn_mem.mp (List.mem_of_getElem? hk)
  by_cases e : j = i
  · subst e
    rw [List.getElem?_set_self (List.getElem?_eq_some_iff.mp hw).1] at hj
    cases hj
    rcases key x hx with h | ⟨h1, h2⟩
    · rw [h]
      exact hP q0 _ (List.getElem?_set_self hl)
    · exact old x (kn_mem.mpr ⟨j, ch, hw, h1⟩) h2
  · rw [List.getElem?_set_ne (Ne.symm e)] at hj
    refine old x (kn_mem.mpr ⟨j, p, hj, hx⟩) (fun h => e ?_)
    exact hD.1 j i p ch x.1 hj hw (kn_memA hx) (by rw [h]; exact kn_memA hin)
theorem kn_inj {α : Type} {f : α → Nat} : ∀ (l : List α), (l.map f).Nodup → ∀ x ∈ l, ∀ y ∈ l, f x = f y → x = y
  | [], _, x, h, _, _, _ => by cases h
  | a :: l, hn, x, hx, y, hy, e => by
    rw [List.map_cons, List.nodup_cons] at hn
    rcases List.mem_cons.mp hx with hx1 | hx1 <;> rcases List.mem_cons.mp hy with hy1 | hy1
    · rw [hx1, hy1]
    · exact absurd (by rw [← hx1, e]; exact List.mem_map.mpr ⟨y, hy1, rfl⟩) hn.1
    · exact absurd (by rw [← hy1, ← e]; exact List.mem_map.mpr ⟨x, hx1, rfl⟩) hn.1
    · exact kn_inj l hn.2 x hx1 y hy1 e
theorem kn_arr_nodup {kd : KD} {ad : Nat → Nat} {v : OV} (h : (kn_ads (kd, ad, v)).Nodup) : (kd.2.map (fun a => ad (a.1 + 1))).Nodup := (List.pairwise_append.mp h).2.1
theorem kn_arr_obj {kd : KD} {ad : Nat → Nat} {v : OV} {o : Nat × List Nat} (h : (kn_ads (kd, ad, v)).Nodup) (ho : kd.1 = some o) {b : Nat × Nat × Nat} (hb : b ∈ kd.2) : ad 0 ≠ ad (b.1 + 1) := by
  refine (List.pairwise_append.mp h).2.2 (ad 0) ?_ (ad (b.1 + 1)) (List.mem_map.mpr ⟨b, hb, rfl⟩)
  show ad 0 ∈ kd.1.toList.map (fun _ => ad 0)
  rw [ho]
  exact List.mem_map.mpr ⟨o, List.mem_singleton.mpr rfl, rfl⟩
/-- setters -/
def si (v : OV) (k : Nat) (x : Int32) : OV := (fun j => if j = k then x else v.1 j, v.2)
def sa (v : OV) (k : Nat) (f : Nat → Int32) : OV := (v.1, fun j => if j = k then f else v.2.1 j, v.2.2)
def sl (v : OV) (k : Nat) (f : Nat → Int64) : OV := (v.1, v.2.1, fun j => if j = k then f else v.2.2 j)
/-- an object's field is changed: what becomes of the cells -/
theorem kn_key_f {tc : Nat → ClassId} {ci k c : Nat} {fl : List Nat} {al : List (Nat × Nat × Nat)} {ad : Nat → Nat} {v v' : OV} {x : Value} (hn : (kn_ads ((some (ci, fl), al), ad, v)).Nodup) (hf : fl[k]? = some c) (hx : kn_fv ad v' k c = x) (ho : ∀ j d, fl[j]? = some d → j ≠ k → kn_fv ad v' j d = kn_fv ad v j d) (h2 : v'.2.1 = v.2.1) (h3 : v'.2.2 = v.2.2) :
    ∀ y ∈ kn_cells tc ((some (ci, fl), al), ad, v'), y = (ad 0, .inr (ci, (kn_fs ad v 0 fl).set k x)) ∨ (y ∈ kn_cells tc ((some (ci, fl), al), ad, v) ∧ y.1 ≠ ad 0) := by
  intro y hy
  rcases List.mem_append.mp hy with h | h
  · left
    have h1 : y = kn_oc ad v' (ci, fl) := List.mem_singleton.mp h
    rw [h1]
    show (ad 0, Sum.inr (ci, kn_fs ad v' 0 fl)) = _
    rw [kn_fs_set ad v v' x fl 0 k c hf (by rw [Nat.zero_add]; exact hx) (fun j d hd hj => by rw [Nat.zero_add]; exact ho j d hd hj)]
  · right
    obtain ⟨b, hb, rfl⟩ := List.mem_map.mp h
    refine ⟨List.mem_append_right _ (List.mem_map.mpr ⟨b, hb, ?_⟩), ?_⟩
    · show kn_ar tc ad v b = kn_ar tc ad v' b
      unfold kn_ar kn_ac
      rw [h2, h3]
    · exact (kn_arr_obj hn rfl hb).symm
/-- an array is changed -/
theorem kn_key_a {tc : Nat → ClassId} {kd : KD} {ad : Nat → Nat} {v v' : OV} {b : Nat × Nat × Nat} (hn : (kn_ads (kd, ad, v)).Nodup) (hb : b ∈ kd.2) (h1 : v'.1 = v.1) (ho : ∀ d ∈ kd.2, d ≠ b → kn_ac ad v' d = kn_ac ad v d) :
    ∀ y ∈ kn_cells tc (kd, ad, v'), y = (ad (b.1 + 1), .inl (tc b.2.1, kn_ac ad v' b)) ∨ (y ∈ kn_cells tc (kd, ad, v) ∧ y.1 ≠ ad (b.1 + 1)) := by
  intro y hy
  rcases List.mem_append.mp hy with h | h
  · right
    obtain ⟨o, ho2, rfl⟩ := List.mem_map.mp h
    have hk : kd.1 = some o := by
      have : o ∈ kd.1.toList := ho2
      rw [Option.mem_toList] at this
      exact this
    refine ⟨List.mem_append_left _ (List.mem_map.mpr ⟨o, ho2, ?_⟩), kn_arr_obj hn hk hb⟩
    show kn_oc ad v o = kn_oc ad v' o
    unfold kn_oc
    rw [kn_fs_eq (v := v) (v' := v') o.2 0 (fun j d _ => by
      unfold kn_fv
      rw [h1])]
  · obtain ⟨d, hd, rfl⟩ := List.mem_map.mp h
    by_cases e : d = b
    · left
      subst e
      rfl
    · right
      refine ⟨List.mem_append_right _ (List.mem_map.mpr ⟨d, hd, ?_⟩), fun h => e ?_⟩
      · show kn_ar tc ad v d = kn_ar tc ad v' d
        unfold kn_ar
        rw [ho d hd e]
      · exact kn_inj kd.2 (kn_arr_nodup hn) d hd b hb h
