/-! 993: what holds at the head of the law's loop -/
theorem vu_s {α : Type} {f : Nat → α} {k : Nat} {x : α} : va_up f k x k = x := if_pos rfl
theorem vu_n {α : Type} {f : Nat → α} {k j : Nat} {x : α} (h : j ≠ k) : va_up f k x j = f j := if_neg h
/-- an image's chunks, if it was taken -/
def imW (im : Nat → Option IMG) (ad_d ad_e : Nat → Nat → Nat) (ad_f : Nat → Nat → Nat → Nat) (k : Nat) : List CH := match im k with
  | none => []
  | some x => List.flatten [[(kScene, ad_d k, x.1)], [(kState, ad_e k, x.2.2.1)], kn_pool kState 20 (ad_f k) x.2.2.2]
def imP (im : Nat → Option IMG) (ad_d ad_e : Nat → Nat → Nat) (ad_f : Nat → Nat → Nat → Nat) : List CH := (List.range 4).flatMap (imW im ad_d ad_e ad_f)
def imR (im : Nat → Option IMG) (ad_d ad_e : Nat → Nat → Nat) (ad_f : Nat → Nat → Nat → Nat) (k : Nat) : List CH := ((List.range 4).erase k).flatMap (imW im ad_d ad_e ad_f)
theorem imP_out {im : Nat → Option IMG} {d e : Nat → Nat → Nat} {f : Nat → Nat → Nat → Nat} {k : Nat} (hk : k < 4) : (imP im d e f).Perm (imW im d e f k ++ imR im d e f k) := List.Perm.flatMap_right (imW im d e f) (List.perm_cons_erase (List.mem_range.mpr hk))
theorem imW_none {im : Nat → Option IMG} {d e : Nat → Nat → Nat} {f : Nat → Nat → Nat → Nat} {k : Nat} (h : im k = none) : imW im d e f k = [] := by
  unfold imW
  rw [h]
theorem imW_some {im : Nat → Option IMG} {d e : Nat → Nat → Nat} {f : Nat → Nat → Nat → Nat} {k : Nat} {x : IMG} (h : im k = some x) : imW im d e f k = List.flatten [[(kScene, d k, x.1)], [(kState, e k, x.2.2.1)], kn_pool kState 20 (f k) x.2.2.2] := by
  unfold imW
  rw [h]
theorem imR_same {im im' : Nat → Option IMG} {d e d' e' : Nat → Nat → Nat} {f f' : Nat → Nat → Nat → Nat} {k : Nat} (h : ∀ j, j ≠ k → im' j = im j ∧ d' j = d j ∧ e' j = e j ∧ f' j = f j) : imR im' d' e' f' k = imR im d e f k := by
  unfold imR
  rw [List.flatMap_def, List.flatMap_def]
  refine congrArg List.flatten (List.map_congr_left (fun j hj => ?_))
  have hne : j ≠ k := ((List.Nodup.mem_erase_iff List.nodup_range).mp hj).1
  obtain ⟨a, b, c, g⟩ := h j hne
  unfold imW
  rw [a, b, c, g]
/-- an image's links -/
def ImL (ad_t : Nat → Nat) (adH ad_d ad_e : Nat → Nat → Nat) (ad_f : Nat → Nat → Nat → Nat) (vH : Nat → OV) (N : Nat) (im : Nat → Option IMG) (k : Nat) : Prop := (im k = none → kn_q ad_t 7 k = none) ∧ ∀ x, im k = some x → kn_q ad_t 7 k = some (ad_d k 0) ∧ ad_d k (3 + 1) = ad_e k 0 ∧ (∀ i, i < 20 → kn_q (ad_d k) 4 i = some (ad_f k i 0)) ∧ ∃ j, j < N ∧ ad_d k (0 + 1) = adH j 0 ∧ x.2.1 = vH j
/-- all links -/
def LL (ad_t ad_c ad_s ad_w ad_z ad_g ad_r ad_q ad_y ad_u : Nat → Nat) (ad_pp ad_pr adH ad_d ad_e : Nat → Nat → Nat) (ad_f : Nat → Nat → Nat → Nat) (vH : Nat → OV) (n N i : Nat) (im : Nat → Option IMG) : Prop :=
  (ad_t (2 + 1) = ad_g 0 ∧ ad_g (0 + 1) = ad_r 0 ∧ ad_t (3 + 1) = ad_q 0 ∧ ad_q (0 + 1) = ad_y 0 ∧ ad_q (1 + 1) = ad_u 0) ∧ (ad_t (6 + 1) = ad_c 0 ∧ ad_c (0 + 1) = adH i 0 ∧ ad_c (3 + 1) = ad_s 0 ∧ ad_t (8 + 1) = ad_w 0 ∧ ad_t (9 + 1) = ad_z 0) ∧ (∀ i, i < 7 → kn_q ad_t 10 i = some (ad_t (100 + i + 1))) ∧ (∀ i, i < n → kn_q ad_t 4 i = some (ad_pr i 0)) ∧ (∀ i, i < 20 → kn_q ad_c 4 i = some (ad_pp i 0)) ∧ i < N ∧ ∀ k, k < 4 → ImL ad_t adH ad_d ad_e ad_f vH N im k
/-- the world and its relation -/
def LI (D : va_G) (tc : Nat → ClassId) (A : Nat → Prop) (H0 : Heap) (bt bm : Nat) (H : Heap) (locs : List Loc) : Prop := ∃ (ad_t ad_c ad_s ad_w ad_z ad_g ad_r ad_q ad_y ad_u ad_m : Nat → Nat) (ad_pp ad_pr adH ad_d ad_e : Nat → Nat → Nat) (ad_f : Nat → Nat → Nat → Nat) (v_t v_c v_s v_w v_z v_g v_r v_q v_y v_u v_m : OV) (v_pp v_pr vH : Nat → OV) (n N i : Nat) (im : Nat → Option IMG), (ad_t 0 = bt ∧ ad_m 0 = bm) ∧ LL ad_t ad_c ad_s ad_w ad_z ad_g ad_r ad_q ad_y ad_u ad_pp ad_pr adH ad_d ad_e ad_f vH n N i im ∧ v_u.2.1 2 0 = 0 ∧ Sim v_t v_c (vH i) v_s v_pp v_pr n im v_m ∧ kn_I D tc A H0 (List.flatten [[(kTin, ad_t, v_t)], [(kScene, ad_c, v_c)], [(kHill, adH i, vH i)], kn_rest kHill N adH vH i, [(kState, ad_s, v_s)], [(kWalk, ad_w, v_w)], [(kState, ad_z, v_z)], kn_pool kState 20 ad_pp v_pp, kn_pool kRule n ad_pr v_pr, [(kHillReader, ad_g, v_g)], [(kReader, ad_r, v_r)], [(kRuleReader, ad_q, v_q)], [(kReader, ad_y, v_y)], [(kRule, ad_u, v_u)], imP im ad_d ad_e ad_f, [(kModel, ad_m, v_m)]]) H locs
theorem LI_mk {D : va_G} {tc : Nat → ClassId} {A : Nat → Prop} {H0 : Heap} {bt bm : Nat} {H : Heap} {locs : List Loc} {ad_t ad_c ad_s ad_w ad_z ad_g ad_r ad_q ad_y ad_u ad_m : Nat → Nat} {ad_pp ad_pr adH ad_d ad_e : Nat → Nat → Nat} {ad_f : Nat → Nat → Nat → Nat} {v_t v_c v_s v_w v_z v_g v_r v_q v_y v_u v_m : OV} {v_pp v_pr vH : Nat → OV} {n N i : Nat} {im : Nat → Option IMG} (h1 : ad_t 0 = bt ∧ ad_m 0 = bm) (h2 : LL ad_t ad_c ad_s ad_w ad_z ad_g ad_r ad_q ad_y ad_u ad_pp ad_pr adH ad_d ad_e ad_f vH n N i im) (h3 : v_u.2.1 2 0 = 0) (h4 : Sim v_t v_c (vH i) v_s v_pp v_pr n im v_m) (h5 : kn_I D tc A H0 (List.flatten [[(kTin, ad_t, v_t)], [(kScene, ad_c, v_c)], [(kHill, adH i, vH i)], kn_rest kHill N adH vH i, [(kState, ad_s, v_s)], [(kWalk, ad_w, v_w)], [(kState, ad_z, v_z)], kn_pool kState 20 ad_pp v_pp, kn_pool kRule n ad_pr v_pr, [(kHillReader, ad_g, v_g)], [(kReader, ad_r, v_r)], [(kRuleReader, ad_q, v_q)], [(kReader, ad_y, v_y)], [(kRule, ad_u, v_u)], imP im ad_d ad_e ad_f, [(kModel, ad_m, v_m)]]) H locs) : LI D tc A H0 bt bm H locs := ⟨ad_t, ad_c, ad_s, ad_w, ad_z, ad_g, ad_r, ad_q, ad_y, ad_u, ad_m, ad_pp, ad_pr, adH, ad_d, ad_e, ad_f, v_t, v_c, v_s, v_w, v_z, v_g, v_r, v_q, v_y, v_u, v_m, v_pp, v_pr, vH, n, N, i, im, h1, h2, h3, h4, h5⟩
theorem LI_I {D : va_G} {tc : Nat → ClassId} {A : Nat → Prop} {H0 : Heap} {bt bm : Nat} {H : Heap} {locs : List Loc} (h : LI D tc A H0 bt bm H locs) : ∃ w, kn_I D tc A H0 w H locs := by
  obtain ⟨_, _, _, _, _, _, _, _, _, _, _, _, _, _, _, _, _, _, _, _, _, _, _, _, _, _, _, _, _, _, _, _, _, _, _, -, -, -, -, I⟩ := h
  exact ⟨_, I⟩
theorem pm_eq {a b : List CH} (h : a = b) : a.Perm b := h ▸ List.Perm.refl a
/-! a pool grows by one -/
theorem kn_pool_add {k : KD} {n : Nat} {ad : Nat → Nat → Nat} {v : Nat → OV} {a : Nat → Nat} {x : OV} : kn_pool k n ad v ++ [(k, a, x)] = kn_pool k (n + 1) (va_up ad n a) (va_up v n x) := by
  unfold kn_pool
  rw [List.range_succ, List.map_append]
  congr 1
  · refine List.map_congr_left (fun j hj => ?_)
    have hne : j ≠ n := by
      have := List.mem_range.mp hj
      omega
    show (k, ad j, v j) = (k, va_up ad n a j, va_up v n x j)
    rw [vu_n hne, vu_n hne]
  · show [(k, a, x)] = [(k, va_up ad n a n, va_up v n x n)]
    rw [vu_s, vu_s]
theorem lh_push {k : KD} {N i : Nat} {ad : Nat → Nat → Nat} {v : Nat → OV} {a : Nat → Nat} {x : OV} (hi : i < N) : ([(k, ad i, v i)] ++ (kn_rest k N ad v i ++ [(k, a, x)])).Perm (kn_pool k (N + 1) (va_up ad N a) (va_up v N x)) := by
  rw [← kn_pool_add, ← List.append_assoc]
  exact (kn_pool_out hi).symm.append_right _
theorem lh_seg3 {a b c d e : List CH} {t : List (List CH)} (h : (a ++ (b ++ c)).Perm (d ++ e)) : (a :: b :: c :: t).flatten.Perm (d :: e :: t).flatten := by
  show (a ++ (b ++ (c ++ t.flatten))).Perm (d ++ (e ++ t.flatten))
  rw [← List.append_assoc b c, ← List.append_assoc a, ← List.append_assoc d]
  exact h.append_right _
theorem lh_seg2 {a b d : List CH} {t : List (List CH)} (h : (a ++ b).Perm d) : (a :: b :: t).flatten.Perm (d :: t).flatten := by
  show (a ++ (b ++ t.flatten)).Perm (d ++ t.flatten)
  rw [← List.append_assoc]
  exact h.append_right _
theorem lh_seg22 {a b d e : List CH} {t : List (List CH)} (h : (a ++ b).Perm (d ++ e)) : (a :: b :: t).flatten.Perm (d :: e :: t).flatten := by
  show (a ++ (b ++ t.flatten)).Perm (d ++ (e ++ t.flatten))
  rw [← List.append_assoc, ← List.append_assoc]
  exact h.append_right _
theorem lh_seg12 {a d e : List CH} {t : List (List CH)} (h : a.Perm (d ++ e)) : (a :: t).flatten.Perm (d :: e :: t).flatten := by
  show (a ++ t.flatten).Perm (d ++ (e ++ t.flatten))
  rw [← List.append_assoc]
  exact h.append_right _
/-- x is an image's number -/
theorem ix4 {x : Int32} {k : Nat} (hk : k < 4) (e : x = nI k) : ¬ x < 0 ∧ x < 4 ∧ vp_in x 4 ∧ x.toNatClampNeg = k := by
  subst e
  refine ⟨nI_pos (by omega), ?_, vp_in_nI hk (by omega), nI_clamp (by omega)⟩
  have h4 : (4 : Int32) = nI 4 := by decide
  rw [h4]
  exact nI_lt hk (by omega)
theorem ix4_no {x : Int32} (h : ¬ isIx x 4) : x < 0 ∨ ¬ x < 4 := by
  rcases isIx_no (by omega) h with y | y
  · exact Or.inl y
  · have h4 : (4 : Int32) = nI 4 := by decide
    rw [h4]
    exact Or.inr (Int32.not_lt.mpr y)
/-- the beginning -/
theorem isIx_0 {n : Nat} (h : 0 < n) : isIx (0 : Int32) n := ⟨0, h, rfl⟩
theorem Sim_init {pr : Nat → OV} : Sim kn_v0 v0X5 v0X0 v0X6 (fun _ => v0X6) pr 0 (fun _ => none) v0X9 := by
  refine ⟨⟨0, 0, 0, 0, 0, ?_⟩, ⟨0, by omega, rfl, rfl, fun i hi => absurd hi (Nat.not_lt_zero i)⟩, ⟨rfl, by omega, rfl, fun r hr => absurd hr (Nat.not_lt_zero r)⟩, ⟨rfl, rfl⟩, fun k _ => Or.inl ⟨rfl, rfl⟩⟩
  have hs : Sok v0X6 0 0 0 0 := by
    refine ⟨rfl, Or.inl rfl, isIx_0 (by omega), fun t ht => absurd ht (Nat.not_lt_zero t), fun q hq => ?_, fun q _ hq => ?_⟩
    · rcases (show q = 0 ∨ q = 1 ∨ q = 2 ∨ q = 3 by omega) with rfl | rfl | rfl | rfl <;> exact ⟨isIx_0 (by omega), Or.inl (by decide)⟩
    · rcases (show q = 0 ∨ q = 1 ∨ q = 2 ∨ q = 3 by omega) with rfl | rfl | rfl | rfl <;> exact ⟨by decide, rfl⟩
  refine ⟨⟨⟨by omega, by omega, by omega, by omega⟩, rfl, rfl, rfl, rfl⟩, ⟨fun t ht => absurd ht (Nat.not_lt_zero t), fun q hq => absurd hq (Nat.not_lt_zero q), isIx_0 (by omega), isIx_0 (by omega), isIx_0 (by omega), Or.inl rfl, Or.inl ⟨rfl, rfl⟩⟩, ⟨⟨by decide, by decide, by decide, by decide, by decide, by decide⟩, fun t ht => absurd ht (Nat.not_lt_zero t), fun q hq => absurd hq (Nat.not_lt_zero q), fun k hk => absurd hk (Nat.not_lt_zero k)⟩, hs, by omega, ⟨⟨by decide, by decide, by decide⟩, fun t ht => absurd ht (Nat.not_lt_zero t), fun t ht => absurd ht (Nat.not_lt_zero t), fun t ht => absurd ht (Nat.not_lt_zero t)⟩, fun h => absurd h (by decide), ⟨0, rfl, by omega, by decide, fun t ht => absurd ht (Nat.not_lt_zero t)⟩, ⟨by decide, Or.inl rfl⟩, ⟨by decide, by decide⟩, ⟨0, 0, rfl, rfl, by omega, by omega, rfl, fun t ht => absurd ht (Nat.not_lt_zero t)⟩⟩
