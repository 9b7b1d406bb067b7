/-! 78: order, mean, gone, hint -/
theorem nI_div {a b : Nat} (ha : a < 2 ^ 31) (hb : b < 2 ^ 31) (hb0 : 0 < b) : nI a / nI b = nI (a / b) := by
  refine i32_eqv ?_
  have hne : nI b ≠ -1 := fun e => by
    have : (nI b).toInt = ((-1 : Int32)).toInt := by rw [e]
    rw [nI_toInt hb] at this
    have e1 : ((-1 : Int32)).toInt = -1 := by decide
    rw [e1] at this
    omega
  have hlt : a / b < 2 ^ 31 := Nat.lt_of_le_of_lt (Nat.div_le_self a b) ha
  rw [Int32.toInt_div_of_ne_right _ _ hne, nI_toInt ha, nI_toInt hb, nI_toInt hlt]
  exact Int.ofNat_tdiv a b ▸ rfl
theorem nI_mod {a b : Nat} (ha : a < 2 ^ 31) (hb : b < 2 ^ 31) (hb0 : 0 < b) : nI a - nI a / nI b * nI b = nI (a % b) := by
  rw [nI_div ha hb hb0, nI_mul, pk_sub (Nat.div_mul_le_self a b)]
  congr 1
  have := Nat.div_add_mod a b
  have e : a / b * b = b * (a / b) := Nat.mul_comm _ _
  omega
/-! lowest terms -/
def euc1 (p : Nat × Nat) : Nat × Nat := if p.2 = 0 then p else (p.2, p.1 % p.2)
def eucN (n : Nat) (y x : Nat) : Nat × Nat := itn (fun _ p => euc1 p) n (y, x)
theorem euc_sh : ∀ n y x, x ≠ 0 → eucN (n + 1) y x = eucN n x (y % x)
  | 0, y, x, h => by
    show euc1 (y, x) = (x, y % x)
    unfold euc1
    exact if_neg h
  | n + 1, y, x, h => by
    show euc1 (eucN (n + 1) y x) = euc1 (eucN n x (y % x))
    rw [euc_sh n y x h]
theorem euc_0 : ∀ n y, eucN n y 0 = (y, 0)
  | 0, y => rfl
  | n + 1, y => by
    show euc1 (eucN n y 0) = _
    rw [euc_0 n y]
    rfl
theorem euc_end : ∀ k y x, x < 2 ^ k → (eucN (2 * k + 1) y x).2 = 0
  | 0, y, x, h => by
    have : x = 0 := by omega
    rw [this, euc_0]
  | k + 1, y, x, h => by
    by_cases e : x = 0
    · rw [e, euc_0]
    · rw [show 2 * (k + 1) + 1 = (2 * k + 1 + 1) + 1 by omega, euc_sh _ y x e]
      by_cases e2 : y % x = 0
      · rw [e2, euc_0]
      · rw [euc_sh _ x (y % x) e2]
        refine euc_end k _ _ ?_
        have h1 : y % x < x := Nat.mod_lt _ (by omega)
        have h2 : x % (y % x) < y % x := Nat.mod_lt _ (by omega)
        have h3 : x % (y % x) ≤ x - (y % x) := by
          have := Nat.div_add_mod x (y % x)
          have q1 : 1 ≤ x / (y % x) := (Nat.le_div_iff_mul_le (by omega)).mpr (by omega)
          have q2 : (y % x) * 1 ≤ (y % x) * (x / (y % x)) := Nat.mul_le_mul_left _ q1
          omega
        have h4 : 2 ^ (k + 1) = 2 * 2 ^ k := by rw [Nat.pow_succ, Nat.mul_comm]
        omega
theorem euc_pos {y x : Nat} (hy : 0 < y) : ∀ n, 0 < (eucN n y x).1
  | 0 => hy
  | n + 1 => by
    show 0 < (euc1 (eucN n y x)).1
    unfold euc1
    split
    · exact euc_pos hy n
    · rename_i h
      exact Nat.pos_of_ne_zero h
theorem euc_le {y x M : Nat} (hy : y < M) (hx : x < M) : ∀ n, (eucN n y x).1 < M ∧ (eucN n y x).2 < M
  | 0 => ⟨hy, hx⟩
  | n + 1 => by
    have ih := euc_le hy hx n
    show (euc1 (eucN n y x)).1 < M ∧ (euc1 (eucN n y x)).2 < M
    unfold euc1
    split
    · exact ih
    · rename_i h
      exact ⟨ih.2, Nat.lt_trans (Nat.mod_lt _ (Nat.pos_of_ne_zero h)) ih.2⟩
theorem euc_100 {y x : Nat} (hx : x < 2 ^ 20) : (eucN 100 y x).2 = 0 := by
  have h := euc_end 20 y x hx
  have st : ∀ d, (eucN (2 * 20 + 1 + d) y x).2 = 0 := by
    intro d
    induction d with
    | zero => exact h
    | succ d ih =>
      show (euc1 (eucN (2 * 20 + 1 + d) y x)).2 = 0
      unfold euc1
      rw [if_pos ih]
      exact ih
  exact st 59
theorem euc_stay {y x i : Nat} (h : (eucN i y x).2 = 0) : ∀ d, eucN (i + d) y x = eucN i y x
  | 0 => rfl
  | d + 1 => by
    show euc1 (eucN (i + d) y x) = _
    rw [euc_stay h d]
    unfold euc1
    exact if_pos h
def eucE (y x : Nat) : Nat := (eucN 100 y x).1
theorem eucE_N (y x : Nat) : ∃ N, N = 100 ∧ eucE y x = (eucN N y x).1 := ⟨100, rfl, rfl⟩
def lowT (a b : Nat) (part : Int32) : Int32 := if b = 0 then (if part = 0 then 0 else 1) else if part = 0 then nI a / nI (eucE b a) else nI b / nI (eucE b a)
theorem euc_st {y x i : Nat} (z : ¬ (eucN i y x).2 = 0) : eucN (i + 1) y x = ((eucN i y x).2, (eucN i y x).1 % (eucN i y x).2) := by
  show euc1 (eucN i y x) = _
  unfold euc1
  exact if_neg z
theorem cp_lowest {a b : Nat} {part : Int32} (ha : a < 2 ^ 20) (hb : b < 2 ^ 20) {post : Int32 → Prop} (hp : post (lowT a b part)) : PX8_ofLowestTerms (nI a) (nI b) part post := by
  unfold PX8_ofLowestTerms
  unfold lowT at hp
  obtain ⟨N, hN, eN⟩ := eucE_N b a
  rw [eN] at hp
  by_cases z : b = 0
  · rw [if_pos z] at hp
    rw [z]
    exact br_f (by decide) (br_ifn (fun _ h => h) (fun _ h => h) hp)
  · rw [if_neg z] at hp
    refine br_t (nI_lt (a := 0) (by omega) (by omega)) ?_
    have gp := euc_pos (y := b) (x := a) (by omega) N
    have gl := (euc_le (M := 2 ^ 20) hb ha N).1
    have b53 : PX8_ofLowestTerms_b53 post (nI a) (nI b) part (nI (eucN N b a).1) := by
      unfold PX8_ofLowestTerms_b53
      exact br_t (nI_lt (a := 0) gp (by omega)) (br_ifn (fun _ h => ⟨nI_ne0 gp (by omega), h⟩) (fun _ h => ⟨nI_ne0 gp (by omega), h⟩) hp)
    refine fr_rel (fun n i (p : Int32 × Int32) => PX8_ofLowestTerms_L22 post n (nI a) (nI b) part p.1 p.2 (nI i)) (fun i p => p.1 = nI (eucN i b a).1 ∧ p.2 = nI (eucN i b a).2) N (nI b, nI a) ⟨rfl, rfl⟩ ?_ ?_
    · rintro n ⟨u, v⟩ ⟨e1, e2⟩
      show PX8_ofLowestTerms_L22 post (n + 1) (nI a) (nI b) part u v (nI N)
      unfold PX8_ofLowestTerms_L22
      have e1' : u = nI (eucN N b a).1 := e1
      rw [e1']
      exact br_t (by rw [hN]; exact Int32.le_refl _) b53
    · rintro n i ⟨u, v⟩ hi ⟨e1, e2⟩ next
      show PX8_ofLowestTerms_L22 post (n + 1) (nI a) (nI b) part u v (nI i)
      have le := euc_le (M := 2 ^ 20) hb ha i
      have e1' : u = nI (eucN i b a).1 := e1
      have e2' : v = nI (eucN i b a).2 := e2
      unfold PX8_ofLowestTerms_L22
      rw [e1', e2']
      refine br_f (fr_nle (b := 100) (by omega) (by omega)) ?_
      by_cases z : (eucN i b a).2 = 0
      · have st := euc_stay z (N - i)
        rw [show i + (N - i) = N by omega] at st
        rw [st] at b53
        exact br_t (by rw [z]; decide) b53
      · refine br_f (nI_nle (by omega) (by omega)) ⟨nI_ne0 (by omega) (by omega), ?_⟩
        rw [nI_mod (by omega) (by omega) (by omega)]
        rintro _ rfl _ rfl
        rw [nI_1]
        exact next (nI (eucN i b a).2, nI ((eucN i b a).1 % (eucN i b a).2)) ⟨congrArg (fun p : Nat × Nat => nI p.1) (euc_st z).symm, congrArg (fun p : Nat × Nat => nI p.2) (euc_st z).symm⟩
theorem mp_fraction {a b : Nat} {part : Int32} (ha : a < 2 ^ 20) (hb : b < 2 ^ 20) (hpart : part = 0 ∨ part = 1) {post : Int32 → Prop} (hp : post (lowT a b part)) : PX9_fraction (nI a) (nI b) part post := by
  unfold PX9_fraction
  unfold lowT at hp
  obtain ⟨N, hN, eN⟩ := eucE_N b a
  rw [eN] at hp
  by_cases z : b = 0
  · rw [if_pos z] at hp
    refine br_nt (by rw [z]; rfl) ?_
    rcases hpart with e | e
    · rw [if_pos e] at hp
      rw [e]
      exact hp
    · rw [if_neg (by rw [e]; decide)] at hp
      rw [e]
      exact hp
  · rw [if_neg z] at hp
    refine br_nf (nI_ne0 (by omega) (by omega)) ?_
    have gp := euc_pos (y := b) (x := a) (by omega) N
    have gl := (euc_le (M := 2 ^ 20) hb ha N).1
    have out : ((¬ part = 0 → (¬ nI (eucN N b a).1 = 0 ∧ post (nI b / nI (eucN N b a).1))) ∧ (part = 0 → (¬ nI (eucN N b a).1 = 0 ∧ post (nI a / nI (eucN N b a).1)))) := br_ifn (fun _ h => ⟨nI_ne0 gp (by omega), h⟩) (fun _ h => ⟨nI_ne0 gp (by omega), h⟩) hp
    have zN : (eucN N b a).2 = 0 := by rw [hN]; exact euc_100 ha
    refine fr_rel (fun n i (p : Int32 × Int32) => PX9_fraction_L11 post n (nI a) (nI b) part p.2 p.1) (fun i p => p.1 = nI (eucN i b a).1 ∧ p.2 = nI (eucN i b a).2) N (nI b, nI a) ⟨rfl, rfl⟩ ?_ ?_
    · rintro n ⟨u, v⟩ ⟨e1, e2⟩
      show PX9_fraction_L11 post (n + 1) (nI a) (nI b) part v u
      have e1' : u = nI (eucN N b a).1 := e1
      have e2' : v = nI (eucN N b a).2 := e2
      unfold PX9_fraction_L11
      rw [e1', e2', zN]
      exact br_t rfl out
    · rintro n i ⟨u, v⟩ hi ⟨e1, e2⟩ next
      show PX9_fraction_L11 post (n + 1) (nI a) (nI b) part v u
      have le := euc_le (M := 2 ^ 20) hb ha i
      have e1' : u = nI (eucN i b a).1 := e1
      have e2' : v = nI (eucN i b a).2 := e2
      unfold PX9_fraction_L11
      rw [e1', e2']
      by_cases z : (eucN i b a).2 = 0
      · have st := euc_stay z (N - i)
        rw [show i + (N - i) = N by omega] at st
        rw [st] at out
        exact br_t (by rw [z]; rfl) out
      · refine br_f (nI_ne0 (by omega) (by omega)) ⟨nI_ne0 (by omega) (by omega), ?_⟩
        rw [nI_mod (by omega) (by omega) (by omega)]
        rintro _ rfl
        exact next (nI (eucN i b a).2, nI ((eucN i b a).1 % (eucN i b a).2)) ⟨congrArg (fun p : Nat × Nat => nI p.1) (euc_st z).symm, congrArg (fun p : Nat × Nat => nI p.2) (euc_st z).symm⟩
/-! putting in order -/
def btr (h s : OV) (q t : Nat) (x : Int32) : Prop := ¬ h.2.1 7 t * minS h s q x.toNatClampNeg ≤ h.2.1 7 x.toNatClampNeg * minS h s q t
noncomputable def insK (h s : OV) (q t : Nat) : Nat → (Nat → Int32) → (Nat → Int32)
  | 0, o => upd o 0 (nI t)
  | k + 1, o => if zb (btr h s q t (o k)) = 1 then insK h s q t k (upd o (k + 1) (o k)) else upd o (k + 1) (nI t)
theorem ins_hi {h s : OV} {q t : Nat} : ∀ k o j, k < j → insK h s q t k o j = o j
  | 0, o, j, hj => upd_ne _ _ (by omega)
  | k + 1, o, j, hj => by
    show (if zb (btr h s q t (o k)) = 1 then insK h s q t k (upd o (k + 1) (o k)) else upd o (k + 1) (nI t)) j = _
    split
    · rw [ins_hi k _ j (by omega), upd_ne _ _ (by omega)]
    · rw [upd_ne _ _ (by omega)]
theorem ins_ok {h s : OV} {q t S : Nat} (ht : t < S) : ∀ k o, (∀ j, j < k → ∃ x, x < S ∧ o j = nI x) → ∀ j, j ≤ k → ∃ x, x < S ∧ insK h s q t k o j = nI x
  | 0, o, _, j, hj => ⟨t, ht, by rw [show j = 0 by omega]; exact upd_eq _ _ _⟩
  | k + 1, o, ho, j, hj => by
    show ∃ x, x < S ∧ (if zb (btr h s q t (o k)) = 1 then insK h s q t k (upd o (k + 1) (o k)) else upd o (k + 1) (nI t)) j = nI x
    split
    · by_cases e : j = k + 1
      · obtain ⟨x, hx, ex⟩ := ho k (by omega)
        exact ⟨x, hx, by rw [e, ins_hi k _ (k + 1) (by omega), upd_eq, ex]⟩
      · refine ins_ok ht k _ (fun j hj => ?_) j (by omega)
        rw [upd_ne _ _ (by omega)]
        exact ho j (by omega)
    · by_cases e : j = k + 1
      · exact ⟨t, ht, by rw [e, upd_eq]⟩
      · rw [upd_ne _ _ e]
        exact ho j (by omega)
theorem ins_same {h s : OV} {q t n : Nat} : ∀ k o o', k ≤ n → (∀ j, j ≤ n → j ≠ k → o j = o' j) → ∀ j, j ≤ n → insK h s q t k o j = insK h s q t k o' j
  | 0, o, o', hk, e, j, hj => by
    show upd o 0 (nI t) j = upd o' 0 (nI t) j
    by_cases c : j = 0
    · rw [c, upd_eq, upd_eq]
    · rw [upd_ne _ _ c, upd_ne _ _ c]
      exact e j hj c
  | k + 1, o, o', hk, e, j, hj => by
    have ek : o k = o' k := e k (by omega) (by omega)
    show (if zb (btr h s q t (o k)) = 1 then insK h s q t k (upd o (k + 1) (o k)) else upd o (k + 1) (nI t)) j = (if zb (btr h s q t (o' k)) = 1 then insK h s q t k (upd o' (k + 1) (o' k)) else upd o' (k + 1) (nI t)) j
    rw [ek]
    split
    · refine ins_same k _ _ (by omega) (fun i hi ne => ?_) j hj
      by_cases c : i = k + 1
      · rw [c, upd_eq, upd_eq]
      · rw [upd_ne _ _ c, upd_ne _ _ c]
        exact e i hi c
    · by_cases c : j = k + 1
      · rw [c, upd_eq, upd_eq]
      · rw [upd_ne _ _ c, upd_ne _ _ c]
        exact e j hj c
/-- a sum over what is in order -/
def osS (f : Int32 → Int32) (o : Nat → Int32) (n : Nat) : Int32 := itn (fun j x => x + f (o j)) n 0
theorem os_congr {f : Int32 → Int32} {o o' : Nat → Int32} {n : Nat} (e : ∀ j, j < n → o j = o' j) : osS f o n = osS f o' n := itn_congr n (fun i hi x => by rw [e i hi])
theorem ins_sum {h s : OV} {q t : Nat} {f : Int32 → Int32} : ∀ k o, osS f (insK h s q t k o) (k + 1) = osS f o k + f (nI t)
  | 0, o => by
    show 0 + f (upd o 0 (nI t) 0) = 0 + f (nI t)
    rw [upd_eq]
  | k + 1, o => by
    show osS f (insK h s q t (k + 1) o) (k + 1) + f (insK h s q t (k + 1) o (k + 1)) = (osS f o k + f (o k)) + f (nI t)
    by_cases c : zb (btr h s q t (o k)) = 1
    · have e : insK h s q t (k + 1) o = insK h s q t k (upd o (k + 1) (o k)) := if_pos c
      rw [e, ins_sum k, ins_hi k _ (k + 1) (by omega), upd_eq, os_congr (o' := o) (fun j hj => upd_ne _ _ (by omega))]
      rw [Int32.add_assoc, Int32.add_comm (f (nI t)), ← Int32.add_assoc]
    · have e : insK h s q t (k + 1) o = upd o (k + 1) (nI t) := if_neg c
      rw [e, upd_eq, os_congr (o' := o) (fun j hj => upd_ne _ _ (by omega))]
      rfl
noncomputable def pt1 (h s : OV) (q t : Nat) (p : Nat × (Nat → Int32)) : Nat × (Nat → Int32) := if h.2.1 7 t ≤ 0 then p else (p.1 + 1, insK h s q t p.1 p.2)
noncomputable def ptS (h s : OV) (q n : Nat) (o : Nat → Int32) : Nat × (Nat → Int32) := itn (fun t p => pt1 h s q t p) n (0, o)
theorem pt_ok {h s : OV} {q : Nat} {o : Nat → Int32} : ∀ n, (ptS h s q n o).1 ≤ n ∧ ∀ j, j < (ptS h s q n o).1 → ∃ x, x < n ∧ (ptS h s q n o).2 j = nI x
  | 0 => ⟨Nat.le_refl 0, fun j hj => absurd hj (Nat.not_lt_zero j)⟩
  | n + 1 => by
    obtain ⟨a, b⟩ := pt_ok (h := h) (s := s) (q := q) (o := o) n
    have st : ptS h s q (n + 1) o = pt1 h s q n (ptS h s q n o) := rfl
    rw [st]
    unfold pt1
    split
    · exact ⟨by omega, fun j hj => by obtain ⟨x, hx, e⟩ := b j hj; exact ⟨x, by omega, e⟩⟩
    · refine ⟨by show (ptS h s q n o).1 + 1 ≤ n + 1; omega, fun j hj => ?_⟩
      have hj' : j < (ptS h s q n o).1 + 1 := hj
      refine ins_ok (S := n + 1) (by omega) (ptS h s q n o).1 (ptS h s q n o).2 (fun j hj => ?_) j (by omega)
      obtain ⟨x, hx, e⟩ := b j hj
      exact ⟨x, by omega, e⟩
theorem pt_same {h s : OV} {q : Nat} {o o' : Nat → Int32} : ∀ n, (ptS h s q n o').1 = (ptS h s q n o).1 ∧ ∀ j, j < (ptS h s q n o).1 → (ptS h s q n o').2 j = (ptS h s q n o).2 j
  | 0 => ⟨rfl, fun j hj => absurd hj (Nat.not_lt_zero j)⟩
  | n + 1 => by
    obtain ⟨a, b⟩ := pt_same (h := h) (s := s) (q := q) (o := o) (o' := o') n
    have st : ptS h s q (n + 1) o = pt1 h s q n (ptS h s q n o) := rfl
    have st' : ptS h s q (n + 1) o' = pt1 h s q n (ptS h s q n o') := rfl
    rw [st, st']
    unfold pt1
    split
    · exact ⟨a, b⟩
    · refine ⟨by show (ptS h s q n o').1 + 1 = (ptS h s q n o).1 + 1; rw [a], fun j hj => ?_⟩
      have hj' : j < (ptS h s q n o).1 + 1 := hj
      show insK h s q n (ptS h s q n o').1 (ptS h s q n o').2 j = insK h s q n (ptS h s q n o).1 (ptS h s q n o).2 j
      rw [a]
      exact ins_same _ _ _ (Nat.le_refl _) (fun i hi ne => b i (by omega)) j (by omega)
theorem pt_sum {h s : OV} {q S : Nat} {o : Nat → Int32} (hS : S ≤ 10) (hz : ∀ t, t < S → isIx (h.2.1 7 t) 10) : ∀ n, n ≤ S → osS (fun x => h.2.1 7 x.toNatClampNeg) (ptS h s q n o).2 (ptS h s q n o).1 = smS (h.2.1 7) n
  | 0, _ => rfl
  | n + 1, hn => by
    have ih := pt_sum (h := h) (s := s) (q := q) (o := o) hS hz n (by omega)
    have st : ptS h s q (n + 1) o = pt1 h s q n (ptS h s q n o) := rfl
    rw [st]
    show _ = smS (h.2.1 7) n + h.2.1 7 n
    rw [← ih]
    unfold pt1
    split
    · rename_i c
      obtain ⟨k, hk, e⟩ := hz n (by omega)
      have : k = 0 := by
        rcases Nat.eq_zero_or_pos k with z | z
        · exact z
        · rw [e] at c
          exact absurd c (nI_nle z (by omega))
      rw [e, this]
      exact (Int32.add_zero _).symm
    · show osS _ (insK h s q n (ptS h s q n o).1 (ptS h s q n o).2) ((ptS h s q n o).1 + 1) = _
      rw [ins_sum, nI_31 (show n < 1000 by omega)]
