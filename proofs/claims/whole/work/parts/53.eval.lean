/-! 53: a rule's steps and what they come to -/
def joinS (s : Int32) (a b : Int64) : Int64 :=
  if s = -25 then a &&& b else if s = -24 then (if lg_cmp a b ≤ 0 then 0 else 1) else if s = -23 then (if lg_cmp a b < 0 then 0 else 1) else if s = -22 then (if lg_cmp a b = 0 then 1 else 0) else if s = -21 then (if 0 < lg_cmp a b then 0 else 1) else if s = -20 then (if 0 ≤ lg_cmp a b then 0 else 1) else if s = -19 then (if lg_cmp b 0 = 0 then 0 else a - a / b * b) else if s = -18 then (if lg_cmp b 0 = 0 then 0 else a / b) else if s = -17 then a * b else if s = -16 then a - b else if s = -15 then a + b else a ||| b
theorem cp_joined {s : Int32} {a b : Int64} {post : Int64 → Prop} (hp : post (joinS s a b)) : PX3_joined s a b post := by
  unfold PX3_joined
  unfold joinS at hp
  exact br_if (fun _ h => h) (fun _ => br_if (fun _ => br_if (fun _ h => h) (fun _ h => h)) (fun _ => br_if (fun _ => br_if (fun _ h => h) (fun _ h => h)) (fun _ => br_if (fun _ => br_ifn (fun _ h => h) (fun _ h => h)) (fun _ => br_if (fun _ => br_if (fun _ h => h) (fun _ h => h)) (fun _ => br_if (fun _ => br_if (fun _ h => h) (fun _ h => h)) (fun _ => br_if (fun _ => br_ifn (fun _ h => h) (fun n h => ⟨by rw [lg_cmp_eq] at n; exact n, h⟩)) (fun _ => br_if (fun _ => br_ifn (fun _ h => h) (fun n h => ⟨by rw [lg_cmp_eq] at n; exact n, h⟩)) (fun _ => br_if (fun _ h => h) (fun _ => br_if (fun _ h => h) (fun _ => br_if (fun _ h => h) (fun _ h => h))))))))))) hp
theorem mp_t0 {post : Int64 → Prop} (h : post 0) : PX9_truth 0 (fun r => post r) := br_t rfl h
theorem mp_t1 {post : Int64 → Prop} (h : post 1) : PX9_truth 1 (fun r => post r) := br_f (by decide) h
def opT : List (Int32 × Int32) := [(2, -15), (3, -16), (13, -17), (14, -18), (15, -19), (4, -20), (5, -21), (6, -22), (7, -23), (8, -24), (10, -25), (11, -26)]
theorem mp_both {k s : Int32} {a b : Int64} {post : Int64 → Prop} (h : (k, s) ∈ opT) (hp : post (joinS s a b)) : PX9_both k a b post := by
  unfold PX9_both
  simp only [opT, List.mem_cons, List.not_mem_nil, or_false, Prod.mk.injEq] at h
  rcases h with ⟨rfl, rfl⟩ | ⟨rfl, rfl⟩ | ⟨rfl, rfl⟩ | ⟨rfl, rfl⟩ | ⟨rfl, rfl⟩ | ⟨rfl, rfl⟩ | ⟨rfl, rfl⟩ | ⟨rfl, rfl⟩ | ⟨rfl, rfl⟩ | ⟨rfl, rfl⟩ | ⟨rfl, rfl⟩ | ⟨rfl, rfl⟩
  · exact br_t rfl hp
  · exact br_f (by decide) (br_t rfl hp)
  · refine br_f (by decide) (br_f (by decide) (br_f (by decide) (br_f (by decide) (br_f (by decide) (br_f (by decide) (br_f (by decide) ?_))))))
    repeat (first | exact br_t rfl hp | refine br_f (by decide) ?_)
  · refine br_f (by decide) (br_f (by decide) (br_f (by decide) (br_f (by decide) (br_f (by decide) (br_f (by decide) (br_f (by decide) ?_))))))
    have hq : post (if lg_cmp b 0 = 0 then 0 else a / b) := hp
    repeat (first | exact br_t rfl (br_ifn (fun _ h => h) (fun n h => ⟨by rw [lg_cmp_eq] at n; exact n, h⟩) hq) | refine br_f (by decide) ?_)
  · refine br_f (by decide) (br_f (by decide) (br_f (by decide) (br_f (by decide) (br_f (by decide) (br_f (by decide) (br_f (by decide) ?_))))))
    have hq : post (if lg_cmp b 0 = 0 then 0 else a - a / b * b) := hp
    repeat (first | exact br_t rfl (br_ifn (fun _ h => h) (fun n h => ⟨by rw [lg_cmp_eq] at n; exact n, h⟩) hq) | refine br_f (by decide) ?_)
  · have hq : post (if 0 ≤ lg_cmp a b then 0 else 1) := hp
    exact br_f (by decide) (br_f (by decide) (br_t rfl (br_if (fun _ h => mp_t0 h) (fun _ h => mp_t1 h) hq)))
  · have hq : post (if 0 < lg_cmp a b then 0 else 1) := hp
    exact br_f (by decide) (br_f (by decide) (br_f (by decide) (br_t rfl (br_if (fun _ h => mp_t0 h) (fun _ h => mp_t1 h) hq))))
  · have hq : post (if lg_cmp a b = 0 then 1 else 0) := hp
    exact br_f (by decide) (br_f (by decide) (br_f (by decide) (br_f (by decide) (br_t rfl (br_ifn (fun _ h => mp_t1 h) (fun _ h => mp_t0 h) hq)))))
  · have hq : post (if lg_cmp a b < 0 then 0 else 1) := hp
    exact br_f (by decide) (br_f (by decide) (br_f (by decide) (br_f (by decide) (br_f (by decide) (br_t rfl (br_if (fun _ h => mp_t0 h) (fun _ h => mp_t1 h) hq))))))
  · have hq : post (if lg_cmp a b ≤ 0 then 0 else 1) := hp
    exact br_f (by decide) (br_f (by decide) (br_f (by decide) (br_f (by decide) (br_f (by decide) (br_f (by decide) (br_t rfl (br_if (fun _ h => mp_t0 h) (fun _ h => mp_t1 h) hq)))))))
  · refine br_f (by decide) (br_f (by decide) (br_f (by decide) (br_f (by decide) (br_f (by decide) (br_f (by decide) (br_f (by decide) ?_))))))
    repeat (first | exact br_t rfl hp | refine br_f (by decide) ?_)
  · refine br_f (by decide) (br_f (by decide) (br_f (by decide) (br_f (by decide) (br_f (by decide) (br_f (by decide) (br_f (by decide) ?_))))))
    repeat (first | exact br_t rfl hp | refine br_f (by decide) ?_)
/-- one step on a stack and its height -/
def ev1 (w : Nat → Int64) (s : Int32) (p : (Nat → Int64) × Nat) : (Nat → Int64) × Nat :=
  if s ≤ -15 then (if s = -27 then (vp_updL p.1 (p.2 - 1) (1 - p.1 (p.2 - 1)), p.2) else (vp_updL p.1 (p.2 - 2) (joinS s (p.1 (p.2 - 2)) (p.1 (p.2 - 1))), p.2 - 1)) else (vp_updL p.1 p.2 (if s < 0 then w (-1 - s).toNatClampNeg else s.toInt64), p.2 + 1)
def evS (st : Nat → Int32) (w : Nat → Int64) (a n : Nat) (p : (Nat → Int64) × Nat) : (Nat → Int64) × Nat := itn (fun i p => ev1 w (st (a + i)) p) n p
/-- kinds on the stack: true for a FACT -/
def ty2 (x y z : Bool) : List Bool → Option (List Bool)
  | b :: c :: r => if b = x ∧ c = y then some (z :: r) else none
  | _ => none
def ty1 (s : Int32) (τ : List Bool) : Option (List Bool) :=
  if s ≤ -15 then (if s = -27 then (match τ with | true :: r => some (true :: r) | _ => none) else if s = -25 ∨ s = -26 then ty2 true true true τ else if (-24 ≤ s ∧ s ≤ -20) then ty2 false false true τ else if -19 ≤ s then ty2 false false false τ else none) else (if τ.length < 60 then some (false :: τ) else none)
def tyS (st : Nat → Int32) (a : Nat) : Nat → List Bool → Option (List Bool)
  | 0, τ => some τ
  | n + 1, τ => (tyS st a n τ).bind (ty1 (st (a + n)))
theorem tyS_pre {st : Nat → Int32} {a : Nat} {τ0 : List Bool} : ∀ {n : Nat} {τ : List Bool}, tyS st a n τ0 = some τ → ∀ i, i < n → ∃ τ1 τ2, tyS st a i τ0 = some τ1 ∧ ty1 (st (a + i)) τ1 = some τ2
  | 0, _, _, i, hi => absurd hi (Nat.not_lt_zero i)
  | n + 1, τ, h, i, hi => by
    have h' : (tyS st a n τ0).bind (ty1 (st (a + n))) = some τ := h
    cases e : tyS st a n τ0 with
    | none => rw [e] at h'; cases h'
    | some τ1 =>
      rw [e] at h'
      by_cases c : i = n
      · subst c
        exact ⟨τ1, τ, e, h'⟩
      · exact tyS_pre e i (by omega)
def is01 (x : Int64) : Prop := x = 0 ∨ x = 1
def Tv : List Bool → (Nat → Int64) → Prop
  | [], _ => True
  | b :: r, f => (b = true → is01 (f r.length)) ∧ Tv r f
theorem Tv_upd {f : Nat → Int64} {k : Nat} {x : Int64} : ∀ {r : List Bool}, r.length ≤ k → Tv r f → Tv r (vp_updL f k x)
  | [], _, _ => trivial
  | b :: r, hk, h => by
    have hk' : r.length + 1 ≤ k := hk
    refine ⟨fun e => ?_, Tv_upd (by omega) h.2⟩
    rw [updL_ne _ _ (by omega)]
    exact h.1 e
theorem is01_and {x y : Int64} (hx : is01 x) (hy : is01 y) : is01 (x &&& y) := by
  rcases hx with rfl | rfl <;> rcases hy with rfl | rfl <;> first | exact Or.inl (by decide) | exact Or.inr (by decide)
theorem is01_or {x y : Int64} (hx : is01 x) (hy : is01 y) : is01 (x ||| y) := by
  rcases hx with rfl | rfl <;> rcases hy with rfl | rfl <;> first | exact Or.inl (by decide) | exact Or.inr (by decide)
theorem is01_not {x : Int64} (hx : is01 x) : is01 (1 - x) := by
  rcases hx with rfl | rfl <;> first | exact Or.inl (by decide) | exact Or.inr (by decide)
theorem is01_if {c : Prop} [Decidable c] : is01 (if c then (0 : Int64) else 1) := by
  by_cases h : c
  · rw [if_pos h]; exact Or.inl rfl
  · rw [if_neg h]; exact Or.inr rfl
theorem is01_if' {c : Prop} [Decidable c] : is01 (if c then (1 : Int64) else 0) := by
  by_cases h : c
  · rw [if_pos h]; exact Or.inr rfl
  · rw [if_neg h]; exact Or.inl rfl
theorem i32_btw {s lo hi : Int32} {n : Nat} (h1 : lo ≤ s) (h2 : s ≤ hi) (e : hi.toInt - lo.toInt < n) : ∃ k, k < n ∧ s.toInt = lo.toInt + (k : Int) := by
  rw [Int32.le_iff_toInt_le] at h1 h2
  exact ⟨(s.toInt - lo.toInt).toNat, by omega, by omega⟩
theorem i32_eqv {s x : Int32} (h : s.toInt = x.toInt) : s = x := Int32.toInt_inj.mp h
theorem join_cmp {s : Int32} {a b : Int64} (h1 : -24 ≤ s) (h2 : s ≤ -20) : is01 (joinS s a b) := by
  obtain ⟨k, hk, e⟩ := i32_btw (n := 5) h1 h2 (by decide)
  have e0 : ((-24 : Int32)).toInt = -24 := by decide
  rw [e0] at e
  have hk5 : k = 0 ∨ k = 1 ∨ k = 2 ∨ k = 3 ∨ k = 4 := by omega
  rcases hk5 with rfl | rfl | rfl | rfl | rfl
  · rw [i32_eqv (x := -24) e]
    exact is01_if
  · rw [i32_eqv (x := -23) e]
    exact is01_if
  · rw [i32_eqv (x := -22) e]
    exact is01_if'
  · rw [i32_eqv (x := -21) e]
    exact is01_if
  · rw [i32_eqv (x := -20) e]
    exact is01_if
theorem ty2_some {x y z : Bool} {τ τ' : List Bool} (h : ty2 x y z τ = some τ') : ∃ r, τ = x :: y :: r ∧ τ' = z :: r := by
  match τ, h with
  | [], h => cases h
  | [_], h => cases h
  | b :: c :: r, h =>
    have h' : (if b = x ∧ c = y then some (z :: r) else none) = some τ' := h
    by_cases d : b = x ∧ c = y
    · rw [if_pos d] at h'
      cases h'
      exact ⟨r, by rw [d.1, d.2], rfl⟩
    · rw [if_neg d] at h'
      cases h'
theorem ev_ty1 {w : Nat → Int64} {s : Int32} {p : (Nat → Int64) × Nat} {τ τ' : List Bool} (h : ty1 s τ = some τ') (h2 : p.2 = τ.length) (hv : Tv τ p.1) : (ev1 w s p).2 = τ'.length ∧ Tv τ' (ev1 w s p).1 := by
  unfold ty1 at h
  unfold ev1
  by_cases c : s ≤ -15
  · rw [if_pos c] at h ⊢
    by_cases d : s = -27
    · rw [if_pos d] at h ⊢
      match τ, h, h2, hv with
      | true :: r, h, h2, hv =>
        cases h
        have l : p.2 - 1 = r.length := by rw [h2]; rfl
        refine ⟨h2, fun _ => ?_, ?_⟩
        · show is01 (vp_updL p.1 (p.2 - 1) (1 - p.1 (p.2 - 1)) r.length)
          rw [l, updL_eq]
          exact is01_not (hv.1 rfl)
        · exact Tv_upd (by omega) hv.2
    · rw [if_neg d] at h ⊢
      by_cases g : s = -25 ∨ s = -26
      · rw [if_pos g] at h
        obtain ⟨r, rfl, rfl⟩ := ty2_some h
        have l : p.2 = r.length + 2 := h2
        refine ⟨show p.2 - 1 = r.length + 1 by omega, fun _ => ?_, ?_⟩
        · show is01 (vp_updL p.1 (p.2 - 2) _ r.length)
          rw [show p.2 - 2 = r.length by omega, show p.2 - 1 = r.length + 1 by omega, updL_eq]
          have i1 : is01 (p.1 (r.length + 1)) := hv.1 rfl
          have i2 : is01 (p.1 r.length) := hv.2.1 rfl
          rcases g with rfl | rfl
          · exact is01_and i2 i1
          · exact is01_or i2 i1
        · exact Tv_upd (by omega) hv.2.2
      · rw [if_neg g] at h
        by_cases k : -24 ≤ s ∧ s ≤ -20
        · rw [if_pos k] at h
          obtain ⟨r, rfl, rfl⟩ := ty2_some h
          have l : p.2 = r.length + 2 := h2
          refine ⟨show p.2 - 1 = r.length + 1 by omega, fun _ => ?_, ?_⟩
          · show is01 (vp_updL p.1 (p.2 - 2) _ r.length)
            rw [show p.2 - 2 = r.length by omega, updL_eq]
            exact join_cmp k.1 k.2
          · exact Tv_upd (by omega) hv.2.2
        · rw [if_neg k] at h
          by_cases j : -19 ≤ s
          · rw [if_pos j] at h
            obtain ⟨r, rfl, rfl⟩ := ty2_some h
            have l : p.2 = r.length + 2 := h2
            exact ⟨show p.2 - 1 = r.length + 1 by omega, fun e => absurd e (by decide), Tv_upd (by omega) hv.2.2⟩
          · rw [if_neg j] at h
            cases h
  · rw [if_neg c] at h ⊢
    by_cases g : τ.length < 60
    · rw [if_pos g] at h
      cases h
      exact ⟨by show p.2 + 1 = τ.length + 1; rw [h2], fun e => absurd e (by decide), Tv_upd (by omega) hv⟩
    · rw [if_neg g] at h
      cases h
theorem ev_ty {st : Nat → Int32} {w : Nat → Int64} {a : Nat} {f : Nat → Int64} : ∀ {n : Nat} {τ : List Bool}, tyS st a n [] = some τ → (evS st w a n (f, 0)).2 = τ.length ∧ Tv τ (evS st w a n (f, 0)).1
  | 0, τ, h => by
    have h' : some [] = some τ := h
    cases h'
    exact ⟨rfl, trivial⟩
  | n + 1, τ, h => by
    have h' : (tyS st a n []).bind (ty1 (st (a + n))) = some τ := h
    cases e : tyS st a n [] with
    | none => rw [e] at h'; cases h'
    | some τ1 =>
      rw [e] at h'
      have ih := ev_ty (w := w) (f := f) e
      exact ev_ty1 (w := w) (p := evS st w a n (f, 0)) h' ih.1 ih.2
/-- stacks alike below the height give stacks alike below the height -/
theorem ev_same1 {w w' : Nat → Int64} {s : Int32} {p p' : (Nat → Int64) × Nat} {τ τ' : List Bool} (h : ty1 s τ = some τ') (hw : ∀ k, k < 14 → w k = w' k) (h2 : p.2 = τ.length) (he : p'.2 = p.2) (hv : ∀ j, j < p.2 → p.1 j = p'.1 j) : (ev1 w' s p').2 = (ev1 w s p).2 ∧ ∀ j, j < (ev1 w s p).2 → (ev1 w s p).1 j = (ev1 w' s p').1 j := by
  unfold ty1 at h
  unfold ev1
  by_cases c : s ≤ -15
  · rw [if_pos c] at h
    rw [if_pos c, if_pos c]
    by_cases d : s = -27
    · rw [if_pos d] at h
      rw [if_pos d, if_pos d]
      match τ, h, h2 with
      | true :: r, h, h2 =>
        have l : p.2 = r.length + 1 := h2
        refine ⟨he, fun j hj => ?_⟩
        show vp_updL p.1 (p.2 - 1) _ j = vp_updL p'.1 (p'.2 - 1) _ j
        have hj' : j < p.2 := hj
        rw [he, hv (p.2 - 1) (by omega)]
        by_cases q : j = p.2 - 1
        · rw [q, updL_eq, updL_eq]
        · rw [updL_ne _ _ q, updL_ne _ _ q, hv j hj']
    · rw [if_neg d] at h
      rw [if_neg d, if_neg d]
      have l : 2 ≤ p.2 := by
        by_cases g : s = -25 ∨ s = -26
        · rw [if_pos g] at h
          obtain ⟨r, rfl, rfl⟩ := ty2_some h
          rw [h2]
          show 2 ≤ r.length + 2
          omega
        · rw [if_neg g] at h
          by_cases k : -24 ≤ s ∧ s ≤ -20
          · rw [if_pos k] at h
            obtain ⟨r, rfl, rfl⟩ := ty2_some h
            rw [h2]
            show 2 ≤ r.length + 2
            omega
          · rw [if_neg k] at h
            by_cases j : -19 ≤ s
            · rw [if_pos j] at h
              obtain ⟨r, rfl, rfl⟩ := ty2_some h
              rw [h2]
              show 2 ≤ r.length + 2
              omega
            · rw [if_neg j] at h
              cases h
      refine ⟨by show p'.2 - 1 = p.2 - 1; rw [he], fun j hj => ?_⟩
      show vp_updL p.1 (p.2 - 2) _ j = vp_updL p'.1 (p'.2 - 2) _ j
      have hj' : j < p.2 - 1 := hj
      rw [he, hv (p.2 - 1) (by omega), hv (p.2 - 2) (by omega)]
      by_cases q : j = p.2 - 2
      · rw [q, updL_eq, updL_eq]
      · rw [updL_ne _ _ q, updL_ne _ _ q, hv j (by omega)]
  · rw [if_neg c] at h
    rw [if_neg c, if_neg c]
    refine ⟨by show p'.2 + 1 = p.2 + 1; rw [he], fun j hj => ?_⟩
    show vp_updL p.1 p.2 _ j = vp_updL p'.1 p'.2 _ j
    have hj' : j < p.2 + 1 := hj
    have ew : (if s < 0 then w (-1 - s).toNatClampNeg else s.toInt64) = (if s < 0 then w' (-1 - s).toNatClampNeg else s.toInt64) := by
      by_cases n : s < 0
      · rw [if_pos n, if_pos n]
        have h3 : (-15 : Int32) < s := Int32.not_le.mp c
        rw [Int32.lt_iff_toInt_lt] at h3 n
        have e15 : ((-15 : Int32)).toInt = -15 := by decide
        have e0 : ((0 : Int32)).toInt = 0 := by decide
        rw [e15] at h3
        rw [e0] at n
        have ex : ∃ k : Nat, k < 14 ∧ s.toInt = -1 - (k : Int) := ⟨(-1 - s.toInt).toNat, by omega, by omega⟩
        obtain ⟨k, hk, e⟩ := ex
        have ek : (-1 - s).toNatClampNeg = k := by
          have all : ∀ k, k < 14 → (-1 - (-1 - nI k)).toNatClampNeg = k ∧ (-1 - nI k).toInt = -1 - (k : Int) := by decide +kernel
          have es : s = -1 - nI k := i32_eqv (by rw [e, (all k hk).2])
          rw [es]
          exact (all k hk).1
        rw [ek, hw k hk]
      · rw [if_neg n, if_neg n]
    rw [he, ew]
    by_cases q : j = p.2
    · rw [q, updL_eq, updL_eq]
    · rw [updL_ne _ _ q, updL_ne _ _ q, hv j (by omega)]
theorem ev_same {st : Nat → Int32} {w w' : Nat → Int64} {a : Nat} {f f' : Nat → Int64} (hw : ∀ k, k < 14 → w k = w' k) : ∀ {n : Nat} {τ : List Bool}, tyS st a n [] = some τ → (evS st w' a n (f', 0)).2 = (evS st w a n (f, 0)).2 ∧ ∀ j, j < (evS st w a n (f, 0)).2 → (evS st w a n (f, 0)).1 j = (evS st w' a n (f', 0)).1 j
  | 0, τ, h => ⟨rfl, fun j hj => absurd hj (Nat.not_lt_zero j)⟩
  | n + 1, τ, h => by
    have h' : (tyS st a n []).bind (ty1 (st (a + n))) = some τ := h
    cases e : tyS st a n [] with
    | none => rw [e] at h'; cases h'
    | some τ1 =>
      rw [e] at h'
      have ih := ev_same (f := f) (f' := f') hw e
      exact ev_same1 (p := evS st w a n (f, 0)) (p' := evS st w' a n (f', 0)) h' hw (ev_ty e).1 ih.1 ih.2
/-- what a run of steps comes to -/
def valS (st : Nat → Int32) (w : Nat → Int64) (a n : Nat) : Int64 := (evS st w a n (fun _ => 0, 0)).1 0
theorem val_eq {st : Nat → Int32} {w w' : Nat → Int64} {a n : Nat} {b : Bool} {f : Nat → Int64} (hw : ∀ k, k < 14 → w k = w' k) (h : tyS st a n [] = some [b]) : (evS st w a n (f, 0)).1 0 = valS st w' a n := by
  have e := ev_same (f := f) (f' := fun _ => 0) hw h
  have l : (evS st w a n (f, 0)).2 = 1 := (ev_ty h).1
  exact e.2 0 (by rw [l]; omega)
theorem val_01 {st : Nat → Int32} {w : Nat → Int64} {a n : Nat} (h : tyS st a n [] = some [true]) : is01 (valS st w a n) := (ev_ty (w := w) (f := fun _ => 0) h).2.1 rfl
