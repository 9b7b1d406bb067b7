/-! ROWS over chunk worlds -/
def kn_tys (tc : Nat → ClassId) : List (ClassId × FieldType) := [(tc 0, .int), (tc 1, .byte), (tc 2, .boolean), (tc 3, .long), (tc 4, .object "TinWall$State"), (tc 5, .object "TinWall$Scene"), (tc 6, .object "TinWall$Rule"), (tc 7, .array .int)]
def kn_I (D : va_G) (tc : Nat → ClassId) (A : Nat → Prop) (H0 : Heap) (w : List CH) (H : Heap) (locs : List Loc) : Prop := kn_P D tc w H ∧ kn_D A w ∧ va_S A H0 H locs
def kn_A (w : List CH) (sz : Nat) : Nat → Prop := fun q => (∃ (i : Nat) (ch : CH), w[i]? = some ch ∧ q ∈ kn_ads ch) ∨ sz ≤ q
/-- the String constants of the system: class, entry, text, bytes -/
def kn_str : List (String × Nat × String × List Int32) := [("TinWall$HillReader", 40, "hill stone tin thing seeker walker", [104, 105, 108, 108, 32, 115, 116, 111, 110, 101, 32, 116, 105, 110, 32, 116, 104, 105, 110, 103, 32, 115, 101, 101, 107, 101, 114, 32, 119, 97, 108, 107, 101, 114]),
  ("TinWall$RuleReader", 46, "if", [105, 102]),
  ("TinWall$RuleReader", 65, "look", [108, 111, 111, 107]),
  ("TinWall$RuleReader", 84, "and", [97, 110, 100]),
  ("TinWall$RuleReader", 86, "or", [111, 114]),
  ("TinWall$RuleReader", 92, "not", [110, 111, 116]),
  ("TinWall$RuleReader", 127, "seeker stone feet hard odds wear figure off minutes skill vain tried found day", [115, 101, 101, 107, 101, 114, 32, 115, 116, 111, 110, 101, 32, 102, 101, 101, 116, 32, 104, 97, 114, 100, 32, 111, 100, 100, 115, 32, 119, 101, 97, 114, 32, 102, 105, 103, 117, 114, 101, 32, 111, 102, 102, 32, 109, 105, 110, 117, 116, 101, 115, 32, 115, 107, 105, 108, 108, 32, 118, 97, 105, 110, 32, 116, 114, 105, 101, 100, 32, 102, 111, 117, 110, 100, 32, 100, 97, 121]),
  ("TinWallModel", 175, "seeker", [115, 101, 101, 107, 101, 114]),
  ("TinWallModel", 177, "stone", [115, 116, 111, 110, 101]),
  ("TinWallModel", 179, "feet", [102, 101, 101, 116]),
  ("TinWallModel", 180, "hard", [104, 97, 114, 100]),
  ("TinWallModel", 181, "odds", [111, 100, 100, 115]),
  ("TinWallModel", 182, "wear", [119, 101, 97, 114]),
  ("TinWallModel", 183, "figure", [102, 105, 103, 117, 114, 101]),
  ("TinWallModel", 185, "off", [111, 102, 102]),
  ("TinWallModel", 187, "minutes", [109, 105, 110, 117, 116, 101, 115]),
  ("TinWallModel", 189, "skill", [115, 107, 105, 108, 108]),
  ("TinWallModel", 190, "vain", [118, 97, 105, 110]),
  ("TinWallModel", 191, "tried", [116, 114, 105, 101, 100]),
  ("TinWallModel", 192, "found", [102, 111, 117, 110, 100]),
  ("TinWallModel", 194, "day", [100, 97, 121]),
  ("TinWallModel", 276, "not", [110, 111, 116]),
  ("TinWallModel", 290, "and", [97, 110, 100]),
  ("TinWallModel", 292, "or", [111, 114]),
  ("TinWallModel", 294, "hill", [104, 105, 108, 108]),
  ("TinWallModel", 296, "thing", [116, 104, 105, 110, 103]),
  ("TinWallModel", 298, "walker", [119, 97, 108, 107, 101, 114]),
  ("TinWallModel", 300, "tin", [116, 105, 110]),
  ("TinWallModel", 341, "look", [108, 111, 111, 107]),
  ("TinWallModel", 343, "if", [105, 102])]
/-- the constructors that a nest mate calls -/
def kn_nest : List (String × Nat × MethodName × String) := [("TinWall", 15, ⟨"TinWall$HillReader", "<init>", "()V"⟩, "TinWall"),
  ("TinWall$HillReader", 11, ⟨"TinWall$Reader", "<init>", "()V"⟩, "TinWall"),
  ("TinWall", 22, ⟨"TinWall$RuleReader", "<init>", "()V"⟩, "TinWall"),
  ("TinWall$RuleReader", 11, ⟨"TinWall$Reader", "<init>", "()V"⟩, "TinWall"),
  ("TinWall$RuleReader", 20, ⟨"TinWall$Rule", "<init>", "()V"⟩, "TinWall"),
  ("TinWall$Scene", 11, ⟨"TinWall$Hill", "<init>", "()V"⟩, "TinWall"),
  ("TinWall$Scene", 24, ⟨"TinWall$State", "<init>", "()V"⟩, "TinWall"),
  ("TinWall", 46, ⟨"TinWall$Walk", "<init>", "()V"⟩, "TinWall"),
  ("TinWall", 53, ⟨"TinWall$State", "<init>", "()V"⟩, "TinWall"),
  ("TinWall", 76, ⟨"TinWall$Hill", "<init>", "()V"⟩, "TinWall")]
/-- the classes that arrays of references are made of -/
def kn_over : List String := ["TinWall$State", "TinWall$Scene", "TinWall$Rule"]
/-- what is known of them, and of String's one static that is read -/
def kn_Z (Z : (Nat → Nat) × (Nat → Nat)) (A : Nat → Prop) (U : State) (H : Heap) : Prop := (∀ (i : Nat) (q : String × Nat × String × List Int32), kn_str[i]? = some q → vk_R q.1 q.2.1 q.2.2.1 (Z.1 i) U ∧ vk_S 1 [q.2.2.2.length] [q.2.2.2] (fun _ => Z.1 i) (fun _ => Z.2 i) A U H) ∧ va_Z "java/lang/String" "COMPACT_STRINGS" "Z" (.int 1) A U H ∧ va_Zq "jdk/internal/util/Preconditions" "SIOOBE_FORMATTER" "Ljava/util/function/BiFunction;" A U H ∧ (∀ q ∈ kn_nest, va_Nw (.methodLinkNest q.1 q.2.1 q.2.2.1 q.2.2.2) U) ∧ (∀ t ∈ kn_over, va_AO t U) ∧ va_AOA .int U
theorem kn_Z.blind {Z : (Nat → Nat) × (Nat → Nat)} {A : Nat → Prop} {U : State} {g : JFrame} {mk : MethodId} {a : Array Value} (h : kn_Z Z A U U.heap) : kn_Z Z A (U.calling g mk a) (U.calling g mk a).heap :=
  ⟨fun i q hq => ⟨vk_R.same (u := U) (U := U.calling g mk a) rfl (h.1 i q hq).1, vk_S.moved (u := U) (U := U.calling g mk a) (Vm.Alike.refl U.vm) (h.1 i q hq).2⟩, va_Z.moved (u := U) (U := U.calling g mk a) (Vm.Alike.refl U.vm) h.2.1, va_Zq.moved (u := U) (U := U.calling g mk a) (Vm.Alike.refl U.vm) h.2.2.1, fun q hq => (h.2.2.2.1 q hq).same rfl rfl, fun t ht => (h.2.2.2.2.1 t ht).moved (u := U) (U := U.calling g mk a) (Vm.Alike.refl U.vm), va_AOA.moved (u := U) (U := U.calling g mk a) (Vm.Alike.refl U.vm) h.2.2.2.2.2⟩
theorem kn_Z.call {Z : (Nat → Nat) × (Nat → Nat)} {A B : Nat → Prop} {s U : State} {H : Heap} {locs : List Loc} (h : kn_Z Z A s s.heap) (hS : va_S A s.heap H locs) (hAB : ∀ q, B q → A q) (hU : U.heap = H) (hW : s.WarmedH U.vm) : kn_Z Z B U U.heap := by
  rw [hU]
  exact ⟨fun i q hq => ⟨vk_R.warm hW (h.1 i q hq).1, ((vk_S.moved hW.alike (h.1 i q hq).2).kept hS.2.1).narrow hAB⟩, ((va_Z.moved hW.alike h.2.1).kept hS.2.1).narrow hAB, ((va_Zq.moved hW.alike h.2.2.1).kept hS.2.1).narrow hAB, fun q hq => (h.2.2.2.1 q hq).warmM hW, fun t ht => (h.2.2.2.2.1 t ht).moved hW.alike, va_AOA.moved hW.alike h.2.2.2.2.2⟩
def kn_sb (i : Nat) : List Int32 := match kn_str[i]? with
  | some q => q.2.2.2
  | none => []
theorem kn_zs {Z : (Nat → Nat) × (Nat → Nat)} {A : Nat → Prop} {U : State} {H : Heap} (h : kn_Z Z A U H) {i : Nat} (hi : i < 30) : vk_S 1 [(kn_sb i).length] [kn_sb i] (fun _ => Z.1 i) (fun _ => Z.2 i) A U H := by
  have hl : i < kn_str.length := hi
  have e : kn_str[i]? = some kn_str[i] := List.getElem?_eq_getElem hl
  have e2 : kn_sb i = (kn_str[i]).2.2.2 := by
    unfold kn_sb
    rw [e]
  rw [e2]
  exact (h.1 i _ e).2
def kn_B (D : va_G) (tc : Nat → ClassId) (Z : (Nat → Nat) × (Nat → Nat)) (w : List CH) (sz : Nat) (U : State) : Prop := U.heap.size = sz ∧ kn_P D tc w U.heap ∧ va_K D vwCl (kn_tys tc) U ∧ kn_D (fun _ => True) w ∧ kn_Z Z (kn_A w sz) U U.heap
theorem kn_blind {D : va_G} {tc : Nat → ClassId} {Z : (Nat → Nat) × (Nat → Nat)} {w : List CH} {sz : Nat} {av : List Value} : FrameBlind (va_Pc av (kn_B D tc Z w sz)) := fun a U g mk q => ⟨q.1, q.2.1, q.2.2.1, va_K.moved (u := U) (U := U.calling g mk a) (Vm.Alike.refl U.vm) q.2.2.2.1, q.2.2.2.2.1, q.2.2.2.2.2.blind⟩
def kn_O (D : va_G) (tc : Nat → ClassId) {S : Type} (w' : S → List CH) (Af : Nat → Prop) : S → State → Prop := fun u t => kn_P D tc (w' u) t.heap ∧ kn_D Af (w' u)
/-- contracts: from the world w, with the answer and the new value u by 'post', to the world w' u -/
def CTi (l : Launch) (D : va_G) (tc : Nat → ClassId) (Z : (Nat → Nat) × (Nat → Nat)) (y : MethodName) (ws : List Cond) (rm : Room) (mc ms : Nat) (av : List Value) (w : List CH) {S : Type} (w' : S → List CH) (post : Int32 → S → Prop) : Prop := ∀ sz : Nat, Met l y ws rm (va_Pc av (kn_B D tc Z w sz)) (va_Qi post (kn_O D tc w' (kn_A w sz)) (kn_A w sz)) mc ms (kn_A w sz)
def CTl (l : Launch) (D : va_G) (tc : Nat → ClassId) (Z : (Nat → Nat) × (Nat → Nat)) (y : MethodName) (ws : List Cond) (rm : Room) (mc ms : Nat) (av : List Value) (w : List CH) {S : Type} (w' : S → List CH) (post : Int64 → S → Prop) : Prop := ∀ sz : Nat, Met l y ws rm (va_Pc av (kn_B D tc Z w sz)) (va_Ql post (kn_O D tc w' (kn_A w sz)) (kn_A w sz)) mc ms (kn_A w sz)
def CTv (l : Launch) (D : va_G) (tc : Nat → ClassId) (Z : (Nat → Nat) × (Nat → Nat)) (y : MethodName) (ws : List Cond) (rm : Room) (mc ms : Nat) (av : List Value) (w : List CH) {S : Type} (w' : S → List CH) (post : S → Prop) : Prop := ∀ sz : Nat, Met l y ws rm (va_Pc av (kn_B D tc Z w sz)) (va_Qv post (kn_O D tc w' (kn_A w sz)) (kn_A w sz)) mc ms (kn_A w sz)
def CTq (l : Launch) (D : va_G) (tc : Nat → ClassId) (Z : (Nat → Nat) × (Nat → Nat)) (y : MethodName) (ws : List Cond) (rm : Room) (mc ms : Nat) (av : List Value) (w : List CH) {S : Type} (w' : S → List CH) (post : Option Nat → S → Prop) : Prop := ∀ sz : Nat, Met l y ws rm (va_Pc av (kn_B D tc Z w sz)) (va_Qq post (kn_O D tc w' (kn_A w sz)) (kn_A w sz)) mc ms (kn_A w sz)
theorem kn_cellO {tc : Nat → ClassId} {w : List CH} {i ci : Nat} {fl : List Nat} {al : List (Nat × Nat × Nat)} {ad : Nat → Nat} {v : OV} (hw : w[i]? = some ((some (ci, fl), al), ad, v)) : (ad 0, .inr (ci, kn_fs ad v 0 fl)) ∈ kn_cells tc ((some (ci, fl), al), ad, v) ∧ ∃ q0 : Nat, (kn_flat tc w)[q0]? = some (ad 0, .inr (ci, kn_fs ad v 0 fl)) := by
  have h1 : (ad 0, .inr (ci, kn_fs ad v 0 fl)) ∈ kn_cells tc ((some (ci, fl), al), ad, v) := List.mem_append_left _ (List.mem_map.mpr ⟨(ci, fl), List.mem_singleton.mpr rfl, rfl⟩)
  exact ⟨h1, List.getElem?_of_mem (kn_mem.mpr ⟨i, _, hw, h1⟩)⟩
theorem kn_cellA {tc : Nat → ClassId} {w : List CH} {i : Nat} {kd : KD} {ad : Nat → Nat} {v : OV} {b : Nat × Nat × Nat} (hw : w[i]? = some (kd, ad, v)) (hb : b ∈ kd.2) : (ad (b.1 + 1), .inl (tc b.2.1, kn_ac ad v b)) ∈ kn_cells tc (kd, ad, v) ∧ ∃ q0 : Nat, (kn_flat tc w)[q0]? = some (ad (b.1 + 1), .inl (tc b.2.1, kn_ac ad v b)) := by
  have h1 : (ad (b.1 + 1), .inl (tc b.2.1, kn_ac ad v b)) ∈ kn_cells tc (kd, ad, v) := List.mem_append_right _ (List.mem_map.mpr ⟨b, hb, rfl⟩)
  exact ⟨h1, List.getElem?_of_mem (kn_mem.mpr ⟨i, _, hw, h1⟩)⟩
theorem kn_fs_at0 {ad : Nat → Nat} {v : OV} {l : List Nat} {k c : Nat} (h : l[k]? = some c) : (kn_fs ad v 0 l)[k]? = some (kn_fv ad v k c) := by
  rw [kn_fs_at ad v l 0 k c h, Nat.zero_add]
theorem kn_fs_lt {ad : Nat → Nat} {v : OV} {l : List Nat} {k c : Nat} (h : l[k]? = some c) : k < (kn_fs ad v 0 l).length := by
  rw [kn_fs_len]
  exact (List.getElem?_eq_some_iff.mp h).1
theorem kn_ac_sa {ad : Nat → Nat} {v : OV} {k n t : Nat} {f : Nat → Int32} {al : List (Nat × Nat × Nat)} (hu : ∀ b ∈ al, b.1 = k → b = (k, t, n)) : ∀ d ∈ al, d ≠ (k, t, n) → kn_ac ad (sa v k f) d = kn_ac ad v d := by
  intro d hd hne
  have h : ¬ d.1 = k := fun e => hne (hu d hd e)
  unfold kn_ac sa
  dsimp only
  rw [if_neg h]
theorem kn_ac_sl {ad : Nat → Nat} {v : OV} {k n t : Nat} {f : Nat → Int64} {al : List (Nat × Nat × Nat)} (hu : ∀ b ∈ al, b.1 = k → b = (k, t, n)) : ∀ d ∈ al, d ≠ (k, t, n) → kn_ac ad (sl v k f) d = kn_ac ad v d := by
  intro d hd hne
  have h : ¬ d.1 = k := fun e => hne (hu d hd e)
  unfold kn_ac sl
  dsimp only
  rw [if_neg h]
theorem kn_D.sub {A B : Nat → Prop} {w w' : List CH} (hD : kn_D A w) (is : List Nat) (hn : va_nd is = true) (hs : is.map (fun i => w[i]?) = w'.map some) (hB : ∀ (i : Nat) (ch : CH), w'[i]? = some ch → ∀ a ∈ kn_ads ch, A a → B a) : kn_D B w' := by
  have key : ∀ (k : Nat) (q : CH), w'[k]? = some q → ∃ i, is[k]? = some i ∧ w[i]? = some q := by
    intro k q hk
    have h1 : (is.map (fun i => w[i]?))[k]? = some (some q) := by rw [hs, List.getElem?_map, hk]; rfl
    rw [List.getElem?_map] at h1
    cases hi : is[k]? with
    | none => rw [hi] at h1; cases h1
    | some i => rw [hi] at h1; exact ⟨i, rfl, Option.some.inj h1⟩
  refine ⟨fun i j p q a hi hj hp hq => ?_, fun k q hk => ?_⟩
  · obtain ⟨x, h1, h2⟩ := key i p hi
    obtain ⟨y, h3, h4⟩ := key j q hj
    have hab := hD.1 x y p q a h2 h4 hp hq
    subst hab
    exact va_nd_inj is hn i j x h1 h3
  · obtain ⟨x, -, h2⟩ := key k q hk
    exact ⟨(hD.2 x q h2).1, fun a ha => hB k q hk a ha ((hD.2 x q h2).2 a ha)⟩
theorem kn_P.sub {D : va_G} {tc : Nat → ClassId} {w w' : List CH} {H : Heap} (h : kn_P D tc w H) (is : List Nat) (hs : is.map (fun i => w[i]?) = w'.map some) : kn_P D tc w' H := by
  intro k x hk
  obtain ⟨j, p, hj, hx⟩ := kn_mem.mp (List.mem_of_getElem? hk)
  have h1 : (is.map (fun i => w[i]?))[j]? = some (some p) := by rw [hs, List.getElem?_map, hj]; rfl
  rw [List.getElem?_map] at h1
  cases hi : is[j]? with
  | none => rw [hi] at h1; cases h1
  | some i =>
    rw [hi] at h1
    obtain ⟨q0, hq0⟩ := List.getElem?_of_mem (kn_mem (tc := tc).mpr ⟨i, p, Option.some.inj h1, hx⟩)
    exact h q0 x hq0
theorem kn_I.sub {D : va_G} {tc : Nat → ClassId} {A : Nat → Prop} {H0 H : Heap} {w w' : List CH} {locs : List Loc} (I : kn_I D tc A H0 w H locs) (is : List Nat) (hn : va_nd is = true) (hs : is.map (fun i => w[i]?) = w'.map some) : kn_I D tc A H0 w' H locs := ⟨I.1.sub is hs, I.2.1.sub is hn hs (fun _ _ _ _ _ h => h), I.2.2⟩
theorem kn_P.app {D : va_G} {tc : Nat → ClassId} {w1 w2 : List CH} {H : Heap} (h1 : kn_P D tc w1 H) (h2 : kn_P D tc w2 H) : kn_P D tc (w1 ++ w2) H := by
  unfold kn_P kn_flat
  rw [List.flatMap_append]
  exact va_P.app h1 h2
theorem kn_D.app {A : Nat → Prop} {w1 w2 : List CH} (h1 : kn_D A w1) (h2 : kn_D A w2) (hx : ∀ (i j : Nat) (p q : CH) (a : Nat), w1[i]? = some p → w2[j]? = some q → a ∈ kn_ads p → a ∉ kn_ads q) : kn_D A (w1 ++ w2) := by
  have key : ∀ (k : Nat) (q : CH), (w1 ++ w2)[k]? = some q → (k < w1.length ∧ w1[k]? = some q) ∨ (w1.length ≤ k ∧ w2[k - w1.length]? = some q) := by
    intro k q hk
    by_cases hl : k < w1.length
    · rw [List.getElem?_append_left hl] at hk
      exact Or.inl ⟨hl, hk⟩
    · rw [List.getElem?_append_right (by omega)] at hk
      exact Or.inr ⟨by omega, hk⟩
  refine ⟨fun i j x y a hi hj hax hay => ?_, fun k q hk => ?_⟩
  · rcases key i x hi with ⟨l1, a1⟩ | ⟨l1, a1⟩ <;> rcases key j y hj with ⟨l2, a2⟩ | ⟨l2, a2⟩
    · exact h1.1 i j x y a a1 a2 hax hay
    · exact absurd hay (hx _ _ x y a a1 a2 hax)
    · exact absurd hax (hx _ _ y x a a2 a1 hay)
    · have := h2.1 _ _ x y a a1 a2 hax hay
      omega
  · rcases key k q hk with ⟨-, a1⟩ | ⟨-, a1⟩
    · exact h1.2 _ q a1
    · exact h2.2 _ q a1
theorem kn_at {w wc : List CH} {is : List Nat} (hs : is.map (fun i => w[i]?) = wc.map some) (k : Nat) (q : CH) (hq : wc[k]? = some q) : ∃ i, is[k]? = some i ∧ w[i]? = some q := by
  have h1 : (is.map (fun i => w[i]?))[k]? = some (some q) := by rw [hs, List.getElem?_map, hq]; rfl
  rw [List.getElem?_map] at h1
  cases hi : is[k]? with
  | none => rw [hi] at h1; cases h1
  | some i => rw [hi] at h1; exact ⟨i, rfl, Option.some.inj h1⟩
theorem kn_free {D : va_G} {tc : Nat → ClassId} {A : Nat → Prop} {H0 H : Heap} {w wc : List CH} {locs : List Loc} (I : kn_I D tc A H0 w H locs) (hA : ∀ q, H0.size ≤ q → A q) (isC : List Nat) (hC : isC.map (fun i => w[i]?) = wc.map some) : ∀ q, kn_A wc H.size q → A q := by
  intro q h
  rcases h with ⟨k, ch, h, hq⟩ | h
  · obtain ⟨i, -, h2⟩ := kn_at hC k ch h
    exact (I.2.1.2 i ch h2).2 q hq
  · exact hA q (Nat.le_trans I.2.2.1 h)
theorem kn_lt {D : va_G} {tc : Nat → ClassId} {w : List CH} {H : Heap} (h : kn_P D tc w H) {i : Nat} {ch : CH} (hi : w[i]? = some ch) {a : Nat} (ha : a ∈ kn_ads ch) : a < H.size := by
  rw [← kn_ads_eq tc ch] at ha
  obtain ⟨x, hx, rfl⟩ := List.mem_map.mp ha
  obtain ⟨q0, hq0⟩ := List.getElem?_of_mem (kn_mem (tc := tc).mpr ⟨i, ch, hi, hx⟩)
  exact (h q0 x hq0).lt
theorem kn_join {D : va_G} {tc : Nat → ClassId} {A : Nat → Prop} {H0 H H1 : Heap} {w wc wr w1 : List CH} {locs : List Loc} (I : kn_I D tc A H0 w H locs) (hF : ∀ q, kn_A wc H.size q → A q) (isC isR : List Nat) (hC : isC.map (fun i => w[i]?) = wc.map some) (hR : isR.map (fun i => w[i]?) = wr.map some) (hn : va_nd isR = true) (hdis : ∀ i ∈ isR, i ∉ isC)
    (hk : ∀ q : Nat, q < H.size → ¬ kn_A wc H.size q → H1[q]? = H[q]?) (hP1 : kn_P D tc w1 H1) (hD1 : kn_D (kn_A wc H.size) w1) : kn_P D tc (wr ++ w1) H1 ∧ kn_D A (wr ++ w1) := by
  have apart : ∀ (k : Nat) (q : CH), wr[k]? = some q → ∀ a ∈ kn_ads q, a < H.size ∧ ¬ kn_A wc H.size a := by
    intro k q hq a ha
    obtain ⟨i, h1, h2⟩ := kn_at hR k q hq
    have hl := kn_lt I.1 h2 ha
    refine ⟨hl, fun h => ?_⟩
    rcases h with ⟨k2, ch, h, hc⟩ | h
    · obtain ⟨j, h3, h4⟩ := kn_at hC k2 ch h
      have hij := I.2.1.1 i j q ch a h2 h4 ha hc
      subst hij
      exact hdis i (List.mem_of_getElem? h1) (List.mem_of_getElem? h3)
    · omega
  refine ⟨kn_P.app (fun k x hx => ?_) hP1, kn_D.app (I.2.1.sub isR hn hR (fun _ _ _ _ _ h => h)) ⟨hD1.1, fun i p hi => ⟨(hD1.2 i p hi).1, fun a ha => hF a ((hD1.2 i p hi).2 a ha)⟩⟩ (fun i j x y a hx hy hax hay => ?_)⟩
  · obtain ⟨j, ch, hj, hxc⟩ := kn_mem.mp (List.mem_of_getElem? hx)
    obtain ⟨i, h1, h2⟩ := kn_at hR j ch hj
    obtain ⟨g1, g2⟩ := apart j ch hj x.1 (kn_memA hxc)
    obtain ⟨q0, hq0⟩ := List.getElem?_of_mem (kn_mem (tc := tc).mpr ⟨i, ch, h2, hxc⟩)
    exact (I.1 q0 x hq0).kept (hk x.1 g1 g2)
  · exact (apart i x hx a hax).2 ((hD1.2 j y hy).2 a hay)
theorem kn_D.self {A : Nat → Prop} {w : List CH} {sz : Nat} (h : kn_D A w) : kn_D (kn_A w sz) w := ⟨h.1, fun i p hi => ⟨(h.2 i p hi).1, fun _ ha => Or.inl ⟨i, p, hi, ha⟩⟩⟩
theorem kn_rf_null {r : Option Nat} (h : r = none) : va_rf r = .null := by rw [h]; rfl
theorem kn_rf_ref {r : Option Nat} {a : Nat} (h : r = some a) : va_rf r = .ref a := by rw [h]; rfl
/-- an object's reference is turned to another object -/
def kn_up (ad : Nat → Nat) (k a : Nat) : Nat → Nat := fun j => if j = k + 1 then a else ad j
theorem kn_up_s {ad : Nat → Nat} {k a : Nat} : kn_up ad k a (k + 1) = a := if_pos rfl
theorem kn_up_n {ad : Nat → Nat} {k a j : Nat} (h : ¬ j = k) : kn_up ad k a (j + 1) = ad (j + 1) := if_neg (by omega)
theorem kn_up_0 {ad : Nat → Nat} {k a : Nat} : kn_up ad k a 0 = ad 0 := if_neg (by omega)
theorem kn_fs_eq2 {ad : Nat → Nat} {v : OV} {k a : Nat} : ∀ (l : List Nat) (k0 : Nat), k < k0 → kn_fs (kn_up ad k a) v k0 l = kn_fs ad v k0 l
  | [], _, _ => rfl
  | c :: l, k0, h => by
    show kn_fv (kn_up ad k a) v k0 c :: kn_fs (kn_up ad k a) v (k0 + 1) l = kn_fv ad v k0 c :: kn_fs ad v (k0 + 1) l
    rw [kn_fs_eq2 l (k0 + 1) (by omega)]
    congr 1
    unfold kn_fv
    rw [kn_up_n (by omega)]
theorem kn_fs_set2 {ad : Nat → Nat} {v : OV} {a : Nat} : ∀ (l : List Nat) (k0 k : Nat), l[k]? = some 1 → kn_fs (kn_up ad (k0 + k) a) v k0 l = (kn_fs ad v k0 l).set k (.ref a)
  | [], _, k, h => by simp at h
  | c0 :: l, k0, 0, h => by
    rw [List.getElem?_cons_zero] at h
    cases h
    show kn_fv (kn_up ad k0 a) v k0 1 :: kn_fs (kn_up ad k0 a) v (k0 + 1) l = .ref a :: kn_fs ad v (k0 + 1) l
    rw [kn_fs_eq2 l (k0 + 1) (by omega)]
    congr 1
    show Value.ref (kn_up ad k0 a (k0 + 1)) = .ref a
    rw [kn_up_s]
  | c0 :: l, k0, k + 1, h => by
    rw [List.getElem?_cons_succ] at h
    show kn_fv (kn_up ad (k0 + (k + 1)) a) v k0 c0 :: kn_fs (kn_up ad (k0 + (k + 1)) a) v (k0 + 1) l = kn_fv ad v k0 c0 :: (kn_fs ad v (k0 + 1) l).set k (.ref a)
    have e : k0 + (k + 1) = k0 + 1 + k := by omega
    rw [e, kn_fs_set2 l (k0 + 1) k h]
    congr 1
    unfold kn_fv
    rw [kn_up_n (by omega)]
section KN
variable {p : Program} {l : Launch} {e : Env} {R : Room} {s : State} {m : MethodId} {args : Array Value} {below : List Frame} {meth : Method} {c : Code} {H : Heap} {locs : List Loc} {cells slots : Nat} {Q : State → Prop}
variable {cc : ByteArray} {pc : Nat} {ls : Array Slot} {rest : List Value} {D : va_G} {tc : Nat → ClassId} {A : Nat → Prop} {H0 : Heap} {w : List CH}
variable {own C : String} {T : u_T} {N ci index : Nat} {Ts : List Cond} {fl : List Nat} {al : List (Nat × Nat × Nat)} {ad : Nat → Nat} {v : OV} {kd : KD}
theorem kw_geti (hexec : p.tables.exec = Jvm.exec) (hb : c.code = cc) (hts : ∀ w ∈ Ts, w.before args s = true) (hin : ∀ w ∈ u_ws C T N, w ∈ Ts) (hown : s.vm.findClass own = some m.cls) (hK : va_K D vwCl (kn_tys tc) s) (I : kn_I D tc A H0 w H locs) (i : Nat) (hw : w[i]? = some ((some (ci, fl), al), ad, v)) (hc : vwCl[ci]? = some (C, T, N)) (k : Nat) (hk : k < N) (hf : fl[k]? = some 0) (hlink : (Cond.fieldLink own index (T k).1 (T k).2.1 (T k).2.2.1).before args s = true) (hdg : decode cc pc = .ok (.getfield index, 3))
    (kk : W p l e R s m args below meth c H locs cells slots Q (F0 m (pc + 3) ls (.int (v.1 k) :: rest))) : W p l e R s m args below meth c H locs cells slots Q (F0 m pc ls (.ref (ad 0) :: rest)) := by
  obtain ⟨-, q0, hq⟩ := kn_cellO (tc := tc) hw
  exact va_get hexec hb hts hin hown hK I.1 q0 hq hc k hk hlink (fun _ h => h) (kn_fs_at0 hf) hdg kk
theorem kw_getl (hexec : p.tables.exec = Jvm.exec) (hb : c.code = cc) (hts : ∀ w ∈ Ts, w.before args s = true) (hin : ∀ w ∈ u_ws C T N, w ∈ Ts) (hown : s.vm.findClass own = some m.cls) (hK : va_K D vwCl (kn_tys tc) s) (I : kn_I D tc A H0 w H locs) (i : Nat) (hw : w[i]? = some ((some (ci, fl), al), ad, v)) (hc : vwCl[ci]? = some (C, T, N)) (k : Nat) (hk : k < N) (hf : fl[k]? = some 1) (hlink : (Cond.fieldLink own index (T k).1 (T k).2.1 (T k).2.2.1).before args s = true) (hdg : decode cc pc = .ok (.getfield index, 3)) {a : Nat} (ha : ad (k + 1) = a)
    (kk : W p l e R s m args below meth c H locs cells slots Q (F0 m (pc + 3) ls (.ref a :: rest))) : W p l e R s m args below meth c H locs cells slots Q (F0 m pc ls (.ref (ad 0) :: rest)) := by
  subst ha
  obtain ⟨-, q0, hq⟩ := kn_cellO (tc := tc) hw
  exact va_get hexec hb hts hin hown hK I.1 q0 hq hc k hk hlink (fun _ h => h) (kn_fs_at0 hf) hdg kk
theorem kw_puti (hexec : p.tables.exec = Jvm.exec) (hb : c.code = cc) (hts : ∀ w ∈ Ts, w.before args s = true) (hin : ∀ w ∈ u_ws C T N, w ∈ Ts) (ty0 : Nat → FieldType) (hty : ∀ k, k < N → parseFieldDescriptor (T k).2.2.1 = some (ty0 k)) (hnm : ∀ a, a < N → ∀ b, b < N → a ≠ b → (T a).2.1 ≠ (T b).2.1) (hown : s.vm.findClass own = some m.cls) (hK : va_K D vwCl (kn_tys tc) s) (I : kn_I D tc A H0 w H locs) (i : Nat) (hw : w[i]? = some ((some (ci, fl), al), ad, v)) (hc : vwCl[ci]? = some (C, T, N)) (k : Nat) (hk : k < N) (hf : fl[k]? = some 0) (hlink : (Cond.fieldLink own index (T k).1 (T k).2.1 (T k).2.2.1).before args s = true) (hfin : (T k).2.2.2 = false) {x : Int32} (hn : narrow (ty0 k) (.int x) = .int x) (hfit : fits (ty0 k) (.int x) = true) (hdg : decode cc pc = .ok (.putfield index, 3))
    (kk : ∀ v1 : OV, v1 = si v k x → ∀ (H1 : Heap) (locs1 : List Loc), kn_I D tc A H0 (w.set i ((some (ci, fl), al), ad, v1)) H1 locs1 → W p l e R s m args below meth c H1 locs1 cells slots Q (F0 m (pc + 3) ls rest)) : W p l e R s m args below meth c H locs cells slots Q (F0 m pc ls (.int x :: .ref (ad 0) :: rest)) := by
  obtain ⟨hm, q0, hq⟩ := kn_cellO (tc := tc) hw
  refine va_put hexec hb hts hin ty0 hty hnm hown hK I.1 (kn_va_D I.2.1) I.2.2 q0 hq hc k hk hlink (fun _ h => h) hfin (hty k hk) hn hfit (kn_fs_lt hf) hdg (fun H1 locs1 hP1 _ hS1 => kk _ rfl H1 locs1 ⟨?_, I.2.1.set hw rfl, hS1⟩)
  refine kn_P_set I.2.1 hw hm hq (kn_key_f (v' := si v k x) (I.2.1.2 i _ hw).1 hf ?_ ?_ rfl rfl) hP1
  · show Value.int (if k = k then x else v.1 k) = .int x
    rw [if_pos rfl]
  · intro j d _ hj
    unfold kn_fv si
    dsimp only
    rw [if_neg hj]
theorem kn_up_ac {ad : Nat → Nat} {v : OV} {k a : Nat} {b : Nat × Nat × Nat} (hk : k < 900) : kn_ac (kn_up ad k a) v b = kn_ac ad v b := by
  unfold kn_ac
  have e : kn_q (kn_up ad k a) b.1 = kn_q ad b.1 := by
    funext i
    unfold kn_q
    have e2 : kn_up ad k a (1000 + 200 * i + b.1) = ad (1000 + 200 * i + b.1) := if_neg (by omega)
    rw [e2]
  rw [e]
theorem kn_up_ads {kd : KD} {ad : Nat → Nat} {v : OV} {k a : Nat} (hu : ∀ b ∈ kd.2, ¬ b.1 = k) : kn_ads (kd, kn_up ad k a, v) = kn_ads (kd, ad, v) := by
  unfold kn_ads
  dsimp only
  rw [kn_up_0]
  congr 1
  exact List.map_congr_left (fun b hb => kn_up_n (hu b hb))
theorem kw_putl (hexec : p.tables.exec = Jvm.exec) (hb : c.code = cc) (hts : ∀ w ∈ Ts, w.before args s = true) (hin : ∀ w ∈ u_ws C T N, w ∈ Ts) (ty0 : Nat → FieldType) (hty : ∀ k, k < N → parseFieldDescriptor (T k).2.2.1 = some (ty0 k)) (hnm : ∀ a, a < N → ∀ b, b < N → a ≠ b → (T a).2.1 ≠ (T b).2.1) (hown : s.vm.findClass own = some m.cls) (hK : va_K D vwCl (kn_tys tc) s) (I : kn_I D tc A H0 w H locs) (i : Nat) (hw : w[i]? = some ((some (ci, fl), al), ad, v)) (hc : vwCl[ci]? = some (C, T, N)) (k : Nat) (hk : k < N) (hf : fl[k]? = some 1) (hu : ∀ b ∈ al, ¬ b.1 = k) (hk9 : k < 900) (hlink : (Cond.fieldLink own index (T k).1 (T k).2.1 (T k).2.2.1).before args s = true) (hfin : (T k).2.2.2 = false) {a : Nat} (hn : narrow (ty0 k) (.ref a) = .ref a) (hfit : fits (ty0 k) (.ref a) = true) (hdg : decode cc pc = .ok (.putfield index, 3))
    (kk : ∀ (H1 : Heap) (locs1 : List Loc), kn_I D tc A H0 (w.set i ((some (ci, fl), al), kn_up ad k a, v)) H1 locs1 → W p l e R s m args below meth c H1 locs1 cells slots Q (F0 m (pc + 3) ls rest)) : W p l e R s m args below meth c H locs cells slots Q (F0 m pc ls (.ref a :: .ref (ad 0) :: rest)) := by
  obtain ⟨hm, q0, hq⟩ := kn_cellO (tc := tc) hw
  have he : kn_ads ((some (ci, fl), al), kn_up ad k a, v) = kn_ads ((some (ci, fl), al), ad, v) := kn_up_ads (kd := (some (ci, fl), al)) hu
  refine va_put hexec hb hts hin ty0 hty hnm hown hK I.1 (kn_va_D I.2.1) I.2.2 q0 hq hc k hk hlink (fun _ h => h) hfin (hty k hk) hn hfit (kn_fs_lt hf) hdg (fun H1 locs1 hP1 _ hS1 => kk H1 locs1 ⟨?_, I.2.1.set hw he, hS1⟩)
  refine kn_P_set I.2.1 hw hm hq (fun y hy => ?_) hP1
  have hnd := (I.2.1.2 i _ hw).1
  rcases List.mem_append.mp hy with h | h
  · left
    have h1 : y = kn_oc (kn_up ad k a) v (ci, fl) := List.mem_singleton.mp h
    rw [h1]
    unfold kn_oc
    rw [kn_up_0]
    refine congrArg (fun z => (ad 0, Sum.inr (ci, z))) ?_
    have e0 := kn_fs_set2 (ad := ad) (v := v) (a := a) fl 0 k hf
    rw [Nat.zero_add] at e0
    exact e0
  · right
    obtain ⟨b, hb2, rfl⟩ := List.mem_map.mp h
    have e1 : kn_up ad k a (b.1 + 1) = ad (b.1 + 1) := kn_up_n (hu b hb2)
    refine ⟨List.mem_append_right _ (List.mem_map.mpr ⟨b, hb2, ?_⟩), ?_⟩
    · show kn_ar tc ad v b = kn_ar tc (kn_up ad k a) v b
      unfold kn_ar
      rw [e1, kn_up_ac hk9]
    · show ¬ kn_up ad k a (b.1 + 1) = ad 0
      rw [e1]
      exact (kn_arr_obj hnd rfl hb2).symm
theorem kw_iald (hexec : p.tables.exec = Jvm.exec) (hb : c.code = cc) (hK : va_K D vwCl (kn_tys tc) s) (I : kn_I D tc A H0 w H locs) (i : Nat) (hw : w[i]? = some (kd, ad, v)) (k n : Nat) (hk : (k, 0, n) ∈ kd.2) {x : Int32} (hin : vp_in x n) (hdg : decode cc pc = .ok (.iaload, 1))
    (kk : W p l e R s m args below meth c H locs cells slots Q (F0 m (pc + 1) ls (.int (v.2.1 k x.toNatClampNeg) :: rest))) : W p l e R s m args below meth c H locs cells slots Q (F0 m pc ls (.int x :: .ref (ad (k + 1)) :: rest)) := by
  obtain ⟨-, q0, hq⟩ := kn_cellA (tc := tc) hw hk
  exact va_iald hexec hb hK I.1 q0 0 hq rfl hin hdg kk
theorem kw_bald (hexec : p.tables.exec = Jvm.exec) (hb : c.code = cc) (hK : va_K D vwCl (kn_tys tc) s) (I : kn_I D tc A H0 w H locs) (i : Nat) (hw : w[i]? = some (kd, ad, v)) (k n : Nat) (hk : (k, 1, n) ∈ kd.2) {x : Int32} (hin : vp_in x n) (hdg : decode cc pc = .ok (.baload, 1))
    (kk : W p l e R s m args below meth c H locs cells slots Q (F0 m (pc + 1) ls (.int (v.2.1 k x.toNatClampNeg) :: rest))) : W p l e R s m args below meth c H locs cells slots Q (F0 m pc ls (.int x :: .ref (ad (k + 1)) :: rest)) := by
  obtain ⟨-, q0, hq⟩ := kn_cellA (tc := tc) hw hk
  exact va_bald hexec hb hK I.1 q0 1 hq rfl hin hdg kk
theorem kw_zald (hexec : p.tables.exec = Jvm.exec) (hb : c.code = cc) (hK : va_K D vwCl (kn_tys tc) s) (I : kn_I D tc A H0 w H locs) (i : Nat) (hw : w[i]? = some (kd, ad, v)) (k n : Nat) (hk : (k, 2, n) ∈ kd.2) {x : Int32} (hin : vp_in x n) (hdg : decode cc pc = .ok (.baload, 1))
    (kk : W p l e R s m args below meth c H locs cells slots Q (F0 m (pc + 1) ls (.int (v.2.1 k x.toNatClampNeg) :: rest))) : W p l e R s m args below meth c H locs cells slots Q (F0 m pc ls (.int x :: .ref (ad (k + 1)) :: rest)) := by
  obtain ⟨-, q0, hq⟩ := kn_cellA (tc := tc) hw hk
  exact va_zald hexec hb hK I.1 q0 2 hq rfl hin hdg kk
theorem kw_lald (hexec : p.tables.exec = Jvm.exec) (hb : c.code = cc) (hK : va_K D vwCl (kn_tys tc) s) (I : kn_I D tc A H0 w H locs) (i : Nat) (hw : w[i]? = some (kd, ad, v)) (k n : Nat) (hk : (k, 3, n) ∈ kd.2) {x : Int32} (hin : vp_in x n) (hdg : decode cc pc = .ok (.laload, 1))
    (kk : W p l e R s m args below meth c H locs cells slots Q (F0 m (pc + 1) ls (.long (v.2.2 k x.toNatClampNeg) :: rest))) : W p l e R s m args below meth c H locs cells slots Q (F0 m pc ls (.int x :: .ref (ad (k + 1)) :: rest)) := by
  obtain ⟨-, q0, hq⟩ := kn_cellA (tc := tc) hw hk
  exact va_lald hexec hb hK I.1 q0 3 hq rfl hin hdg kk
theorem kw_qald (hexec : p.tables.exec = Jvm.exec) (hb : c.code = cc) (hK : va_K D vwCl (kn_tys tc) s) (I : kn_I D tc A H0 w H locs) (i : Nat) (hw : w[i]? = some (kd, ad, v)) (k t n : Nat) (hk : (k, t + 4, n) ∈ kd.2) {E : String} (ht : (kn_tys tc)[t + 4]? = some (tc (t + 4), .object E)) {x : Int32} (hin : vp_in x n) (hdg : decode cc pc = .ok (.aaload, 1)) {r : Option Nat} (hr : kn_q ad k x.toNatClampNeg = r)
    (kk : W p l e R s m args below meth c H locs cells slots Q (F0 m (pc + 1) ls (va_rf r :: rest))) : W p l e R s m args below meth c H locs cells slots Q (F0 m pc ls (.int x :: .ref (ad (k + 1)) :: rest)) := by
  subst hr
  obtain ⟨-, q0, hq⟩ := kn_cellA (tc := tc) hw hk
  exact va_aldq hexec hb hK I.1 q0 (t + 4) hq ht hin hdg kk
theorem kw_aldA {cl : List vw_C} {ws : va_W} {tys : List (ClassId × FieldType)} {a : Nat} (hexec : p.tables.exec = Jvm.exec) (hb : c.code = cc) (hK : va_K D cl tys s) (hP : va_P D cl ws H) (q0 t0 : Nat) {cA : ClassId} {n : Nat} {f : Nat → Option Nat} (ha : ws[q0]? = some (a, .inl (cA, n, .inr (.inr (.inr (.inr f)))))) (ht : tys[t0]? = some (cA, .array .int)) {i : Int32} (hin : vp_in i n) (hdg : decode cc pc = .ok (.aaload, 1))
    (kk : W p l e R s m args below meth c H locs cells slots Q (F0 m (pc + 1) ls (va_rf (f i.toNatClampNeg) :: rest))) : W p l e R s m args below meth c H locs cells slots Q (F0 m pc ls (.int i :: .ref a :: rest)) := by
  have hlt : i.toNatClampNeg < n := Nat.not_le.mp fun q => hin (Or.inr q)
  exact W.aald (v := va_rf (f i.toNatClampNeg)) (ty := .array .int) hexec hb (hP q0 _ ha) ((hK.2 t0 _ ht).1 n (fun j => va_rf (f j))) rfl (fun q => by cases q) (by show ¬ (i < 0 ∨ (arrV _ _ _).slots.size ≤ _); rw [arrV_size]; exact hin) (by show (arrV _ _ _).slots[_]? = _; rw [arrV_read _ _ hlt]) rfl rfl hdg kk
theorem kw_gald (hexec : p.tables.exec = Jvm.exec) (hb : c.code = cc) (hK : va_K D vwCl (kn_tys tc) s) (I : kn_I D tc A H0 w H locs) (i : Nat) (hw : w[i]? = some (kd, ad, v)) (k n : Nat) (hk : (k, 7, n) ∈ kd.2) {x : Int32} (hin : vp_in x n) (hdg : decode cc pc = .ok (.aaload, 1)) {r : Nat} (hr : kn_q ad k x.toNatClampNeg = some r)
    (kk : W p l e R s m args below meth c H locs cells slots Q (F0 m (pc + 1) ls (.ref r :: rest))) : W p l e R s m args below meth c H locs cells slots Q (F0 m pc ls (.int x :: .ref (ad (k + 1)) :: rest)) := by
  obtain ⟨-, q0, hq⟩ := kn_cellA (tc := tc) hw hk
  have hq2 : (kn_flat tc w)[q0]? = some (ad (k + 1), .inl (tc 7, n, .inr (.inr (.inr (.inr (kn_q ad k)))))) := hq
  refine kw_aldA hexec hb hK I.1 q0 7 hq2 rfl hin hdg ?_
  rw [hr]
  exact kk
theorem kw_iast (hexec : p.tables.exec = Jvm.exec) (hb : c.code = cc) (hK : va_K D vwCl (kn_tys tc) s) (I : kn_I D tc A H0 w H locs) (i : Nat) (hw : w[i]? = some (kd, ad, v)) (k n : Nat) (hk : (k, 0, n) ∈ kd.2) (hu : ∀ b ∈ kd.2, b.1 = k → b = (k, 0, n)) {x y : Int32} (hin : vp_in x n) (hdg : decode cc pc = .ok (.iastore, 1))
    (kk : ∀ v1 : OV, v1 = sa v k (upd (v.2.1 k) x.toNatClampNeg y) → ∀ (H1 : Heap) (locs1 : List Loc), kn_I D tc A H0 (w.set i (kd, ad, v1)) H1 locs1 → W p l e R s m args below meth c H1 locs1 cells slots Q (F0 m (pc + 1) ls rest)) : W p l e R s m args below meth c H locs cells slots Q (F0 m pc ls (.int y :: .int x :: .ref (ad (k + 1)) :: rest)) := by
  obtain ⟨hm, q0, hq⟩ := kn_cellA (tc := tc) hw hk
  refine va_iast hexec hb hK I.1 (kn_va_D I.2.1) I.2.2 q0 0 hq rfl hin hdg (fun H1 locs1 hP1 _ hS1 => kk _ rfl H1 locs1 ⟨?_, I.2.1.set hw rfl, hS1⟩)
  refine kn_P_set I.2.1 hw hm hq (fun z hz => ?_) hP1
  rcases kn_key_a (v := v) (v' := sa v k (upd (v.2.1 k) x.toNatClampNeg y)) (I.2.1.2 i _ hw).1 hk rfl (kn_ac_sa hu) z hz with h | h
  · left
    rw [h]
    unfold kn_ac sa
    dsimp only
    rw [if_pos rfl]
    first | rfl | done
  · exact Or.inr h
theorem kw_bast (hexec : p.tables.exec = Jvm.exec) (hb : c.code = cc) (hK : va_K D vwCl (kn_tys tc) s) (I : kn_I D tc A H0 w H locs) (i : Nat) (hw : w[i]? = some (kd, ad, v)) (k n : Nat) (hk : (k, 1, n) ∈ kd.2) (hu : ∀ b ∈ kd.2, b.1 = k → b = (k, 1, n)) {x y : Int32} (hin : vp_in x n) (hdg : decode cc pc = .ok (.bastore, 1))
    (kk : ∀ v1 : OV, v1 = sa v k (upd (v.2.1 k) x.toNatClampNeg (vp_nar .byte y)) → ∀ (H1 : Heap) (locs1 : List Loc), kn_I D tc A H0 (w.set i (kd, ad, v1)) H1 locs1 → W p l e R s m args below meth c H1 locs1 cells slots Q (F0 m (pc + 1) ls rest)) : W p l e R s m args below meth c H locs cells slots Q (F0 m pc ls (.int y :: .int x :: .ref (ad (k + 1)) :: rest)) := by
  obtain ⟨hm, q0, hq⟩ := kn_cellA (tc := tc) hw hk
  refine va_bast hexec hb hK I.1 (kn_va_D I.2.1) I.2.2 q0 1 hq rfl hin hdg (fun H1 locs1 hP1 _ hS1 => kk _ rfl H1 locs1 ⟨?_, I.2.1.set hw rfl, hS1⟩)
  refine kn_P_set I.2.1 hw hm hq (fun z hz => ?_) hP1
  rcases kn_key_a (v := v) (v' := sa v k (upd (v.2.1 k) x.toNatClampNeg (vp_nar .byte y))) (I.2.1.2 i _ hw).1 hk rfl (kn_ac_sa hu) z hz with h | h
  · left
    rw [h]
    unfold kn_ac sa
    dsimp only
    rw [if_pos rfl]
    first | rfl | done
  · exact Or.inr h
theorem kw_zast (hexec : p.tables.exec = Jvm.exec) (hb : c.code = cc) (hK : va_K D vwCl (kn_tys tc) s) (I : kn_I D tc A H0 w H locs) (i : Nat) (hw : w[i]? = some (kd, ad, v)) (k n : Nat) (hk : (k, 2, n) ∈ kd.2) (hu : ∀ b ∈ kd.2, b.1 = k → b = (k, 2, n)) {x y : Int32} (hin : vp_in x n) (hdg : decode cc pc = .ok (.bastore, 1))
    (kk : ∀ v1 : OV, v1 = sa v k (upd (v.2.1 k) x.toNatClampNeg (vp_nar .boolean y)) → ∀ (H1 : Heap) (locs1 : List Loc), kn_I D tc A H0 (w.set i (kd, ad, v1)) H1 locs1 → W p l e R s m args below meth c H1 locs1 cells slots Q (F0 m (pc + 1) ls rest)) : W p l e R s m args below meth c H locs cells slots Q (F0 m pc ls (.int y :: .int x :: .ref (ad (k + 1)) :: rest)) := by
  obtain ⟨hm, q0, hq⟩ := kn_cellA (tc := tc) hw hk
  refine va_zast hexec hb hK I.1 (kn_va_D I.2.1) I.2.2 q0 2 hq rfl hin hdg (fun H1 locs1 hP1 _ hS1 => kk _ rfl H1 locs1 ⟨?_, I.2.1.set hw rfl, hS1⟩)
  refine kn_P_set I.2.1 hw hm hq (fun z hz => ?_) hP1
  rcases kn_key_a (v := v) (v' := sa v k (upd (v.2.1 k) x.toNatClampNeg (vp_nar .boolean y))) (I.2.1.2 i _ hw).1 hk rfl (kn_ac_sa hu) z hz with h | h
  · left
    rw [h]
    unfold kn_ac sa
    dsimp only
    rw [if_pos rfl]
    first | rfl | done
  · exact Or.inr h
theorem kw_last (hexec : p.tables.exec = Jvm.exec) (hb : c.code = cc) (hK : va_K D vwCl (kn_tys tc) s) (I : kn_I D tc A H0 w H locs) (i : Nat) (hw : w[i]? = some (kd, ad, v)) (k n : Nat) (hk : (k, 3, n) ∈ kd.2) (hu : ∀ b ∈ kd.2, b.1 = k → b = (k, 3, n)) {x : Int32} {y : Int64} (hin : vp_in x n) (hdg : decode cc pc = .ok (.lastore, 1))
    (kk : ∀ v1 : OV, v1 = sl v k (vp_updL (v.2.2 k) x.toNatClampNeg y) → ∀ (H1 : Heap) (locs1 : List Loc), kn_I D tc A H0 (w.set i (kd, ad, v1)) H1 locs1 → W p l e R s m args below meth c H1 locs1 cells slots Q (F0 m (pc + 1) ls rest)) : W p l e R s m args below meth c H locs cells slots Q (F0 m pc ls (.long y :: .int x :: .ref (ad (k + 1)) :: rest)) := by
  obtain ⟨hm, q0, hq⟩ := kn_cellA (tc := tc) hw hk
  refine va_last hexec hb hK I.1 (kn_va_D I.2.1) I.2.2 q0 3 hq rfl hin hdg (fun H1 locs1 hP1 _ hS1 => kk _ rfl H1 locs1 ⟨?_, I.2.1.set hw rfl, hS1⟩)
  refine kn_P_set I.2.1 hw hm hq (fun z hz => ?_) hP1
  rcases kn_key_a (v := v) (v' := sl v k (vp_updL (v.2.2 k) x.toNatClampNeg y)) (I.2.1.2 i _ hw).1 hk rfl (kn_ac_sl hu) z hz with h | h
  · left
    rw [h]
    unfold kn_ac sl
    dsimp only
    rw [if_pos rfl]
    first | rfl | done
  · exact Or.inr h
theorem kw_alen (hexec : p.tables.exec = Jvm.exec) (hb : c.code = cc) (hK : va_K D vwCl (kn_tys tc) s) (I : kn_I D tc A H0 w H locs) (i : Nat) (hw : w[i]? = some (kd, ad, v)) (k t n : Nat) (hk : (k, t, n) ∈ kd.2) {ty : FieldType} (ht : (kn_tys tc)[t]? = some (tc t, ty)) {x : Int32} (hv : Int32.ofNat n = x) (hdg : decode cc pc = .ok (.arraylength, 1))
    (kk : W p l e R s m args below meth c H locs cells slots Q (F0 m (pc + 1) ls (.int x :: rest))) : W p l e R s m args below meth c H locs cells slots Q (F0 m pc ls (.ref (ad (k + 1)) :: rest)) := by
  obtain ⟨-, q0, hq⟩ := kn_cellA (tc := tc) hw hk
  exact va_alen hexec hb hK I.1 q0 t hq ht hv hdg kk
end KN
