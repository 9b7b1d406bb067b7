/-! 990: what holds at the law's entry: every class, array class and String constant -/
theorem zt1 {w : Cond} (h : w ∈ tables_1_1) : w ∈ lw_tbl := List.mem_append_right _ (List.mem_append_left _ h)
theorem zt2 {w : Cond} (h : w ∈ tables_1_2) : w ∈ lw_tbl := List.mem_append_right _ (List.mem_append_right _ (List.mem_append_left _ h))
theorem zt3 {w : Cond} (h : w ∈ tables_1_3) : w ∈ lw_tbl := List.mem_append_right _ (List.mem_append_right _ (List.mem_append_right _ (List.mem_append_left _ h)))
theorem zt4 {w : Cond} (h : w ∈ tables_1_4) : w ∈ lw_tbl := List.mem_append_right _ (List.mem_append_right _ (List.mem_append_right _ (List.mem_append_right _ (List.mem_append_left _ h))))
theorem zt5 {w : Cond} (h : w ∈ tables_1_5) : w ∈ lw_tbl := List.mem_append_right _ (List.mem_append_right _ (List.mem_append_right _ (List.mem_append_right _ (List.mem_append_right _ (List.mem_append_left _ h)))))
theorem zt6 {w : Cond} (h : w ∈ tables_1_6) : w ∈ lw_tbl := List.mem_append_right _ (List.mem_append_right _ (List.mem_append_right _ (List.mem_append_right _ (List.mem_append_right _ (List.mem_append_right _ (List.mem_append_left _ h))))))
theorem zt7 {w : Cond} (h : w ∈ tables_1_7) : w ∈ lw_tbl := List.mem_append_right _ (List.mem_append_right _ (List.mem_append_right _ (List.mem_append_right _ (List.mem_append_right _ (List.mem_append_right _ (List.mem_append_right _ (h)))))))
theorem zs0 : Cond.stringRef "TinWall$HillReader" 40 "hill stone tin thing seeker walker" ∈ lw_tbl := zt2 (List.mem_of_getElem? (i := 169) rfl)
theorem zs1 : Cond.stringRef "TinWall$RuleReader" 46 "if" ∈ lw_tbl := zt3 (List.mem_of_getElem? (i := 101) rfl)
theorem zs2 : Cond.stringRef "TinWall$RuleReader" 65 "look" ∈ lw_tbl := zt3 (List.mem_of_getElem? (i := 60) rfl)
theorem zs3 : Cond.stringRef "TinWall$RuleReader" 84 "and" ∈ lw_tbl := zt3 (List.mem_of_getElem? (i := 123) rfl)
theorem zs4 : Cond.stringRef "TinWall$RuleReader" 86 "or" ∈ lw_tbl := zt3 (List.mem_of_getElem? (i := 124) rfl)
theorem zs5 : Cond.stringRef "TinWall$RuleReader" 92 "not" ∈ lw_tbl := zt3 (List.mem_of_getElem? (i := 110) rfl)
theorem zs6 : Cond.stringRef "TinWall$RuleReader" 127 "seeker stone feet hard odds wear figure off minutes skill vain tried found day" ∈ lw_tbl := zt3 (List.mem_of_getElem? (i := 78) rfl)
theorem zs7 : Cond.stringRef "TinWallModel" 175 "seeker" ∈ lw_tbl := zt5 (List.mem_of_getElem? (i := 205) rfl)
theorem zs8 : Cond.stringRef "TinWallModel" 177 "stone" ∈ lw_tbl := zt5 (List.mem_of_getElem? (i := 203) rfl)
theorem zs9 : Cond.stringRef "TinWallModel" 179 "feet" ∈ lw_tbl := zt6 (List.mem_of_getElem? (i := 51) rfl)
theorem zs10 : Cond.stringRef "TinWallModel" 180 "hard" ∈ lw_tbl := zt6 (List.mem_of_getElem? (i := 52) rfl)
theorem zs11 : Cond.stringRef "TinWallModel" 181 "odds" ∈ lw_tbl := zt6 (List.mem_of_getElem? (i := 53) rfl)
theorem zs12 : Cond.stringRef "TinWallModel" 182 "wear" ∈ lw_tbl := zt6 (List.mem_of_getElem? (i := 54) rfl)
theorem zs13 : Cond.stringRef "TinWallModel" 183 "figure" ∈ lw_tbl := zt6 (List.mem_of_getElem? (i := 55) rfl)
theorem zs14 : Cond.stringRef "TinWallModel" 185 "off" ∈ lw_tbl := zt6 (List.mem_of_getElem? (i := 56) rfl)
theorem zs15 : Cond.stringRef "TinWallModel" 187 "minutes" ∈ lw_tbl := zt6 (List.mem_of_getElem? (i := 57) rfl)
theorem zs16 : Cond.stringRef "TinWallModel" 189 "skill" ∈ lw_tbl := zt6 (List.mem_of_getElem? (i := 58) rfl)
theorem zs17 : Cond.stringRef "TinWallModel" 190 "vain" ∈ lw_tbl := zt6 (List.mem_of_getElem? (i := 59) rfl)
theorem zs18 : Cond.stringRef "TinWallModel" 191 "tried" ∈ lw_tbl := zt6 (List.mem_of_getElem? (i := 60) rfl)
theorem zs19 : Cond.stringRef "TinWallModel" 192 "found" ∈ lw_tbl := zt6 (List.mem_of_getElem? (i := 61) rfl)
theorem zs20 : Cond.stringRef "TinWallModel" 194 "day" ∈ lw_tbl := zt6 (List.mem_of_getElem? (i := 62) rfl)
theorem zs21 : Cond.stringRef "TinWallModel" 276 "not" ∈ lw_tbl := zt6 (List.mem_of_getElem? (i := 76) rfl)
theorem zs22 : Cond.stringRef "TinWallModel" 290 "and" ∈ lw_tbl := zt6 (List.mem_of_getElem? (i := 93) rfl)
theorem zs23 : Cond.stringRef "TinWallModel" 292 "or" ∈ lw_tbl := zt6 (List.mem_of_getElem? (i := 94) rfl)
theorem zs24 : Cond.stringRef "TinWallModel" 294 "hill" ∈ lw_tbl := zt5 (List.mem_of_getElem? (i := 202) rfl)
theorem zs25 : Cond.stringRef "TinWallModel" 296 "thing" ∈ lw_tbl := zt5 (List.mem_of_getElem? (i := 204) rfl)
theorem zs26 : Cond.stringRef "TinWallModel" 298 "walker" ∈ lw_tbl := zt5 (List.mem_of_getElem? (i := 206) rfl)
theorem zs27 : Cond.stringRef "TinWallModel" 300 "tin" ∈ lw_tbl := zt5 (List.mem_of_getElem? (i := 207) rfl)
theorem zs28 : Cond.stringRef "TinWallModel" 341 "look" ∈ lw_tbl := zt6 (List.mem_of_getElem? (i := 27) rfl)
theorem zs29 : Cond.stringRef "TinWallModel" 343 "if" ∈ lw_tbl := zt6 (List.mem_of_getElem? (i := 63) rfl)
theorem zn0 : Cond.methodLinkNest "TinWall" 15 ⟨"TinWall$HillReader", "<init>", "()V"⟩ "TinWall" ∈ lw_tbl := zt1 (List.mem_of_getElem? (i := 28) rfl)
theorem zn1 : Cond.methodLinkNest "TinWall$HillReader" 11 ⟨"TinWall$Reader", "<init>", "()V"⟩ "TinWall" ∈ lw_tbl := zt1 (List.mem_of_getElem? (i := 34) rfl)
theorem zn2 : Cond.methodLinkNest "TinWall" 22 ⟨"TinWall$RuleReader", "<init>", "()V"⟩ "TinWall" ∈ lw_tbl := zt1 (List.mem_of_getElem? (i := 62) rfl)
theorem zn3 : Cond.methodLinkNest "TinWall$RuleReader" 11 ⟨"TinWall$Reader", "<init>", "()V"⟩ "TinWall" ∈ lw_tbl := zt1 (List.mem_of_getElem? (i := 67) rfl)
theorem zn4 : Cond.methodLinkNest "TinWall$RuleReader" 20 ⟨"TinWall$Rule", "<init>", "()V"⟩ "TinWall" ∈ lw_tbl := zt1 (List.mem_of_getElem? (i := 70) rfl)
theorem zn5 : Cond.methodLinkNest "TinWall$Scene" 11 ⟨"TinWall$Hill", "<init>", "()V"⟩ "TinWall" ∈ lw_tbl := zt1 (List.mem_of_getElem? (i := 114) rfl)
theorem zn6 : Cond.methodLinkNest "TinWall$Scene" 24 ⟨"TinWall$State", "<init>", "()V"⟩ "TinWall" ∈ lw_tbl := zt1 (List.mem_of_getElem? (i := 215) rfl)
theorem zn7 : Cond.methodLinkNest "TinWall" 46 ⟨"TinWall$Walk", "<init>", "()V"⟩ "TinWall" ∈ lw_tbl := zt2 (List.mem_of_getElem? (i := 69) rfl)
theorem zn8 : Cond.methodLinkNest "TinWall" 53 ⟨"TinWall$State", "<init>", "()V"⟩ "TinWall" ∈ lw_tbl := zt2 (List.mem_of_getElem? (i := 96) rfl)
theorem zn9 : Cond.methodLinkNest "TinWall" 76 ⟨"TinWall$Hill", "<init>", "()V"⟩ "TinWall" ∈ lw_tbl := zt2 (List.mem_of_getElem? (i := 153) rfl)
theorem zoState : Cond.arrayOver (.object "TinWall$State") ∈ lw_tbl := zt2 (List.mem_of_getElem? (i := 26) rfl)
theorem zoScene : Cond.arrayOver (.object "TinWall$Scene") ∈ lw_tbl := zt2 (List.mem_of_getElem? (i := 66) rfl)
theorem zoRule : Cond.arrayOver (.object "TinWall$Rule") ∈ lw_tbl := zt1 (List.mem_of_getElem? (i := 105) rfl)
theorem zoI : Cond.arrayOver (.array .int) ∈ lw_tbl := zt2 (List.mem_of_getElem? (i := 98) rfl)
theorem zlC : Cond.laysStatic "java/lang/String" "COMPACT_STRINGS" "Z" ∈ lw_tbl := zt2 (List.mem_of_getElem? (i := 191) rfl)
theorem zlS : Cond.laysStatic "jdk/internal/util/Preconditions" "SIOOBE_FORMATTER" "Ljava/util/function/BiFunction;" ∈ lw_tbl := zt2 (List.mem_of_getElem? (i := 207) rfl)
theorem z_str : ∀ (i : Nat) (q : String × Nat × String × List Int32), kn_str[i]? = some q → Cond.stringRef q.1 q.2.1 q.2.2.1 ∈ lw_tbl := by
  intro i q h
  have hi : i < 30 := (List.getElem?_eq_some_iff.mp h).1
  have cs : i = 0 ∨ i = 1 ∨ i = 2 ∨ i = 3 ∨ i = 4 ∨ i = 5 ∨ i = 6 ∨ i = 7 ∨ i = 8 ∨ i = 9 ∨ i = 10 ∨ i = 11 ∨ i = 12 ∨ i = 13 ∨ i = 14 ∨ i = 15 ∨ i = 16 ∨ i = 17 ∨ i = 18 ∨ i = 19 ∨ i = 20 ∨ i = 21 ∨ i = 22 ∨ i = 23 ∨ i = 24 ∨ i = 25 ∨ i = 26 ∨ i = 27 ∨ i = 28 ∨ i = 29 := by omega
  rcases cs with rfl | rfl | rfl | rfl | rfl | rfl | rfl | rfl | rfl | rfl | rfl | rfl | rfl | rfl | rfl | rfl | rfl | rfl | rfl | rfl | rfl | rfl | rfl | rfl | rfl | rfl | rfl | rfl | rfl | rfl
  · cases h
    exact zs0
  · cases h
    exact zs1
  · cases h
    exact zs2
  · cases h
    exact zs3
  · cases h
    exact zs4
  · cases h
    exact zs5
  · cases h
    exact zs6
  · cases h
    exact zs7
  · cases h
    exact zs8
  · cases h
    exact zs9
  · cases h
    exact zs10
  · cases h
    exact zs11
  · cases h
    exact zs12
  · cases h
    exact zs13
  · cases h
    exact zs14
  · cases h
    exact zs15
  · cases h
    exact zs16
  · cases h
    exact zs17
  · cases h
    exact zs18
  · cases h
    exact zs19
  · cases h
    exact zs20
  · cases h
    exact zs21
  · cases h
    exact zs22
  · cases h
    exact zs23
  · cases h
    exact zs24
  · cases h
    exact zs25
  · cases h
    exact zs26
  · cases h
    exact zs27
  · cases h
    exact zs28
  · cases h
    exact zs29
theorem z_nest : ∀ q : String × Nat × MethodName × String, q ∈ kn_nest → Cond.methodLinkNest q.1 q.2.1 q.2.2.1 q.2.2.2 ∈ lw_tbl := by
  intro q h
  obtain ⟨i, h⟩ := List.getElem?_of_mem h
  have hi : i < 10 := (List.getElem?_eq_some_iff.mp h).1
  have cs : i = 0 ∨ i = 1 ∨ i = 2 ∨ i = 3 ∨ i = 4 ∨ i = 5 ∨ i = 6 ∨ i = 7 ∨ i = 8 ∨ i = 9 := by omega
  rcases cs with rfl | rfl | rfl | rfl | rfl | rfl | rfl | rfl | rfl | rfl
  · cases h
    exact zn0
  · cases h
    exact zn1
  · cases h
    exact zn2
  · cases h
    exact zn3
  · cases h
    exact zn4
  · cases h
    exact zn5
  · cases h
    exact zn6
  · cases h
    exact zn7
  · cases h
    exact zn8
  · cases h
    exact zn9
theorem z_over : ∀ t : String, t ∈ kn_over → Cond.arrayOver (.object t) ∈ lw_tbl := by
  intro t h
  obtain ⟨i, h⟩ := List.getElem?_of_mem h
  have hi : i < 3 := (List.getElem?_eq_some_iff.mp h).1
  have cs : i = 0 ∨ i = 1 ∨ i = 2 := by omega
  rcases cs with rfl | rfl | rfl
  · cases h
    exact zoState
  · cases h
    exact zoScene
  · cases h
    exact zoRule
def zF : List Cond := flatC (Jvm.Cond.and given_1 narrow_1)
def z_off : List Nat := [39, 167, 77, 180, 187, 173, 85, 219, 201, 255, 263, 271, 279, 287, 297, 304, 315, 324, 332, 341, 350, 364, 372, 380, 193, 210, 229, 239, 246, 357]
def z_strC (q : String × Nat × String × List Int32) : List Cond := [Cond.exactly (.string q.1 q.2.1) "java/lang/String", Cond.eq (.field (.string q.1 q.2.1) "java/lang/String" "coder" "B") (.int 0), Cond.arrayOf (.field (.string q.1 q.2.1) "java/lang/String" "value" "[B") .byte, Cond.eq (.length (.field (.string q.1 q.2.1) "java/lang/String" "value" "[B")) (.int (Int32.ofNat q.2.2.2.length))] ++ (List.range q.2.2.2.length).map (fun j => Cond.eq (.elem (.field (.string q.1 q.2.1) "java/lang/String" "value" "[B") (.int (Int32.ofNat j))) (.int (q.2.2.2.getD j 0)))
theorem z_chk : ∀ i, i < 30 → ((zF.drop (z_off.getD i 0)).take (z_strC (kn_str.getD i ("", 0, "", []))).length = z_strC (kn_str.getD i ("", 0, "", []))) := by decide +kernel
theorem z_mem {i : Nat} {q : String × Nat × String × List Int32} (h : kn_str[i]? = some q) : ∀ c ∈ z_strC q, c ∈ zF := by
  have hi : i < 30 := (List.getElem?_eq_some_iff.mp h).1
  have e : kn_str.getD i ("", 0, "", []) = q := by rw [List.getD_eq_getElem?_getD, h]; rfl
  have k := z_chk i hi
  rw [e] at k
  intro c hc
  rw [← k] at hc
  exact List.mem_of_mem_drop (List.mem_of_mem_take hc)
theorem zC1 : (zF[4]? = some (Cond.eq (.static "java/lang/String" "COMPACT_STRINGS" "Z") (.int 1))) := by decide +kernel
theorem zC2 : (zF[5]? = some (Cond.isRef (.static "jdk/internal/util/Preconditions" "SIOOBE_FORMATTER" "Ljava/util/function/BiFunction;"))) := by decide +kernel

