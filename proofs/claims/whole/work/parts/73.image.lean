/-! 73: images -/
def CEq (d c : OV) : Prop := (c.1 1 = d.1 1 ∧ c.1 2 = d.1 2 ∧ c.1 5 = d.1 5 ∧ c.1 6 = d.1 6 ∧ c.1 7 = d.1 7) ∧ ∀ k, k < 10 → c.2.1 8 k = d.2.1 8 k ∧ c.2.1 9 k = d.2.1 9 k
theorem Scn_cls {n : Nat} {d c h z s m : OV} {qq pp : Nat → OV} {S T Q K e : Nat} (ce : CEq d c) (se : SEq z s) (pe : ∀ i, i < 20 → SEq (qq i) (pp i)) (w : Scn n d h z qq m S T Q K e) : Scn n c h s pp m S T Q K e := by
  obtain ⟨hok, hv, hr, so, hd, sr, td, ⟨nn, n7, n10, n9, nk⟩, fc, dw, ⟨a, p, e6, e5, ha, hp, e57, old⟩⟩ := w
  obtain ⟨⟨c1, c2, c5, c6, c7⟩, c8⟩ := ce
  have lim := hok.1
  refine ⟨hok, hv, hr, Sok_eq lim.1 se so, hd, SRel_eq lim.1 lim.2.1 lim.2.2.1 se sr, td, ⟨nn, c7.trans n7, n10, n9, fun k hk => ?_⟩, ?_, ?_, ⟨a, p, c6.trans e6, c5.trans e5, ha, hp, e57, fun i hi => ?_⟩⟩
  · rw [(c8 k (by omega)).1, (c8 k (by omega)).2]
    exact nk k hk
  · unfold Fce at fc ⊢
    rw [c1]
    exact fc
  · unfold Drw at dw ⊢
    rw [c2]
    exact dw
  · have q := pe ((p + 20 - a + i) % 20) (Nat.mod_lt _ (by omega))
    obtain ⟨r, e', he, o⟩ := old i hi
    exact ⟨Row_eq lim.1 lim.2.1 lim.2.2.1 q r, e', he, Sok_eq lim.1 q o⟩
theorem cp_scene {c s d z : OV} {pp qq : Nat → OV} {post : OV → OV → (Nat → OV) → Prop} (hp : ∀ c' s' pp', CEq d c' → SEq z s' → (∀ i, i < 20 → SEq (qq i) (pp' i)) → post c' s' pp') : PX5_copy c s d z pp qq post := by
  unfold PX5_copy
  rintro _ rfl _ rfl _ rfl _ rfl
  refine cp_copy (fun s' es => ?_)
  refine fr_rel (fun n i pp' => PX5_copy_L37 d z qq post n (nI i) (si (si c 1 (d.1 1)) 2 (d.1 2)) s' pp') (fun i pp' => ∀ j, j < i → SEq (qq j) (pp' j)) 20 pp (fun j hj => absurd hj (Nat.not_lt_zero j)) ?_ ?_
  · intro n pp' h
    unfold PX5_copy_L37
    refine br_t (Int32.le_refl _) ?_
    rintro _ rfl _ rfl _ rfl _ rfl _ rfl _ rfl _ rfl _ rfl
    exact hp _ _ _ ⟨⟨rfl, rfl, rfl, rfl, rfl⟩, fun k hk => ⟨cpy_at _ _ hk, cpy_at _ _ hk⟩⟩ es h
  · intro n i pp' hi h next
    unfold PX5_copy_L37
    rw [nI_31 (show i < 1000 by omega)]
    refine br_f (fr_nle (b := 20) hi (by omega)) ⟨vp_in_q hi (by omega), hi, vp_in_q hi (by omega), hi, cp_copy (fun y ey => ?_)⟩
    rintro _ rfl
    rw [nI_1]
    refine next _ (fun j hj => ?_)
    unfold va_up
    by_cases e : j = i
    · rw [if_pos e, e]
      exact ey
    · rw [if_neg e]
      exact h j (by omega)
theorem mp_image {m : OV} {k : Nat} (hk : k < 4) {post : Int32 → OV → Prop} (hp : ∀ m', Fr [65, 66] [63, 64, 56] [] [] m m' → AG m (vwM m' k) → (∀ j, j < 4 → m'.2.1 64 j = if j = k then 1 else m.2.1 64 j) → (∀ j, j < 4 → j ≠ k → ∀ i, i < 827 → m'.2.1 63 (950 * j + i) = m.2.1 63 (950 * j + i)) → post (m.2.1 1 8) m') : PX9_image m (nI k) post := by
  unfold PX9_image
  refine mp_inC 4 (by omega) (by decide) ?_
  rw [zb_t ⟨k, hk, rfl⟩, nI_31 (show k < 1000 by omega)]
  refine br_nf (by decide) ⟨vp_in_q hk (by omega), ?_⟩
  rintro _ rfl
  have ev : vp_nar .boolean (1 : Int32) = 1 := by decide
  rw [ev]
  have f0 : Fr [65, 66] [63, 64, 56] [] [] m (sa m 64 (upd (m.2.1 64) k 1)) := Fr_sa (by decide) (by decide) Fr_refl
  refine mp_imageF hk (fun m2 f2 c2 o2 => ?_)
  have f : Fr [65, 66] [63, 64, 56] [] [] m m2 := Fr_trans f0 (Fr_mono f2 (by decide) (by decide) (by decide) (by decide))
  rw [show m2.2.1 1 ((8 : Int32)).toNatClampNeg = m.2.1 1 8 from f.2.2.1 8 (by decide)]
  refine hp m2 f (AG_trans (AG_fr f0 (by decide) (by decide) rfl) (AG_to c2)) (fun j hj => ?_) (fun j hj ne i hi => ?_)
  · rw [f2.2.1 64 (by decide) (by decide), sa_at]
    rfl
  · rw [o2 _ (by omega)]
    rfl
theorem mp_image_no {m : OV} {x : Int32} (hk : ¬ isIx x 4) {post : Int32 → OV → Prop} (hp : post (-1) m) : PX9_image m x post := by
  unfold PX9_image
  refine mp_inC 4 (by omega) (by decide) ?_
  rw [zb_f hk]
  exact br_nt rfl hp
/-- the k-th image is taken: into a new scene or into the one that was there -/
theorem sim_image {n : Nat} {t c h s m d0 z0 : OV} {pp pr qq0 : Nat → OV} {im : Nat → Option IMG} {k : Nat} (hk : k < 4) (sim : Sim t c h s pp pr n im m) : PX5_copy d0 z0 c s qq0 pp (fun d z qq => PX9_image m (nI k) (fun r' m' => s.1 0 = r' ∧ Sim t c h s pp pr n (fun j => if j = k then some (d, h, z, qq) else im j) m')) := by
  obtain ⟨⟨S, T, Q, K, e, w⟩, tap, rl, mi, ims⟩ := sim
  refine cp_scene (fun d z qq ce se pe => mp_image hk (fun m' f ag i64 i63 => ⟨?_, ?_⟩))
  · exact w.2.2.2.2.2.1.1.2.2.symm
  · have agm : AG m m' := AG_fr f (by decide) (by decide) rfl
    refine ⟨⟨S, T, Q, K, e, Scn_ag agm w⟩, ?_, ?_, ⟨(f.1 39 (by decide)).trans mi.1, (f.1 50 (by decide)).trans mi.2⟩, ?_⟩
    · obtain ⟨L, a, b, c', dd⟩ := tap
      exact ⟨L, a, b, (f.1 30 (by decide)).trans c', fun i hi => by rw [f.2.1 40 (by decide) (by decide)]; exact dd i hi⟩
    · obtain ⟨a, b, c', dd⟩ := rl
      exact ⟨a, b, (f.1 34 (by decide)).trans c', fun r hr => ⟨(dd r hr).1, RuleRel_fr f (by decide) (dd r hr).2⟩⟩
    · intro j hj
      by_cases q : j = k
      · subst q
        refine Or.inr ⟨(d, h, z, qq), if_pos rfl, by rw [i64 j hj, if_pos rfl], S, T, Q, K, e, ?_⟩
        exact Scn_cls ce se pe (Scn_ag ag w)
      · rw [i64 j hj, if_neg q]
        show ((if j = k then some (d, h, z, qq) else im j) = none ∧ _) ∨ _
        rw [if_neg q]
        rcases ims j hj with ⟨a, b⟩ | ⟨x, a, b, S, T, Q, K, dd, w'⟩
        · exact Or.inl ⟨a, b⟩
        · exact Or.inr ⟨x, (if_neg q).trans a, b, S, T, Q, K, dd, Scn_ag (vwM_ag2 (i63 j hj q)) w'⟩
theorem sim_image_bad {n : Nat} {t c h s m : OV} {pp pr : Nat → OV} {im : Nat → Option IMG} {x : Int32} (hk : ¬ isIx x 4) (sim : Sim t c h s pp pr n im m) : PX9_image m x (fun r' m' => (-1 : Int32) = r' ∧ Sim t c h s pp pr n im m') := mp_image_no hk ⟨rfl, sim⟩
theorem sim_back {n : Nat} {t c h s m : OV} {pp pr : Nat → OV} {im : Nat → Option IMG} {k : Nat} (hk : k < 4) {d h' z : OV} {qq : Nat → OV} (e : im k = some (d, h', z, qq)) (sim : Sim t c h s pp pr n im m) : PX8_back c s d z pp qq (fun r c' s' pp' => PX9_back m (nI k) (fun r' m' => r = r' ∧ Sim t c' h' s' pp' pr n im m')) := by
  obtain ⟨_, tap, rl, mi, ims⟩ := sim
  unfold PX8_back
  refine cp_scene (fun c' s' pp' ce se pe => ?_)
  have ims0 := ims
  rcases ims k hk with ⟨a, b⟩ | ⟨x, a, b, S, T, Q, K, dd, w⟩
  · rw [e] at a
    cases a
  · rw [e] at a
    cases a
    unfold PX9_back
    refine mp_inC 4 (by omega) (by decide) ?_
    rw [zb_t ⟨k, hk, rfl⟩, nI_31 (show k < 1000 by omega)]
    refine br_f (by decide) ⟨vp_in_q hk (by omega), br_nf (by rw [b]; decide) ?_⟩
    refine mp_imageB hk (fun m2 f2 l2 e57 => ?_)
    have w2 := Scn_cls ce se pe (Scn_ag (AG_from l2 e57) w)
    have f3 : Fr [65, 66, 57] [5, 6, 9, 11, 12, 13, 56, 2, 3, 4, 7, 8, 10, 14, 15, 16, 17, 18, 19, 55] BC [] m m2 := ⟨f2.1, fun j hj n => f2.2.1 j (fun y => by
      rcases List.mem_cons.mp y with z | z
      · exact n z
      · exact hj z) n, f2.2.2⟩
    have hl := Hld_fr f3 (by decide) (by decide) (by decide)
    refine ⟨w2.2.2.2.2.2.1.1.2.2.symm, ⟨S, T, Q, K, dd, w2⟩, Tap_hld hl tap, Rls_hld hl rl, ⟨hl.1.2.2.1.trans mi.1, hl.1.2.2.2.trans mi.2⟩, Ims_hld hl ims0⟩
theorem sim_back_bad {n : Nat} {t c h s m : OV} {pp pr : Nat → OV} {im : Nat → Option IMG} {x : Int32} (hk : ¬ isIx x 4) (sim : Sim t c h s pp pr n im m) : PX9_back m x (fun r' m' => (-1 : Int32) = r' ∧ Sim t c h s pp pr n im m') := by
  unfold PX9_back
  refine mp_inC 4 (by omega) (by decide) ?_
  rw [zb_f hk]
  exact br_t rfl ⟨rfl, sim⟩
theorem sim_back_none {n : Nat} {t c h s m : OV} {pp pr : Nat → OV} {im : Nat → Option IMG} {k : Nat} (hk : k < 4) (e : im k = none) (sim : Sim t c h s pp pr n im m) : PX9_back m (nI k) (fun r' m' => (-1 : Int32) = r' ∧ Sim t c h s pp pr n im m') := by
  have sim0 := sim
  obtain ⟨_, tap, rl, mi, ims⟩ := sim
  rcases ims k hk with ⟨a, b⟩ | ⟨x, a, b, _⟩
  · unfold PX9_back
    refine mp_inC 4 (by omega) (by decide) ?_
    rw [zb_t ⟨k, hk, rfl⟩, nI_31 (show k < 1000 by omega)]
    exact br_f (by decide) ⟨vp_in_q hk (by omega), br_nt b ⟨rfl, sim0⟩⟩
  · rw [e] at a
    cases a
