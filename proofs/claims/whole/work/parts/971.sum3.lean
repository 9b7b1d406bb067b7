/-! 971: a sum, a sign -/
def SumO (B : Nat → Nat) (L p e k p' e' k' : Nat) (u u' : OV) : Prop := KP e u u' ∧ k + 1 ≤ k' ∧ k' ≤ 60 ∧ e' + 1 = e + 2 * (k' - k) ∧ sk B L p' = p' ∧ p ≤ p' ∧ ∀ τ, τ.length ≤ k → TyU (u'.2.1 0) e e' τ (false :: τ)
theorem cs_sum {t m0 q r u : OV} {B : Nat → Nat} {L s p e k : Nat} (tx : TX B L t m0) (hs : s < 6) (hk : k ≤ 60) (hb : e ≤ 2 * k + 162) (c : CS L 0 p e k q r u) {post : OV → OV → OV → Prop} (hq : ∀ F' p' e' k' q' r' u', CS L F' p' e' k' q' r' u' → (F' = 0 → SumO B L p e k p' e' k' u u') → TR m0 L s p e k (u.2.1 0) F' p' e' k' (u'.2.1 0) IR AR PX9_sum → post q' r' u') : PX4_readSum q r u t post := by
  unfold PX4_readSum
  refine ⟨62, cs_loop (a := 0) (μ := 0) (i := 0) tx hs (60 - k) k (by omega) p e q r u _ c (Nat.zero_le k) (by omega) (Or.inl rfl) (Or.inl rfl) (by rw [wt_0]; omega) (fun F' p' e' k' q' r' u' c' o' tr' => ?_)⟩
  refine hq F' p' e' k' q' r' u' c' (fun z => ?_) (fun m w pm hpm => ?_)
  · obtain ⟨g1, g2, g3, g4, g5, gp, g6⟩ := o' z
    rw [wt_0] at g4
    exact ⟨g1, g2, g3, by omega, g5, gp, fun τ hτ => g6 τ (by rw [wt_0]; omega)⟩
  · have := tr' 62 62 (fun pm m3 => ∃ n5, PX9_term_L8 (fun m4 => ∃ n3, PX9_sum_L4 pm n3 m4) n5 m3) (by omega) (by omega) ⟨fun pm m4 => ∃ n3, PX9_sum_L4 pm n3 m4, fun pm m4 h => ⟨62, h⟩, fun pm m3 h => ⟨62, h⟩⟩ m w pm hpm
    unfold RV at this
    rw [EN_z] at this
    unfold PX9_sum PX9_term
    exact this
theorem cs_sum_no {q r u t : OV} {L p : Nat} {F : Int32} (nz : ¬ F = 0) (h : RD r L p F) {post : OV → OV → OV → Prop} (hq : post q r u) : PX4_readSum q r u t post := by
  unfold PX4_readSum
  refine ⟨1, ?_⟩
  unfold PX4_readSum_L6
  exact br_f (by decide) (br_nf (by rw [h.2.2]; exact nz) hq)
