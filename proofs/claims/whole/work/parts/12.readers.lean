section
variable {c f : Int32} {O F G S V SB VB A B C oS oV : Nat → Int32}
theorem zs_yc (post : Int32 → SY → Prop) : ∀ (d j : Nat) (m : Int32), j + d = 16 → post (pm_cm S d j m) (f, O, A, B, C, S, V, oS, oV) → wY_circular_8 post f O A B C S V oS oV (d + 1) m (nI j) := by
  intro d
  induction d with
  | zero => intro j m hj hp; exact br_t (sb_g16 (by omega) (by omega)) hp
  | succ d ih =>
    intro j m hj hp
    have hin : vp_in (nI j) 16 := vp_in_nI (by omega) (by decide)
    have ec : (nI j).toNatClampNeg = j := nI_clamp (by omega)
    unfold pm_cm at hp
    by_cases z : S j = 3
    · rw [if_pos z] at hp
      exact br_f (sb_n16 (by omega)) ⟨hin, br_t (by rw [ec]; exact z) (nm_e (nm_r (nI_1 j) (ih (j + 1) _ (by omega) hp)))⟩
    · rw [if_neg z] at hp
      exact br_f (sb_n16 (by omega)) ⟨hin, br_f (by rw [ec]; exact z) (nm_r (nI_1 j) (ih (j + 1) _ (by omega) hp))⟩
theorem zs_xt (post : Int32 → Prop) (x : Int32) : ∀ (d j : Nat) (m : Int32), j + d = 16 → post (pm_ct S x d j m) → wX_count_4 post x c O F G S V SB VB (d + 1) m (nI j) := by
  intro d
  induction d with
  | zero => intro j m hj hp; exact br_t (sb_g16 (by omega) (by omega)) hp
  | succ d ih =>
    intro j m hj hp
    have hin : vp_in (nI j) 16 := vp_in_nI (by omega) (by decide)
    have ec : (nI j).toNatClampNeg = j := nI_clamp (by omega)
    unfold pm_ct at hp
    by_cases z : S j = x
    · rw [if_pos z] at hp
      exact br_f (sb_n16 (by omega)) ⟨hin, br_t (by rw [ec]; exact z) (nm_e (nm_r (nI_1 j) (ih (j + 1) _ (by omega) hp)))⟩
    · rw [if_neg z] at hp
      exact br_f (sb_n16 (by omega)) ⟨hin, br_f (by rw [ec]; exact z) (nm_r (nI_1 j) (ih (j + 1) _ (by omega) hp))⟩
theorem zs_yt (post : Int32 → SY → Prop) (x : Int32) : ∀ (d j : Nat) (m : Int32), j + d = 16 → post (pm_ct S x d j m) (f, O, A, B, C, S, V, oS, oV) → wY_count_8 post x f O A B C S V oS oV (d + 1) m (nI j) := by
  intro d
  induction d with
  | zero => intro j m hj hp; exact br_t (sb_g16 (by omega) (by omega)) hp
  | succ d ih =>
    intro j m hj hp
    have hin : vp_in (nI j) 16 := vp_in_nI (by omega) (by decide)
    have ec : (nI j).toNatClampNeg = j := nI_clamp (by omega)
    unfold pm_ct at hp
    by_cases z : S j = x
    · rw [if_pos z] at hp
      exact br_f (sb_n16 (by omega)) ⟨hin, br_t (by rw [ec]; exact z) (nm_e (nm_r (nI_1 j) (ih (j + 1) _ (by omega) hp)))⟩
    · rw [if_neg z] at hp
      exact br_f (sb_n16 (by omega)) ⟨hin, br_f (by rw [ec]; exact z) (nm_r (nI_1 j) (ih (j + 1) _ (by omega) hp))⟩
theorem zs_xr (post : Int32 → Prop) (J : Int32 → Int32 → Prop) (x x3 : Int32) (hw : ∀ i, i < 16 → pm_wf O F G i) : ∀ (d j : Nat) (m : Int32), j + d = 16 → J (pm_rr O F G S V x d j m) (x3 + 1) → wX_reached_22 post J x x3 c O F G S V SB VB (d + 1) m (nI j) := by
  intro d
  induction d with
  | zero => intro j m hj hp; exact br_t (sb_g16 (by omega) (by omega)) (nm_e hp)
  | succ d ih =>
    intro j m hj hp
    have hin : vp_in (nI j) 16 := vp_in_nI (by omega) (by decide)
    have ec : (nI j).toNatClampNeg = j := nI_clamp (by omega)
    unfold pm_rr at hp
    refine br_f (sb_n16 (by omega)) (xa_nd hin (by rw [ec]; exact hw j (by omega)) (br_c (fun z => ?_) (fun z => ?_)))
    · rw [ec] at z
      rw [if_pos z] at hp
      exact nm_r (nI_1 j) (ih (j + 1) _ (by omega) hp)
    · rw [ec] at z
      rw [if_neg z] at hp
      exact nm_e (nm_r (nI_1 j) (ih (j + 1) _ (by omega) hp))
theorem zs_xrc (post : Int32 → Prop) (x : Int32) (hw : ∀ i, i < 16 → pm_wf O F G i) : ∀ (d j : Nat) (m : Int32), j + d = 16 → post (pm_rc O F G S V x d m) → wX_reached_13 post x c O F G S V SB VB (d + 1) m (nI j) := by
  intro d
  induction d with
  | zero => intro j m hj hp; exact br_t (sb_g16 (by omega) (by omega)) hp
  | succ d ih =>
    intro j m hj hp
    refine br_f (sb_n16 (by omega)) ⟨17, zs_xr post _ x (nI j) hw 16 0 m rfl ?_⟩
    rw [nI_1]
    have er : pm_rc O F G S V x (d + 1) m = pm_rc O F G S V x d (pm_rr O F G S V x 16 0 m) := rfl
    rw [er] at hp
    generalize pm_rr O F G S V x 16 0 m = y at hp ⊢
    exact ih (j + 1) y (by omega) hp
theorem zs_yr (post : Int32 → SY → Prop) (J : Int32 → Int32 → Prop) (x x3 : Int32) (hw : ∀ i, i < 16 → pm_wf O A B i) : ∀ (d j : Nat) (m : Int32), j + d = 16 → J (pm_rr O A B S V x d j m) (x3 + 1) → wY_reached_27 post J x x3 f O A B C S V oS oV (d + 1) m (nI j) := by
  intro d
  induction d with
  | zero => intro j m hj hp; exact br_t (sb_g16 (by omega) (by omega)) (nm_e hp)
  | succ d ih =>
    intro j m hj hp
    have hin : vp_in (nI j) 16 := vp_in_nI (by omega) (by decide)
    have ec : (nI j).toNatClampNeg = j := nI_clamp (by omega)
    unfold pm_rr at hp
    refine br_f (sb_n16 (by omega)) (ya_nd hin (by rw [ec]; exact hw j (by omega)) (br_c (fun z => ?_) (fun z => ?_)))
    · rw [ec] at z
      rw [if_pos z] at hp
      exact nm_r (nI_1 j) (ih (j + 1) _ (by omega) hp)
    · rw [ec] at z
      rw [if_neg z] at hp
      exact nm_e (nm_r (nI_1 j) (ih (j + 1) _ (by omega) hp))
theorem zs_yrc (post : Int32 → SY → Prop) (x : Int32) (hw : ∀ i, i < 16 → pm_wf O A B i) : ∀ (d j : Nat) (m : Int32), j + d = 16 → post (pm_rc O A B S V x d m) (f, O, A, B, C, S, V, oS, oV) → wY_reached_18 post x f O A B C S V oS oV (d + 1) m (nI j) := by
  intro d
  induction d with
  | zero => intro j m hj hp; exact br_t (sb_g16 (by omega) (by omega)) hp
  | succ d ih =>
    intro j m hj hp
    refine br_f (sb_n16 (by omega)) ⟨17, zs_yr post _ x (nI j) hw 16 0 m rfl ?_⟩
    rw [nI_1]
    have er : pm_rc O A B S V x (d + 1) m = pm_rc O A B S V x d (pm_rr O A B S V x 16 0 m) := rfl
    rw [er] at hp
    generalize pm_rr O A B S V x 16 0 m = y at hp ⊢
    exact ih (j + 1) y (by omega) hp
theorem zs_rr (x : Int32) (hc : ∀ i, i < 16 → pm_cl O F G A B C i) : ∀ (d j : Nat) (m : Int32), j + d = 16 → pm_rr O A B S V x d j m = pm_rr O F G S V x d j m := by
  intro d
  induction d with
  | zero => intro j m _; rfl
  | succ d ih =>
    intro j m hj
    unfold pm_rr
    rw [zr_nd (hc j (by omega)), ih (j + 1) _ (by omega)]
theorem zs_rc (x : Int32) (hc : ∀ i, i < 16 → pm_cl O F G A B C i) : ∀ (d : Nat) (m : Int32), pm_rc O A B S V x d m = pm_rc O F G S V x d m := by
  intro d
  induction d with
  | zero => intro m; rfl
  | succ d ih =>
    intro m
    unfold pm_rc
    rw [zs_rr x hc 16 0 m rfl]
    exact ih _
end
theorem i_vc_operation {k : Nat} {u : SX} {v : SY} (I : i_Rel k u v) (hk : k + 5 ≤ 2560) (v1 : Int32) : wpX_operation (fun r => wpY_operation (fun r' => r' = r ∧ i_Rel (k + 5) u v) v v1) u v1 := by
  have I2 := i_up I
  obtain ⟨c, O, F, G, SB, VB, A, B, C, S, V, oS, oV, rfl, rfl, hw, hc, hS, hV⟩ := I
  unfold wpX_operation wpY_operation; dsimp only
  by_cases hi : vp_in v1 16
  · exact ic_xy hi (br_f (by decide) ⟨hi, ic_yy hi (br_f (by decide) ⟨hi, rfl, I2⟩)⟩)
  · exact ic_xn hi (br_t rfl (ic_yn hi (br_t rfl ⟨rfl, I2⟩)))
theorem i_vc_operand {k : Nat} {u : SX} {v : SY} (I : i_Rel k u v) (hk : k + 5 ≤ 2560) (v1 : Int32) (v2 : Int32) : wpX_operand (fun r => wpY_operand (fun r' => r' = r ∧ i_Rel (k + 5) u v) v v1 v2) u v1 v2 := by
  have I2 := i_up I
  obtain ⟨c, O, F, G, SB, VB, A, B, C, S, V, oS, oV, rfl, rfl, hw, hc, hS, hV⟩ := I
  unfold wpX_operand wpY_operand; dsimp only
  by_cases hi : vp_in v1 16
  · have hlt := sn_lt hi
    refine ic_xy hi (br_f (by decide) ⟨hi, ?_⟩)
    rcases hc _ hlt with ⟨ho, _⟩ | ⟨ho, ea, eb, _, _⟩
    · exact br_t ho (ic_yy hi (br_f (by decide) ⟨hi, br_t (by rw [ho]; decide) ⟨rfl, I2⟩⟩))
    · have h0 : ¬ O v1.toNatClampNeg < 0 := by
        rcases hw _ hlt with h | h | ⟨hF, h | h | ⟨hG, h | h | h | h | h | h⟩⟩
        · exact absurd h ho
        all_goals rw [h]; decide
      refine br_f ho (br_c (fun h => ⟨hi, ?_⟩) (fun h => br_c (fun h1 => ⟨hi, ?_⟩) (fun h1 => ?_)))
      · exact ic_yy hi (br_f (by decide) ⟨hi, br_f h0 (br_t h (br_t h ⟨hi, ea, I2⟩))⟩)
      · exact ic_yy hi (br_f (by decide) ⟨hi, br_f h0 (br_f h (br_t h1 (br_f h ⟨hi, eb, I2⟩)))⟩)
      · exact ic_yy hi (br_f (by decide) ⟨hi, br_f h0 (br_f h (br_f h1 ⟨rfl, I2⟩))⟩)
  · exact ic_xn hi (br_t rfl (ic_yn hi (br_t rfl ⟨rfl, I2⟩)))
theorem i_vc_state {k : Nat} {u : SX} {v : SY} (I : i_Rel k u v) (hk : k + 5 ≤ 2560) (v1 : Int32) : wpX_state (fun r => wpY_state (fun r' v' => r' = r ∧ i_Rel (k + 5) u v') v v1) u v1 := by
  obtain ⟨c, O, F, G, SB, VB, A, B, C, S, V, oS, oV, rfl, rfl, hw, hc, hS, hV⟩ := I
  have hR := zr_set (k + 5) c SB VB oS oV hw hc
  have hwY : ∀ i, i < 16 → pm_wf O A B i := fun i hi => zr_wf (hw i hi) (hc i hi)
  have hA := zr_all hw hc
  unfold wpX_state wpY_state; dsimp only
  generalize pm_all O F G = s at hR hA ⊢
  by_cases hi : vp_in v1 16
  · refine ic_xy hi (br_f (by decide) ⟨hi, yc_settle hwY hS hV ?_⟩)
    rw [hA]
    exact ic_yy hi (br_f (by decide) ⟨hi, rfl, hR⟩)
  · refine ic_xn hi (br_t rfl (yc_settle hwY hS hV ?_))
    rw [hA]
    exact ic_yn hi (br_t rfl ⟨rfl, hR⟩)
theorem i_vc_value {k : Nat} {u : SX} {v : SY} (I : i_Rel k u v) (hk : k + 5 ≤ 2560) (v1 : Int32) : wpX_value (fun r => wpY_value (fun r' v' => r' = r ∧ i_Rel (k + 5) u v') v v1) u v1 := by
  obtain ⟨c, O, F, G, SB, VB, A, B, C, S, V, oS, oV, rfl, rfl, hw, hc, hS, hV⟩ := I
  have hR := zr_set (k + 5) c SB VB oS oV hw hc
  have hwY : ∀ i, i < 16 → pm_wf O A B i := fun i hi => zr_wf (hw i hi) (hc i hi)
  have hA := zr_all hw hc
  have hiv := sv_all hw
  unfold wpX_value wpY_value; dsimp only
  generalize pm_all O F G = s at hR hA hiv ⊢
  by_cases hi : vp_in v1 16
  · refine ic_xy hi (br_f (by decide) ⟨hi, yc_settle hwY hS hV ?_⟩)
    rw [hA]
    refine ic_yy hi (br_f (by decide) ⟨hi, br_c (fun hz => ⟨hi, rfl, hR⟩) (fun hz => ⟨?_, hR⟩)⟩)
    exact (hiv.1 _ (sn_lt hi) hz).symm
  · refine ic_xn hi (br_t rfl (yc_settle hwY hS hV ?_))
    rw [hA]
    exact ic_yn hi (br_t rfl ⟨rfl, hR⟩)
theorem i_vc_circular {k : Nat} {u : SX} {v : SY} (I : i_Rel k u v) (hk : k + 5 ≤ 2560) : wpX_circular (fun r => wpY_circular (fun r' v' => r' = r ∧ i_Rel (k + 5) u v') v) u := by
  obtain ⟨c, O, F, G, SB, VB, A, B, C, S, V, oS, oV, rfl, rfl, hw, hc, hS, hV⟩ := I
  have hR := zr_set (k + 5) c SB VB oS oV hw hc
  have hwY : ∀ i, i < 16 → pm_wf O A B i := fun i hi => zr_wf (hw i hi) (hc i hi)
  have hA := zr_all hw hc
  generalize pm_all O F G = s at hR hA ⊢
  refine xa_circ ?_
  unfold wpY_circular; dsimp only
  refine yc_settle hwY hS hV ?_
  rw [hA]
  exact ⟨17, zs_yc _ 16 0 0 rfl ⟨rfl, hR⟩⟩
theorem i_vc_needs {k : Nat} {u : SX} {v : SY} (I : i_Rel k u v) (hk : k + 5 ≤ 2560) (v1 : Int32) : wpX_needs (fun r => wpY_needs (fun r' v' => r' = r ∧ i_Rel (k + 5) u v') v v1) u v1 := by
  obtain ⟨c, O, F, G, SB, VB, A, B, C, S, V, oS, oV, rfl, rfl, hw, hc, hS, hV⟩ := I
  have hR := zr_set (k + 5) c SB VB oS oV hw hc
  have hwY : ∀ i, i < 16 → pm_wf O A B i := fun i hi => zr_wf (hw i hi) (hc i hi)
  have hA := zr_all hw hc
  unfold wpX_needs wpY_needs; dsimp only
  generalize pm_all O F G = s at hR hA ⊢
  by_cases hi : vp_in v1 16
  · have hlt := sn_lt hi
    refine ic_xy hi (br_f (by decide) (xa_nd hi (hw _ hlt) (yc_settle hwY hS hV ?_)))
    rw [hA]
    exact ic_yy hi (br_f (by decide) (ya_nd hi (hwY _ hlt) ⟨zr_nd (hc _ hlt), hR⟩))
  · refine ic_xn hi (br_t rfl (yc_settle hwY hS hV ?_))
    rw [hA]
    exact ic_yn hi (br_t rfl ⟨rfl, hR⟩)
theorem i_vc_reached {k : Nat} {u : SX} {v : SY} (I : i_Rel k u v) (hk : k + 5 ≤ 2560) (v1 : Int32) : wpX_reached (fun r => wpY_reached (fun r' v' => r' = r ∧ i_Rel (k + 5) u v') v v1) u v1 := by
  have I2 := i_up I
  obtain ⟨c, O, F, G, SB, VB, A, B, C, S, V, oS, oV, rfl, rfl, hw, hc, hS, hV⟩ := I
  have hR := zr_set (k + 5) c SB VB oS oV hw hc
  have hwY : ∀ i, i < 16 → pm_wf O A B i := fun i hi => zr_wf (hw i hi) (hc i hi)
  have hA := zr_all hw hc
  unfold wpX_reached wpY_reached; dsimp only
  generalize pm_all O F G = s at hR hA I2 ⊢
  by_cases hi : vp_in v1 16
  · refine ic_xy hi (br_f (by decide) ⟨17, zs_xrc _ v1 hw 16 0 0 rfl (ic_yy hi (br_f (by decide) (yc_settle hwY hS hV ?_)))⟩)
    rw [hA]
    exact ⟨17, zs_yrc _ v1 hwY 16 0 0 rfl ⟨zs_rc v1 hc 16 0, hR⟩⟩
  · exact ic_xn hi (br_t rfl (ic_yn hi (br_t rfl ⟨rfl, I2⟩)))
theorem i_vc_changed {k : Nat} {u : SX} {v : SY} (I : i_Rel k u v) (hk : k + 5 ≤ 2560) : wpX_changed (fun r => wpY_changed (fun r' => r' = r ∧ i_Rel (k + 5) u v) v) u := by
  have I2 := i_up I
  obtain ⟨c, O, F, G, SB, VB, A, B, C, S, V, oS, oV, rfl, rfl, hw, hc, hS, hV⟩ := I
  exact ⟨rfl, I2⟩
theorem i_vc_count {k : Nat} {u : SX} {v : SY} (I : i_Rel k u v) (hk : k + 5 ≤ 2560) (v1 : Int32) : wpX_count (fun r => wpY_count (fun r' v' => r' = r ∧ i_Rel (k + 5) u v') v v1) u v1 := by
  obtain ⟨c, O, F, G, SB, VB, A, B, C, S, V, oS, oV, rfl, rfl, hw, hc, hS, hV⟩ := I
  have hR := zr_set (k + 5) c SB VB oS oV hw hc
  have hwY : ∀ i, i < 16 → pm_wf O A B i := fun i hi => zr_wf (hw i hi) (hc i hi)
  have hA := zr_all hw hc
  unfold wpX_count wpY_count; dsimp only
  generalize pm_all O F G = s at hR hA ⊢
  refine ⟨17, zs_xt _ v1 16 0 0 rfl (yc_settle hwY hS hV ?_)⟩
  rw [hA]
  exact ⟨17, zs_yt _ v1 16 0 0 rfl ⟨rfl, hR⟩⟩
