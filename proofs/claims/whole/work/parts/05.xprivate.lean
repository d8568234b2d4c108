section
variable {post : Int32 → Prop} {c : Int32} {O F G S V SB VB : Nat → Int32} {p0 : Int32}
theorem xa_tt (hi : vp_in p0 16) (hF : vp_in (F p0.toNatClampNeg) 16) (hp : post (pm_tg F G S V p0.toNatClampNeg)) : wpX_throughTarget post (c, O, F, G, S, V, SB, VB) p0 := by
  unfold wpX_throughTarget; dsimp only
  unfold pm_tg at hp
  refine ⟨hi, nm_e ⟨hF, br_c (fun h => ?_) (fun h => ?_)⟩⟩
  · rw [if_pos h] at hp
    refine ⟨hF, hi, nm_e (br_c (fun h0 => ?_) (fun h0 => br_c (fun h1 => ?_) (fun h1 => ?_)))⟩
    · rw [if_pos h0] at hp; exact hp
    · rw [if_neg h0, if_pos h1] at hp; exact hp
    · rw [if_neg h0, if_neg h1] at hp; exact hp
  · rw [if_neg h] at hp; exact hp
theorem xa_nd (hi : vp_in p0 16) (hw : pm_wf O F G p0.toNatClampNeg) (hp : post (pm_nd O F G S V p0.toNatClampNeg)) : wpX_neededCells post (c, O, F, G, S, V, SB, VB) p0 := by
  unfold wpX_neededCells; dsimp only
  refine ⟨hi, nm_e ⟨hi, nm_e ⟨hi, ?_⟩⟩⟩
  rcases hw with h | h | ⟨hF, h | h | ⟨hG, h | h | h | h | h | h⟩⟩
  · rw [sn_m1 h] at hp
    exact nm_r h (br_t (by decide) hp)
  · rw [sn_8 h] at hp
    exact nm_r h (br_f (by decide) (br_t (by decide) hp))
  · rw [sn_6 h] at hp
    exact nm_r h (br_f (by decide) (br_f (by decide) (br_f (by decide) (br_f (by decide) (br_f (by decide) (br_f (by decide) (br_f (by decide) (br_f (by decide) (br_t (by decide) hp)))))))))
  · rw [sn_4 h] at hp
    refine nm_r h (br_f (by decide) (br_f (by decide) (br_f (by decide) (br_f (by decide) (br_f (by decide) (br_f (by decide) (br_t (by decide) ?_)))))))
    refine xa_tt hi hF (br_c (fun ht => ?_) (fun ht => ?_))
    · rw [if_pos ht] at hp; exact hp
    · rw [if_neg ht] at hp; exact hp
  · rw [sn_5 h] at hp
    refine nm_r h (br_f (by decide) (br_f (by decide) (br_f (by decide) (br_f (by decide) (br_f (by decide) (br_f (by decide) (br_f (by decide) (br_t (by decide) ?_))))))))
    refine br_c (fun ht => ?_) (fun ht => ?_)
    · rw [if_pos ht] at hp; exact hp
    · rw [if_neg ht] at hp; exact hp
  · rw [sn_e (Or.inl h)] at hp
    exact nm_r h (br_f (by decide) (br_f (by decide) (br_t (by decide) hp)))
  · rw [sn_e (Or.inr (Or.inl h))] at hp
    exact nm_r h (br_f (by decide) (br_f (by decide) (br_f (by decide) (br_t (by decide) hp))))
  · rw [sn_e (Or.inr (Or.inr (Or.inl h)))] at hp
    exact nm_r h (br_f (by decide) (br_f (by decide) (br_f (by decide) (br_f (by decide) (br_t (by decide) hp)))))
  · rw [sn_e (Or.inr (Or.inr (Or.inr (Or.inl h))))] at hp
    exact nm_r h (br_f (by decide) (br_f (by decide) (br_f (by decide) (br_f (by decide) (br_f (by decide) (br_t (by decide) hp))))))
  · rw [sn_e (Or.inr (Or.inr (Or.inr (Or.inr h))))] at hp
    exact nm_r h (br_f (by decide) (br_f (by decide) (br_f (by decide) (br_f (by decide) (br_f (by decide) (br_f (by decide) (br_f (by decide) (br_f (by decide) (br_f (by decide) (br_t (by decide) hp))))))))))
theorem xa_cm (post : Int32 → Prop) : ∀ (d j : Nat) (m : Int32), j + d = 16 → post (pm_cm S d j m) → wX_circular_4 post c O F G S V SB VB (d + 1) m (nI j) := by
  intro d
  induction d with
  | zero => intro j m hj hp; exact br_t (sb_g16 (by omega) (by omega)) hp
  | succ d ih =>
    intro j m hj hp
    have hin : vp_in (nI j) 16 := vp_in_nI (by omega) (by decide)
    have ec : (nI j).toNatClampNeg = j := nI_clamp (by omega)
    unfold pm_cm at hp
    by_cases z : S j = 3
    · rw [if_pos z] at hp
      exact br_f (sb_n16 (by omega)) ⟨hin, br_t (by rw [ec]; exact z) (nm_e (nm_r (nI_1 j) (ih (j + 1) _ (by omega) hp)))⟩
    · rw [if_neg z] at hp
      exact br_f (sb_n16 (by omega)) ⟨hin, br_f (by rw [ec]; exact z) (nm_r (nI_1 j) (ih (j + 1) _ (by omega) hp))⟩
theorem xa_circ (hp : post (pm_cm S 16 0 0)) : wpX_circular post (c, O, F, G, S, V, SB, VB) := ⟨17, xa_cm post 16 0 0 rfl hp⟩
theorem xa_sc (post : Int32 → Prop) (m : Int32) : ∀ (d j : Nat), j + d = 16 → post (if pm_sc S m d j = 16 then 0 else S (pm_sc S m d j)) → wX_firstError_55 post m c O F G S V SB VB (d + 1) (nI j) := by
  intro d
  induction d with
  | zero =>
    intro j hj hp
    have e : pm_sc S m 0 j = 16 := by show j = 16; omega
    rw [if_pos e] at hp
    exact br_t (sb_g16 (by omega) (by omega)) hp
  | succ d ih =>
    intro j hj hp
    have hin : vp_in (nI j) 16 := vp_in_nI (by omega) (by decide)
    have ec : (nI j).toNatClampNeg = j := nI_clamp (by omega)
    have hn := sb_n16 (j := j) (by omega)
    by_cases hb : bt m j = true
    · have h2 : ¬ (m &&& ((1 : Int32) <<< (nI j &&& 31))) = 0 := fun z => by
        rw [sb_and0 m (by omega), hb] at z; cases z
      by_cases z : S j = 0
      · have e : pm_sc S m (d + 1) j = pm_sc S m d (j + 1) := if_neg (fun y => y.2 z)
        rw [e] at hp
        exact br_f hn (br_f h2 ⟨hin, br_t (by rw [ec]; exact z) (nm_r (nI_1 j) (ih (j + 1) (by omega) hp))⟩)
      · have e : pm_sc S m (d + 1) j = j := if_pos ⟨hb, z⟩
        rw [e, if_neg (by omega)] at hp
        exact br_f hn (br_f h2 ⟨hin, br_f (by rw [ec]; exact z) ⟨hin, by rw [ec]; exact hp⟩⟩)
    · have h2 : (m &&& ((1 : Int32) <<< (nI j &&& 31))) = 0 := (sb_and0 m (by omega)).mpr (by cases h : bt m j; rfl; exact absurd h hb)
      have e : pm_sc S m (d + 1) j = pm_sc S m d (j + 1) := if_neg (fun y => hb y.1)
      rw [e] at hp
      exact br_f hn (br_t h2 (nm_r (nI_1 j) (ih (j + 1) (by omega) hp)))
theorem xa_sm (post : Int32 → Prop) (m : Int32) : ∀ (d j : Nat) (s : Int32), j + d = 16 → post (pm_sm V m d j s) → wX_sumOf_4 post m c O F G S V SB VB (d + 1) s (nI j) := by
  intro d
  induction d with
  | zero => intro j s hj hp; exact br_t (sb_g16 (by omega) (by omega)) hp
  | succ d ih =>
    intro j s hj hp
    have hin : vp_in (nI j) 16 := vp_in_nI (by omega) (by decide)
    have ec : (nI j).toNatClampNeg = j := nI_clamp (by omega)
    have hn := sb_n16 (j := j) (by omega)
    unfold pm_sm at hp
    by_cases hb : bt m j = true
    · have h2 : ¬ (m &&& ((1 : Int32) <<< (nI j &&& 31))) = 0 := fun z => by
        rw [sb_and0 m (by omega), hb] at z; cases z
      rw [if_pos hb] at hp
      exact br_f hn (br_f h2 ⟨hin, nm_r (by rw [ec]) (nm_r (nI_1 j) (ih (j + 1) _ (by omega) hp))⟩)
    · have h2 : (m &&& ((1 : Int32) <<< (nI j &&& 31))) = 0 := (sb_and0 m (by omega)).mpr (by cases h : bt m j; rfl; exact absurd h hb)
      rw [if_neg hb] at hp
      exact br_f hn (br_t h2 (nm_r (nI_1 j) (ih (j + 1) _ (by omega) hp)))
theorem xa_os {op oth : Int32} (hv : op = 3 → vp_in oth 16) (hp : post (pm_os V op oth)) : wpX_ownState post (c, O, F, G, S, V, SB, VB) op oth := by
  unfold pm_os at hp
  unfold wpX_ownState; dsimp only
  refine br_c (fun h8 => ?_) (fun h8 => br_c (fun h4 => br_c (fun ht => ?_) (fun ht => ?_)) (fun h4 => ?_))
  · rw [if_pos h8] at hp; exact hp
  · rw [if_neg h8, if_pos h4, if_pos ht] at hp; exact hp
  · rw [if_neg h8, if_pos h4, if_neg ht] at hp
    exact br_f (by rw [h4]; decide) hp
  · rw [if_neg h8, if_neg h4] at hp
    refine br_c (fun h3 => ⟨hv h3, br_c (fun hz => ?_) (fun hz => ?_)⟩) (fun h3 => ?_)
    · rw [if_pos h3, if_pos hz] at hp; exact hp
    · rw [if_pos h3, if_neg hz] at hp; exact hp
    · rw [if_neg h3] at hp; exact hp
end
