section
variable {c : Int32} {O F G SB VB : Nat → Int32}
theorem xc_row (post : SX → Prop) (J2 : Int32 → Int32 → (Nat → Int32) → (Nat → Int32) → (Nat → Int32) → (Nat → Int32) → (Nat → Int32) → (Nat → Int32) → (Nat → Int32) → Prop) (x1 : Int32) (hw : ∀ i, i < 16 → pm_wf O F G i) :
    ∀ (d j : Nat) (S V : Nat → Int32), j + d = 16 → pm_iv O (S, V) → J2 (x1 + 1) c O F G (pm_row O F G d j (S, V)).1 (pm_row O F G d j (S, V)).2 SB VB → wX_settleAll_10 post J2 x1 (d + 1) (nI j) c O F G S V SB VB := by
  intro d
  induction d with
  | zero => intro j S V hj _ hJ; exact br_t (sb_g16 (by omega) (by omega)) (nm_e hJ)
  | succ d ih =>
    intro j S V hj hiv hJ
    have hin : vp_in (nI j) 16 := vp_in_nI (by omega) (by decide)
    have ec : (nI j).toNatClampNeg = j := nI_clamp (by omega)
    have hn := sb_n16 (j := j) (by omega)
    have hwj := hw j (by omega)
    have hiv2 := sv_step hwj (by omega) hiv
    have er : pm_row O F G (d + 1) j (S, V) = pm_row O F G d (j + 1) (pm_step O F G j (S, V)) := rfl
    rw [er] at hJ
    refine br_f hn (xa_nd hin (by rw [ec]; exact hwj) (xa_circ ⟨hin, br_c (fun h3 => br_c (fun hm => ?_) (fun hm => ?_)) (fun h3 => ?_)⟩))
    · rw [ec] at h3 hm
      have e : pm_step O F G j (S, V) = (upd S j (pm_st O F G S V j), upd V j (pm_vl O F G S V j)) := if_pos ⟨h3, hm⟩
      rw [e] at hJ hiv2
      refine xb_settle hin (by rw [ec]; exact hwj) (by rw [ec]; exact fun z => hiv.2.1 j (by omega) z h3) (by rw [ec]; exact h3) (by rw [ec]; exact (sn_cond hwj).mp hm) ?_
      refine nm_r (nI_1 j) ?_
      rw [ec]
      exact ih (j + 1) _ _ (by omega) hiv2 hJ
    · rw [ec] at h3 hm
      have e : pm_step O F G j (S, V) = (S, V) := if_neg (fun z => hm z.2)
      rw [e] at hJ
      exact nm_r (nI_1 j) (ih (j + 1) S V (by omega) hiv hJ)
    · rw [ec] at h3
      have e : pm_step O F G j (S, V) = (S, V) := if_neg (fun z => h3 z.1)
      rw [e] at hJ
      exact nm_r (nI_1 j) (ih (j + 1) S V (by omega) hiv hJ)
theorem xc_run (post : SX → Prop) (hw : ∀ i, i < 16 → pm_wf O F G i) :
    ∀ (d j : Nat) (S V : Nat → Int32), j + d = 16 → pm_iv O (S, V) → post (c, O, F, G, (pm_run O F G d (S, V)).1, (pm_run O F G d (S, V)).2, SB, VB) → wX_settleAll_2 post (d + 1) (nI j) c O F G S V SB VB := by
  intro d
  induction d with
  | zero => intro j S V hj _ hp; exact br_t (sb_g16 (by omega) (by omega)) hp
  | succ d ih =>
    intro j S V hj hiv hp
    have hn := sb_n16 (j := j) (by omega)
    refine br_f hn ⟨17, xc_row post _ (nI j) hw 16 0 S V rfl hiv ?_⟩
    rw [nI_1]
    have er : pm_run O F G (d + 1) (S, V) = pm_run O F G d (pm_row O F G 16 0 (S, V)) := rfl
    rw [er] at hp
    have hiv2 := sv_row hw 16 0 (S, V) rfl hiv
    generalize pm_row O F G 16 0 (S, V) = s at hp hiv2 ⊢
    obtain ⟨S2, V2⟩ := s
    exact ih (j + 1) S2 V2 (by omega) hiv2 hp
theorem xc_all {post : SX → Prop} (hw : ∀ i, i < 16 → pm_wf O F G i) (hp : post (c, O, F, G, (pm_all O F G).1, (pm_all O F G).2, SB, VB)) : wpX_settleAll post (c, O, F, G, pm_s0 O, pm_v0 O F, SB, VB) := by
  unfold pm_all at hp
  exact ⟨17, xc_run post hw 16 0 _ _ rfl sv_0 hp⟩
/-- f below j, g from j on -/
def pm_ua (f g : Nat → Int32) (j : Nat) : Nat → Int32 := fun k => if k < j then f k else g k
theorem xc_ua0 (f g : Nat → Int32) : pm_ua f g 0 = g := by
  funext k
  exact if_neg (by omega)
theorem xc_uaj (f g : Nat → Int32) (j : Nat) : pm_ua f g j j = g j := if_neg (by omega)
theorem xc_ual (f g : Nat → Int32) {j k : Nat} (h : k < j) : pm_ua f g j k = f k := if_pos h
theorem xc_uas (f g : Nat → Int32) (j : Nat) : upd (pm_ua f g j) j (f j) = pm_ua f g (j + 1) := by
  funext k
  by_cases e : k = j
  · subst e
    rw [pk_us, xc_ual f g (by omega)]
  · rw [pk_un e]
    unfold pm_ua
    by_cases h : k < j
    · rw [if_pos h, if_pos (by omega)]
    · rw [if_neg h, if_neg (by omega)]
theorem xc_un (post : SX → Prop) (S V : Nat → Int32) (hp : post (c, O, F, G, pm_ua (pm_s0 O) S 16, pm_ua (pm_v0 O F) V 16, pm_ua S SB 16, pm_ua V VB 16)) :
    ∀ d j : Nat, j + d = 16 → wX_unsettleAll_2 post c (d + 1) (nI j) O F G (pm_ua (pm_s0 O) S j) (pm_ua (pm_v0 O F) V j) (pm_ua S SB j) (pm_ua V VB j) := by
  intro d
  induction d with
  | zero =>
    intro j hj
    obtain rfl : j = 16 := by omega
    exact br_t (sb_g16 (by omega) (by omega)) hp
  | succ d ih =>
    intro j hj
    have hin : vp_in (nI j) 16 := vp_in_nI (by omega) (by decide)
    have ec : (nI j).toNatClampNeg = j := nI_clamp (by omega)
    have hn := sb_n16 (j := j) (by omega)
    have e1 : upd (pm_ua S SB j) (nI j).toNatClampNeg (pm_ua (pm_s0 O) S j (nI j).toNatClampNeg) = pm_ua S SB (j + 1) := by
      rw [ec, xc_uaj, xc_uas]
    have e2 : upd (pm_ua V VB j) (nI j).toNatClampNeg (pm_ua (pm_v0 O F) V j (nI j).toNatClampNeg) = pm_ua V VB (j + 1) := by
      rw [ec, xc_uaj, xc_uas]
    refine br_f hn ⟨hin, hin, nm_r e1 ⟨hin, hin, nm_r e2 ⟨hin, br_c (fun ho => ?_) (fun ho => ?_)⟩⟩⟩
    · rw [ec] at ho
      have s0 : pm_s0 O j = 0 := by unfold pm_s0; rw [if_pos (by omega), if_pos ho]
      have v0 : pm_v0 O F j = F j := by unfold pm_v0; rw [if_pos (by omega), if_pos ho]
      have e3 : upd (pm_ua (pm_s0 O) S j) (nI j).toNatClampNeg 0 = pm_ua (pm_s0 O) S (j + 1) := by
        rw [ec, ← s0, xc_uas]
      have e4 : upd (pm_ua (pm_v0 O F) V j) (nI j).toNatClampNeg (F (nI j).toNatClampNeg) = pm_ua (pm_v0 O F) V (j + 1) := by
        rw [ec, ← v0, xc_uas]
      exact br_f (by decide) ⟨hin, nm_r e3 (br_f (by decide) ⟨hin, hin, nm_r e4 (nm_r (nI_1 j) (ih (j + 1) (by omega)))⟩)⟩
    · rw [ec] at ho
      have s0 : pm_s0 O j = 3 := by unfold pm_s0; rw [if_pos (by omega), if_neg ho]
      have v0 : pm_v0 O F j = 0 := by unfold pm_v0; rw [if_pos (by omega), if_neg ho]
      have e3 : upd (pm_ua (pm_s0 O) S j) (nI j).toNatClampNeg 3 = pm_ua (pm_s0 O) S (j + 1) := by
        rw [ec, ← s0, xc_uas]
      have e4 : upd (pm_ua (pm_v0 O F) V j) (nI j).toNatClampNeg 0 = pm_ua (pm_v0 O F) V (j + 1) := by
        rw [ec, ← v0, xc_uas]
      exact br_t rfl ⟨hin, nm_r e3 (br_t rfl ⟨hin, nm_r e4 (nm_r (nI_1 j) (ih (j + 1) (by omega)))⟩)⟩
theorem xc_uaz {f g : Nat → Int32} (hf : ∀ k, 16 ≤ k → f k = 0) (hg : ∀ k, 16 ≤ k → g k = 0) : pm_ua f g 16 = f := by
  funext k
  unfold pm_ua
  by_cases h : k < 16
  · rw [if_pos h]
  · rw [if_neg h, hf k (by omega), hg k (by omega)]
theorem xc_s0z (O : Nat → Int32) : ∀ k, 16 ≤ k → pm_s0 O k = 0 := fun k h => if_neg (by omega)
theorem xc_v0z (O F : Nat → Int32) : ∀ k, 16 ≤ k → pm_v0 O F k = 0 := fun k h => if_neg (by omega)
theorem xc_unset {post : SX → Prop} {S V : Nat → Int32} (hS : ∀ k, 16 ≤ k → S k = 0) (hV : ∀ k, 16 ≤ k → V k = 0)
    (hp : post (c, O, F, G, pm_s0 O, pm_v0 O F, pm_ua S SB 16, pm_ua V VB 16)) : wpX_unsettleAll post (c, O, F, G, S, V, SB, VB) := by
  refine ⟨17, ?_⟩
  have h := xc_un (c := c) (O := O) (F := F) (G := G) (SB := SB) (VB := VB) post S V (by
    rw [xc_uaz (xc_s0z O) hS, xc_uaz (xc_v0z O F) hV]; exact hp) 16 0 rfl
  rw [xc_ua0, xc_ua0, xc_ua0, xc_ua0] at h
  exact h
theorem xc_nc (post : SX → Prop) (S V S2 V2 : Nat → Int32) : ∀ (d j : Nat) (m : Int32), j + d = 16 → post (pm_ch S V S2 V2 d j m, O, F, G, S, V, S2, V2) → wX_noteChanges_7 post O F G S V S2 V2 (d + 1) (nI j) m := by
  intro d
  induction d with
  | zero => intro j m hj hp; exact br_t (sb_g16 (by omega) (by omega)) hp
  | succ d ih =>
    intro j m hj hp
    have hin : vp_in (nI j) 16 := vp_in_nI (by omega) (by decide)
    have ec : (nI j).toNatClampNeg = j := nI_clamp (by omega)
    have hn := sb_n16 (j := j) (by omega)
    unfold pm_ch at hp
    refine br_f hn ⟨hin, hin, br_c (fun hs => ⟨hin, hin, br_c (fun hv => ?_) (fun hv => ?_)⟩) (fun hs => ?_)⟩
    · rw [ec] at hs hv
      rw [if_pos ⟨hs, hv⟩] at hp
      exact nm_r (nI_1 j) (ih (j + 1) _ (by omega) hp)
    · rw [ec] at hs hv
      rw [if_neg (fun z => hv z.2)] at hp
      exact nm_e (nm_r (nI_1 j) (ih (j + 1) _ (by omega) hp))
    · rw [ec] at hs
      rw [if_neg (fun z => hs z.1)] at hp
      exact nm_e (nm_r (nI_1 j) (ih (j + 1) _ (by omega) hp))
theorem xc_note {post : SX → Prop} {S V S2 V2 : Nat → Int32} (hp : post (pm_ch S V S2 V2 16 0 0, O, F, G, S, V, S2, V2)) : wpX_noteChanges post (c, O, F, G, S, V, S2, V2) :=
  ⟨17, xc_nc post S V S2 V2 16 0 0 rfl hp⟩
theorem xc_chu (S V S2 V2 A B : Nat → Int32) : ∀ (d j : Nat) (m : Int32), j + d = 16 → pm_ch S V (pm_ua S2 A 16) (pm_ua V2 B 16) d j m = pm_ch S V S2 V2 d j m := by
  intro d
  induction d with
  | zero => intro j m _; rfl
  | succ d ih =>
    intro j m hj
    unfold pm_ch
    rw [ih (j + 1) _ (by omega), xc_ual S2 A (by omega), xc_ual V2 B (by omega)]
theorem xc_hold {post : SX → Prop} {S V : Nat → Int32} {p0 p1 p2 p3 : Int32} (hi : vp_in p0 16) (hS : ∀ k, 16 ≤ k → S k = 0) (hV : ∀ k, 16 ≤ k → V k = 0)
    (hw : ∀ i, i < 16 → pm_wf (upd O p0.toNatClampNeg p1) (upd F p0.toNatClampNeg p2) (upd G p0.toNatClampNeg p3) i)
    (hp : ∀ A B : Nat → Int32, post (pm_ch (pm_all (upd O p0.toNatClampNeg p1) (upd F p0.toNatClampNeg p2) (upd G p0.toNatClampNeg p3)).1 (pm_all (upd O p0.toNatClampNeg p1) (upd F p0.toNatClampNeg p2) (upd G p0.toNatClampNeg p3)).2 S V 16 0 0,
      upd O p0.toNatClampNeg p1, upd F p0.toNatClampNeg p2, upd G p0.toNatClampNeg p3, (pm_all (upd O p0.toNatClampNeg p1) (upd F p0.toNatClampNeg p2) (upd G p0.toNatClampNeg p3)).1, (pm_all (upd O p0.toNatClampNeg p1) (upd F p0.toNatClampNeg p2) (upd G p0.toNatClampNeg p3)).2, A, B)) :
    wpX_hold post (c, O, F, G, S, V, SB, VB) p0 p1 p2 p3 := by
  unfold wpX_hold; dsimp only
  refine ⟨hi, nm_e ⟨hi, nm_e ⟨hi, nm_e ?_⟩⟩⟩
  refine xc_unset hS hV ?_
  refine xc_all hw ?_
  have h := hp (pm_ua S SB 16) (pm_ua V VB 16)
  rw [← xc_chu _ _ S V SB VB 16 0 0 rfl] at h
  generalize pm_all (upd O p0.toNatClampNeg p1) (upd F p0.toNatClampNeg p2) (upd G p0.toNatClampNeg p3) = s at h ⊢
  exact xc_note h
end
