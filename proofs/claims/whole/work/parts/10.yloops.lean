section
variable {f : Int32} {O A B C oS oV : Nat → Int32}
theorem yc_row (post : SY → Prop) (J58 : Int32 → Int32 → Int32 → (Nat → Int32) → (Nat → Int32) → (Nat → Int32) → (Nat → Int32) → (Nat → Int32) → (Nat → Int32) → (Nat → Int32) → (Nat → Int32) → Prop) (x2 : Int32) (hw : ∀ i, i < 16 → pm_wf O A B i) :
    ∀ (d j : Nat) (x1 : Int32) (S V : Nat → Int32), j + d = 16 → pm_iv O (S, V) → pm_dn S x1 →
      (∀ y : Int32, pm_dn (pm_row O A B d j (S, V)).1 y → J58 y (x2 + 1) f O A B C (pm_row O A B d j (S, V)).1 (pm_row O A B d j (S, V)).2 oS oV) →
      wY_settle_66 post J58 x2 (d + 1) x1 (nI j) f O A B C S V oS oV := by
  intro d
  induction d with
  | zero => intro j x1 S V hj _ hx hJ; exact br_t (sb_g16 (by omega) (by omega)) (nm_e (hJ x1 hx))
  | succ d ih =>
    intro j x1 S V hj hiv hx hJ
    have hin : vp_in (nI j) 16 := vp_in_nI (by omega) (by decide)
    have ec : (nI j).toNatClampNeg = j := nI_clamp (by omega)
    have hn := sb_n16 (j := j) (by omega)
    have hwj := hw j (by omega)
    have hiv2 := sv_step hwj (by omega) hiv
    have er : pm_row O A B (d + 1) j (S, V) = pm_row O A B d (j + 1) (pm_step O A B j (S, V)) := rfl
    rw [er] at hJ
    by_cases h3 : S j = 3
    · have hb : ((x1 >>> (nI j &&& 31)) &&& 1) = 0 := by
        rw [sb_shr0 x1 (by omega), hx j (by omega)]
        exact decide_eq_false (fun z => z.2 h3)
      refine br_f hn (br_t hb (ya_nd hin (by rw [ec]; exact hwj) (br_c (fun hm => ?_) (fun hm => ?_))))
      · rw [ec, sn_condY hx hwj] at hm
        have e : pm_step O A B j (S, V) = (upd S j (pm_st O A B S V j), upd V j (pm_vl O A B S V j)) := if_pos ⟨h3, hm⟩
        rw [e] at hJ hiv2
        have h1 : ¬ O j = -1 := fun z => hiv.2.1 j (by omega) z h3
        have hv0 : V j = 0 := hiv.1 j (by omega) (by show ¬ S j = 0; rw [h3]; decide)
        have hst := sn_st hwj h1 ((sn_cond hwj).mp hm)
        refine yb_ev hin (by rw [ec]; exact hwj) (by rw [ec]; exact h1) (by rw [ec]; exact hv0) ?_
        refine nm_e (nm_r (nI_1 j) ?_)
        rw [ec]
        exact ih (j + 1) _ _ _ (by omega) hiv2 (sn_dnu hx (by omega) hst) hJ
      · rw [ec, sn_condY hx hwj] at hm
        have e : pm_step O A B j (S, V) = (S, V) := if_neg (fun z => hm z.2)
        rw [e] at hJ
        exact nm_r (nI_1 j) (ih (j + 1) x1 S V (by omega) hiv hx hJ)
    · have hb : ¬ ((x1 >>> (nI j &&& 31)) &&& 1) = 0 := by
        rw [sb_shr0 x1 (by omega), hx j (by omega), decide_eq_true ⟨by omega, h3⟩]
        decide
      have e : pm_step O A B j (S, V) = (S, V) := if_neg (fun z => h3 z.1)
      rw [e] at hJ
      exact br_f hn (br_f hb (nm_r (nI_1 j) (ih (j + 1) x1 S V (by omega) hiv hx hJ)))
theorem yc_run (post : SY → Prop) (hw : ∀ i, i < 16 → pm_wf O A B i) :
    ∀ (d j : Nat) (x1 : Int32) (S V : Nat → Int32), j + d = 16 → pm_iv O (S, V) → pm_dn S x1 →
      post (f, O, A, B, C, (pm_run O A B d (S, V)).1, (pm_run O A B d (S, V)).2, oS, oV) → wY_settle_58 post (d + 1) x1 (nI j) f O A B C S V oS oV := by
  intro d
  induction d with
  | zero => intro j x1 S V hj _ _ hp; exact br_t (sb_g16 (by omega) (by omega)) hp
  | succ d ih =>
    intro j x1 S V hj hiv hx hp
    have hn := sb_n16 (j := j) (by omega)
    refine br_f hn ⟨17, yc_row post _ (nI j) hw 16 0 x1 S V rfl hiv hx ?_⟩
    rw [nI_1]
    have er : pm_run O A B (d + 1) (S, V) = pm_run O A B d (pm_row O A B 16 0 (S, V)) := rfl
    rw [er] at hp
    have hiv2 := sv_row hw 16 0 (S, V) rfl hiv
    generalize pm_row O A B 16 0 (S, V) = s at hp hiv2 ⊢
    obtain ⟨S2, V2⟩ := s
    intro y hy
    exact ih (j + 1) y S2 V2 (by omega) hiv2 hy hp
theorem yc_uu (g : Nat → Int32) (k : Nat) (a b : Int32) : upd (upd g k a) k b = upd g k b := by
  funext j
  by_cases e : j = k
  · subst e; rw [pk_us, pk_us]
  · rw [pk_un e, pk_un e, pk_un e]
theorem yc_op {i : Nat} (hw : pm_wf O A B i) : (O i = -1 ∧ ¬ 0 ≤ O i) ∨ (¬ O i = -1 ∧ 0 ≤ O i) := by
  rcases hw with h | h | ⟨hF, h | h | ⟨hG, h | h | h | h | h | h⟩⟩ <;> rw [h] <;> decide
theorem yc_4 (post : SY → Prop) (S V : Nat → Int32) (hw : ∀ i, i < 16 → pm_wf O A B i)
    (hp : ∀ x1 : Int32, pm_dn (pm_s0 O) x1 → ∃ n : Nat, wY_settle_58 post n x1 0 f O A B C (pm_ua (pm_s0 O) S 16) (pm_ua (pm_v0 O C) V 16) oS oV) :
    ∀ (d j : Nat) (x1 : Int32), j + d = 16 → (∀ k, k < 32 → bt x1 k = decide (k < j ∧ O k = -1)) →
      wY_settle_4 post (d + 1) x1 (nI j) f O A B C (pm_ua (pm_s0 O) S j) (pm_ua (pm_v0 O C) V j) oS oV := by
  intro d
  induction d with
  | zero =>
    intro j x1 hj hx
    obtain rfl : j = 16 := by omega
    refine br_t (sb_g16 (by omega) (by omega)) (hp x1 ?_)
    intro k hk
    rw [hx k hk]
    congr 1
    apply propext
    constructor
    · rintro ⟨a, b⟩
      refine ⟨a, ?_⟩
      unfold pm_s0
      rw [if_pos a, if_pos b]; decide
    · rintro ⟨a, b⟩
      refine ⟨a, ?_⟩
      by_cases h : O k = -1
      · exact h
      · exfalso
        apply b
        unfold pm_s0
        rw [if_pos a, if_neg h]
  | succ d ih =>
    intro j x1 hj hx
    have hin : vp_in (nI j) 16 := vp_in_nI (by omega) (by decide)
    have ec : (nI j).toNatClampNeg = j := nI_clamp (by omega)
    have hn := sb_n16 (j := j) (by omega)
    rcases yc_op (hw j (by omega)) with ⟨ho, h0⟩ | ⟨ho, h0⟩
    · have s0 : pm_s0 O j = 0 := by unfold pm_s0; rw [if_pos (by omega), if_pos ho]
      have v0 : pm_v0 O C j = C j := by unfold pm_v0; rw [if_pos (by omega), if_pos ho]
      have e3 : upd (upd (pm_ua (pm_s0 O) S j) (nI j).toNatClampNeg 3) (nI j).toNatClampNeg 0 = pm_ua (pm_s0 O) S (j + 1) := by
        rw [yc_uu, ec, ← s0, xc_uas]
      have e4 : upd (upd (pm_ua (pm_v0 O C) V j) (nI j).toNatClampNeg 0) (nI j).toNatClampNeg (C (nI j).toNatClampNeg) = pm_ua (pm_v0 O C) V (j + 1) := by
        rw [yc_uu, ec, ← v0, xc_uas]
      refine br_f hn ⟨hin, nm_e ⟨hin, nm_e ⟨hin, br_f (by rw [ec]; exact h0) ⟨hin, yb_num hin ?_⟩⟩⟩⟩
      rw [e3, e4]
      refine nm_e (nm_r (nI_1 j) (ih (j + 1) _ (by omega) ?_))
      intro k hk
      rw [b_or, hx k hk, sb_one j (by omega) k hk]
      by_cases e : j = k
      · subst e
        rw [decide_eq_true rfl, Bool.or_true]
        exact (decide_eq_true ⟨by omega, ho⟩).symm
      · rw [decide_eq_false e, Bool.or_false]
        congr 1
        apply propext
        constructor
        · rintro ⟨a, b⟩; exact ⟨by omega, b⟩
        · rintro ⟨a, b⟩; exact ⟨by omega, b⟩
    · have s0 : pm_s0 O j = 3 := by unfold pm_s0; rw [if_pos (by omega), if_neg ho]
      have v0 : pm_v0 O C j = 0 := by unfold pm_v0; rw [if_pos (by omega), if_neg ho]
      have e3 : upd (pm_ua (pm_s0 O) S j) (nI j).toNatClampNeg 3 = pm_ua (pm_s0 O) S (j + 1) := by
        rw [ec, ← s0, xc_uas]
      have e4 : upd (pm_ua (pm_v0 O C) V j) (nI j).toNatClampNeg 0 = pm_ua (pm_v0 O C) V (j + 1) := by
        rw [ec, ← v0, xc_uas]
      refine br_f hn ⟨hin, nm_r e3 ⟨hin, nm_r e4 ⟨hin, br_t (by rw [ec]; exact h0) (nm_r (nI_1 j) (ih (j + 1) x1 (by omega) ?_))⟩⟩⟩
      intro k hk
      rw [hx k hk]
      congr 1
      apply propext
      constructor
      · rintro ⟨a, b⟩; exact ⟨by omega, b⟩
      · rintro ⟨a, b⟩
        have : j ≠ k := fun e => ho (e ▸ b)
        exact ⟨by omega, b⟩
/-- Y's settled picture -/
def pm_yall (O A B C : Nat → Int32) : (Nat → Int32) × (Nat → Int32) := pm_run O A B 16 (pm_s0 O, pm_v0 O C)
theorem yc_settle {post : SY → Prop} {S V : Nat → Int32} (hw : ∀ i, i < 16 → pm_wf O A B i) (hS : ∀ k, 16 ≤ k → S k = 0) (hV : ∀ k, 16 ≤ k → V k = 0)
    (hp : post (f, O, A, B, C, (pm_yall O A B C).1, (pm_yall O A B C).2, oS, oV)) : wpY_settle post (f, O, A, B, C, S, V, oS, oV) := by
  refine ⟨17, ?_⟩
  have h := yc_4 (f := f) (C := C) (oS := oS) (oV := oV) post S V hw (fun x1 hx => ⟨17, by
    rw [xc_uaz (xc_s0z O) hS, xc_uaz (xc_v0z O C) hV]
    unfold pm_yall at hp
    exact yc_run post hw 16 0 x1 _ _ rfl sv_0 hx hp⟩) 16 0 0 rfl (fun k hk => by rw [b_0]; exact (decide_eq_false (by omega)).symm)
  rw [xc_ua0, xc_ua0] at h
  exact h
theorem yc_b6 (post : SY → Prop) (S V : Nat → Int32) (hp : post (f, O, A, B, C, S, V, pm_ua S oS 16, pm_ua V oV 16)) :
    ∀ d j : Nat, j + d = 16 → wY_before_6 post f (d + 1) (nI j) O A B C S V (pm_ua S oS j) (pm_ua V oV j) := by
  intro d
  induction d with
  | zero =>
    intro j hj
    obtain rfl : j = 16 := by omega
    exact br_t (sb_g16 (by omega) (by omega)) hp
  | succ d ih =>
    intro j hj
    have hin : vp_in (nI j) 16 := vp_in_nI (by omega) (by decide)
    have ec : (nI j).toNatClampNeg = j := nI_clamp (by omega)
    have hn := sb_n16 (j := j) (by omega)
    exact br_f hn ⟨hin, hin, nm_r (by rw [ec, xc_uas]) ⟨hin, hin, nm_r (by rw [ec, xc_uas]) (nm_r (nI_1 j) (ih (j + 1) (by omega)))⟩⟩
theorem yc_before {post : SY → Prop} {S V : Nat → Int32} (hw : ∀ i, i < 16 → pm_wf O A B i) (hS : ∀ k, 16 ≤ k → S k = 0) (hV : ∀ k, 16 ≤ k → V k = 0)
    (hp : post (f, O, A, B, C, (pm_yall O A B C).1, (pm_yall O A B C).2, pm_ua (pm_yall O A B C).1 oS 16, pm_ua (pm_yall O A B C).2 oV 16)) : wpY_before post (f, O, A, B, C, S, V, oS, oV) := by
  unfold wpY_before; dsimp only
  refine yc_settle hw hS hV ?_
  generalize pm_yall O A B C = s at hp ⊢
  refine ⟨17, ?_⟩
  have h := yc_b6 (f := f) post s.1 s.2 hp 16 0 rfl
  rw [xc_ua0, xc_ua0] at h
  exact h
theorem yc_cp (post : SY → Prop) (S V S2 V2 : Nat → Int32) (hq : ∀ j, j < 16 → S j = S2 j → ¬ S j = 0 → V j = V2 j) :
    ∀ (d j : Nat) (m : Int32), j + d = 16 → post (pm_ch S V S2 V2 d j m, O, A, B, C, S, V, S2, V2) → wY_compare_11 post O A B C S V S2 V2 (d + 1) (nI j) m := by
  intro d
  induction d with
  | zero => intro j m hj hp; exact br_t (sb_g16 (by omega) (by omega)) hp
  | succ d ih =>
    intro j m hj hp
    have hin : vp_in (nI j) 16 := vp_in_nI (by omega) (by decide)
    have ec : (nI j).toNatClampNeg = j := nI_clamp (by omega)
    have hn := sb_n16 (j := j) (by omega)
    unfold pm_ch at hp
    refine br_f hn ⟨hin, hin, br_c (fun hs => ⟨hin, br_c (fun hz => ⟨hin, hin, br_c (fun hv => ?_) (fun hv => ?_)⟩) (fun hz => ?_)⟩) (fun hs => ?_)⟩
    · rw [ec] at hs hv
      rw [if_pos ⟨hs, hv⟩] at hp
      exact br_f (by decide) (nm_r (nI_1 j) (ih (j + 1) _ (by omega) hp))
    · rw [ec] at hs hv
      rw [if_neg (fun z => hv z.2)] at hp
      exact br_t rfl (nm_e (nm_r (nI_1 j) (ih (j + 1) _ (by omega) hp)))
    · rw [ec] at hs hz
      rw [if_pos ⟨hs, hq j (by omega) hs hz⟩] at hp
      exact br_f (by decide) (nm_r (nI_1 j) (ih (j + 1) _ (by omega) hp))
    · rw [ec] at hs
      rw [if_neg (fun z => hs z.1)] at hp
      exact br_t rfl (nm_e (nm_r (nI_1 j) (ih (j + 1) _ (by omega) hp)))
theorem yc_compare {post : SY → Prop} {S V S2 V2 : Nat → Int32} (hw : ∀ i, i < 16 → pm_wf O A B i) (hS : ∀ k, 16 ≤ k → S k = 0) (hV : ∀ k, 16 ≤ k → V k = 0)
    (h2 : ∀ j, j < 16 → ¬ S2 j = 0 → V2 j = 0)
    (hp : ∀ a b : Nat → Int32, post (pm_ch (pm_yall O A B C).1 (pm_yall O A B C).2 S2 V2 16 0 0, O, A, B, C, (pm_yall O A B C).1, (pm_yall O A B C).2, a, b)) :
    wpY_compare post (f, O, A, B, C, S, V, pm_ua S2 oS 16, pm_ua V2 oV 16) := by
  unfold wpY_compare; dsimp only
  refine yc_settle hw hS hV ?_
  have hiv : pm_iv O (pm_yall O A B C) := sv_run hw 16 _ sv_0
  generalize pm_yall O A B C = s at hp hiv ⊢
  refine ⟨17, yc_cp post s.1 s.2 (pm_ua S2 oS 16) (pm_ua V2 oV 16) ?_ 16 0 0 rfl ?_⟩
  · intro j hj
    rw [xc_ual S2 oS hj, xc_ual V2 oV hj]
    intro e hz
    rw [hiv.1 j hj hz, h2 j hj (e ▸ hz)]
  · rw [xc_chu _ _ S2 V2 oS oV 16 0 0 rfl]
    exact hp _ _
theorem yc_hold {post : SY → Prop} {S V : Nat → Int32} {p0 p1 p2 p3 : Int32} (hi : vp_in p0 16)
    (hp : post (f, upd O p0.toNatClampNeg p1, upd A p0.toNatClampNeg (if p1 < 0 ∨ p1 = 8 then 0 else p2), upd B p0.toNatClampNeg (if p1 < 0 ∨ p1 = 8 ∨ p1 = 6 then 0 else p3), C, S, V, oS, oV)) :
    wpY_hold post (f, O, A, B, C, S, V, oS, oV) p0 p1 p2 p3 := by
  unfold wpY_hold; dsimp only
  refine ⟨hi, nm_e (br_c (fun h => ?_) (fun h => br_c (fun h8 => ?_) (fun h8 => ?_)))⟩
  · rw [if_pos (Or.inl h), if_pos (Or.inl h)] at hp
    exact ⟨hi, nm_e (br_t h ⟨hi, nm_e hp⟩)⟩
  · rw [if_pos (Or.inr h8), if_pos (Or.inr (Or.inl h8))] at hp
    exact ⟨hi, nm_e (br_f h (br_t h8 ⟨hi, nm_e hp⟩))⟩
  · rw [if_neg (fun z => z.elim h h8)] at hp
    refine ⟨hi, nm_e (br_f h (br_f h8 (br_c (fun h6 => ⟨hi, nm_e ?_⟩) (fun h6 => ⟨hi, nm_e ?_⟩))))⟩
    · rw [if_pos (Or.inr (Or.inr h6))] at hp; exact hp
    · rw [if_neg (fun z => z.elim h (fun y => y.elim h8 h6))] at hp; exact hp
end
