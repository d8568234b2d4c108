section
variable {post : Int32 → Prop} {c : Int32} {O F G S V SB VB : Nat → Int32} {p0 : Int32}
theorem xb_e0 {i : Nat} (h : O i = 0 ∨ O i = 1 ∨ O i = 2 ∨ O i = 3 ∨ O i = 7) : pm_er O F G S V i = if S (F i).toNatClampNeg = 0 then S (G i).toNatClampNeg else S (F i).toNatClampNeg := by
  rcases h with h | h | h | h | h <;> simp [pm_er, h]
theorem xb_e4 {i : Nat} (h : O i = 4) : pm_er O F G S V i = if S (F i).toNatClampNeg = 0 then (if pm_tg F G S V i = -1 then 0 else S (pm_tg F G S V i).toNatClampNeg) else S (F i).toNatClampNeg := by
  simp [pm_er, h]
theorem xb_e5 {i : Nat} (h : O i = 5) : pm_er O F G S V i = if pm_sc S (pm_nd O F G S V i) 16 0 = 16 then 0 else S (pm_sc S (pm_nd O F G S V i) 16 0) := by
  simp [pm_er, h]
theorem xb_e6 {i : Nat} (h : O i = 6) : pm_er O F G S V i = 0 := by simp [pm_er, h]
theorem xb_e8 {i : Nat} (h : O i = 8) : pm_er O F G S V i = 0 := by simp [pm_er, h]
theorem xb_sE {i : Nat} (hF : vp_in (F i) 16) (hG : vp_in (G i) 16) (h : O i = 0 ∨ O i = 1 ∨ O i = 2 ∨ O i = 3 ∨ O i = 7) (hz : S (F i).toNatClampNeg = 0) :
    (if pm_sc S (pm_nd O F G S V i) 16 0 = 16 then 0 else S (pm_sc S (pm_nd O F G S V i) 16 0)) = S (G i).toNatClampNeg := by
  refine sv_one ?_ (sn_lt hG) (sn_G hG h)
  intro k hk hb
  rw [sn_e h, b_or, sn_b1 hF k (by omega), sn_b1 hG k (by omega)] at hb
  rcases Bool.or_eq_true _ _ ▸ hb with z | z
  · have e := of_decide_eq_true z
    subst e
    exact Or.inr hz
  · exact Or.inl (of_decide_eq_true z).symm
theorem xb_s4 {i : Nat} (hF : vp_in (F i) 16) (h : O i = 4) (hz : S (F i).toNatClampNeg = 0) :
    (if pm_sc S (pm_nd O F G S V i) 16 0 = 16 then 0 else S (pm_sc S (pm_nd O F G S V i) 16 0)) = if pm_tg F G S V i = -1 then 0 else S (pm_tg F G S V i).toNatClampNeg := by
  rcases sq_tg F G S V i with ht | ⟨_, ht, hn⟩
  · rw [if_pos ht]
    apply sv_non
    intro k hk hb
    rw [sn_4 h, if_pos ht, sn_b1 hF k (by omega)] at hb
    have e := of_decide_eq_true hb
    subst e
    exact hz
  · rw [if_neg hn]
    refine sv_one ?_ (sn_lt ht) (sn_T h ht hn)
    intro k hk hb
    rw [sn_4 h, if_neg hn, b_or, sn_b1 hF k (by omega), sn_b1 ht k (by omega)] at hb
    rcases Bool.or_eq_true _ _ ▸ hb with z | z
    · have e := of_decide_eq_true z
      subst e
      exact Or.inr hz
    · exact Or.inl (of_decide_eq_true z).symm
theorem xb_fe (hi : vp_in p0 16) (hw : pm_wf O F G p0.toNatClampNeg) (h1 : ¬ O p0.toNatClampNeg = -1) (hp : post (pm_er O F G S V p0.toNatClampNeg)) : wpX_firstError post (c, O, F, G, S, V, SB, VB) p0 (pm_nd O F G S V p0.toNatClampNeg) := by
  unfold wpX_firstError; dsimp only
  refine ⟨hi, nm_e ?_⟩
  rcases hw with h | h | ⟨hF, h | h | ⟨hG, h | h⟩⟩
  · exact absurd h h1
  · rw [xb_e8 h] at hp
    exact br_f (by rw [h]; decide) (br_t h hp)
  · rw [xb_e6 h] at hp
    exact br_t h hp
  · rw [xb_e4 h] at hp
    refine br_f (by rw [h]; decide) (br_f (by rw [h]; decide) (br_f (by rw [h]; decide) ⟨hi, hF, br_c (fun hz => ?_) (fun hz => ⟨hi, hF, ?_⟩)⟩))
    · rw [if_pos hz, ← xb_s4 hF h hz] at hp
      exact ⟨17, xa_sc post _ 16 0 rfl hp⟩
    · rw [if_neg hz] at hp; exact hp
  · rw [xb_e5 h] at hp
    exact br_f (by rw [h]; decide) (br_f (by rw [h]; decide) (br_t h ⟨17, xa_sc post _ 16 0 rfl hp⟩))
  · rw [xb_e0 h] at hp
    have n6 : ¬ O p0.toNatClampNeg = 6 := by rcases h with h | h | h | h | h <;> rw [h] <;> decide
    have n8 : ¬ O p0.toNatClampNeg = 8 := by rcases h with h | h | h | h | h <;> rw [h] <;> decide
    have n5 : ¬ O p0.toNatClampNeg = 5 := by rcases h with h | h | h | h | h <;> rw [h] <;> decide
    refine br_f n6 (br_f n8 (br_f n5 ⟨hi, hF, br_c (fun hz => ?_) (fun hz => ⟨hi, hF, ?_⟩)⟩))
    · rw [if_pos hz, ← xb_sE hF hG h hz] at hp
      exact ⟨17, xa_sc post _ 16 0 rfl hp⟩
    · rw [if_neg hz] at hp; exact hp
theorem xb_qu {a b : Int32} (hp : post (if b = 0 then 0 else a / b)) : wpX_quotient post a b := by
  refine br_c (fun h => ?_) (fun h => ⟨h, ?_⟩)
  · rw [if_pos h] at hp; exact hp
  · rw [if_neg h] at hp; exact hp
theorem xb_ov {oth nd : Int32} (hi : vp_in p0 16) (hw : pm_wf O F G p0.toNatClampNeg) (h1 : ¬ O p0.toNatClampNeg = -1) (h8 : ¬ O p0.toNatClampNeg = 8)
    (hv : ¬ O p0.toNatClampNeg = 5 → ¬ O p0.toNatClampNeg = 6 → vp_in oth 16) (hp : post (pm_ov O F S V p0.toNatClampNeg oth nd)) : wpX_ownValue post (c, O, F, G, S, V, SB, VB) p0 oth nd := by
  unfold wpX_ownValue; dsimp only
  unfold pm_ov at hp
  refine ⟨hi, nm_e ⟨hi, ?_⟩⟩
  rcases hw with h | h | ⟨hF, h | h | ⟨hG, h | h | h | h | h | h⟩⟩
  · exact absurd h h1
  · exact absurd h h8
  · rw [if_neg (by rw [h]; decide), if_neg (by rw [h]; decide), if_neg (by rw [h]; decide), if_neg (by rw [h]; decide), if_neg (by rw [h]; decide), if_neg (by rw [h]; decide), if_pos h] at hp
    refine nm_r h (br_f (by decide) (br_f (by decide) (br_f (by decide) (br_f (by decide) (br_f (by decide) (br_f (by decide) (br_f (by decide) (br_f (by decide) (br_t (by decide) ⟨hF, br_c (fun hz => ?_) (fun hz => ?_)⟩)))))))))
    · rw [if_pos hz] at hp; exact hp
    · rw [if_neg hz] at hp; exact hp
  · rw [if_neg (by rw [h]; decide), if_neg (by rw [h]; decide), if_neg (by rw [h]; decide), if_neg (by rw [h]; decide), if_pos h] at hp
    have ho := hv (by rw [h]; decide) (by rw [h]; decide)
    exact nm_r h (br_f (by decide) (br_f (by decide) (br_f (by decide) (br_f (by decide) (br_f (by decide) (br_f (by decide) (br_t (by decide) ⟨ho, hp⟩)))))))
  · rw [if_neg (by rw [h]; decide), if_neg (by rw [h]; decide), if_neg (by rw [h]; decide), if_neg (by rw [h]; decide), if_neg (by rw [h]; decide), if_pos h] at hp
    exact nm_r h (br_f (by decide) (br_f (by decide) (br_f (by decide) (br_f (by decide) (br_f (by decide) (br_f (by decide) (br_f (by decide) (br_t (by decide) ⟨17, xa_sm post nd 16 0 0 rfl hp⟩))))))))
  · rw [if_pos h] at hp
    have ho := hv (by rw [h]; decide) (by rw [h]; decide)
    exact nm_r h (br_f (by decide) (br_f (by decide) (br_t (by decide) ⟨hF, ho, hp⟩)))
  · rw [if_neg (by rw [h]; decide), if_pos h] at hp
    have ho := hv (by rw [h]; decide) (by rw [h]; decide)
    exact nm_r h (br_f (by decide) (br_f (by decide) (br_f (by decide) (br_t (by decide) ⟨hF, ho, hp⟩))))
  · rw [if_neg (by rw [h]; decide), if_neg (by rw [h]; decide), if_pos h] at hp
    have ho := hv (by rw [h]; decide) (by rw [h]; decide)
    exact nm_r h (br_f (by decide) (br_f (by decide) (br_f (by decide) (br_f (by decide) (br_t (by decide) ⟨hF, ho, hp⟩)))))
  · rw [if_neg (by rw [h]; decide), if_neg (by rw [h]; decide), if_neg (by rw [h]; decide), if_pos h] at hp
    have ho := hv (by rw [h]; decide) (by rw [h]; decide)
    exact nm_r h (br_f (by decide) (br_f (by decide) (br_f (by decide) (br_f (by decide) (br_f (by decide) (br_t (by decide) ⟨hF, ho, xb_qu hp⟩))))))
  · rw [if_neg (by rw [h]; decide), if_neg (by rw [h]; decide), if_neg (by rw [h]; decide), if_neg (by rw [h]; decide), if_neg (by rw [h]; decide), if_neg (by rw [h]; decide), if_neg (by rw [h]; decide)] at hp
    have ho := hv (by rw [h]; decide) (by rw [h]; decide)
    refine nm_r h (br_f (by decide) (br_f (by decide) (br_f (by decide) (br_f (by decide) (br_f (by decide) (br_f (by decide) (br_f (by decide) (br_f (by decide) (br_f (by decide) (br_t (by decide) ⟨hF, br_c (fun hz => ?_) (fun hz => ⟨ho, ?_⟩)⟩))))))))))
    · rw [if_pos hz] at hp; exact hp
    · rw [if_neg hz] at hp; exact hp
end
section
variable {post : SX → Prop} {c : Int32} {O F G S V SB VB : Nat → Int32} {p0 : Int32}
theorem xb_54 {z0 oth nd : Int32} (hi : vp_in p0 16) (hw : pm_wf O F G p0.toNatClampNeg) (h1 : ¬ O p0.toNatClampNeg = -1)
    (hv : z0 = 0 → ¬ O p0.toNatClampNeg = 8 ∧ (¬ O p0.toNatClampNeg = 5 → ¬ O p0.toNatClampNeg = 6 → vp_in oth 16))
    (hp : post (c, O, F, G, upd S p0.toNatClampNeg z0, upd V p0.toNatClampNeg (if z0 = 0 then pm_ov O F (upd S p0.toNatClampNeg z0) V p0.toNatClampNeg oth nd else 0), SB, VB)) :
    wX_settle_54 post p0 nd oth z0 c O F G S V SB VB := by
  unfold wX_settle_54
  refine ⟨hi, nm_e (br_c (fun hz => ?_) (fun hz => ⟨hi, nm_e ?_⟩))⟩
  · rw [if_pos hz] at hp
    exact xb_ov hi hw h1 (hv hz).1 (hv hz).2 ⟨hi, nm_e hp⟩
  · rw [if_neg hz] at hp; exact hp
theorem xb_os0 {V : Nat → Int32} {op oth : Int32} (h : pm_os V op oth = 0) : ¬ op = 8 ∧ (op = 4 → ¬ oth = -1) := by
  unfold pm_os at h
  constructor
  · intro z; rw [if_pos z] at h; exact absurd h (by decide)
  · intro z y
    rw [if_neg (by rw [z]; decide), if_pos z, if_pos y] at h
    exact absurd h (by decide)
theorem xb_ovu {i : Nat} {z oth nd : Int32} (h : O i = 6 → (F i).toNatClampNeg ≠ i) : pm_ov O F (upd S i z) V i oth nd = pm_ov O F S V i oth nd := by
  unfold pm_ov
  by_cases h6 : O i = 6
  · rw [pk_un (h h6)]
  · simp only [if_neg h6]
theorem xb_24 (hi : vp_in p0 16) (hw : pm_wf O F G p0.toNatClampNeg) (h1 : ¬ O p0.toNatClampNeg = -1)
    (hS : S p0.toNatClampNeg = 3) (hd : ∀ j, j < 16 → bt (pm_nd O F G S V p0.toNatClampNeg) j = true → ¬ S j = 3)
    (hp : post (c, O, F, G, upd S p0.toNatClampNeg (pm_st O F G S V p0.toNatClampNeg), upd V p0.toNatClampNeg (pm_vl O F G S V p0.toNatClampNeg), SB, VB)) :
    wX_settle_24 post p0 (pm_nd O F G S V p0.toNatClampNeg) (pm_oth O F G S V p0.toNatClampNeg) c O F G S V SB VB := by
  have hu : ∀ z, pm_ov O F (upd S p0.toNatClampNeg z) V p0.toNatClampNeg (pm_oth O F G S V p0.toNatClampNeg) (pm_nd O F G S V p0.toNatClampNeg) = pm_ov O F S V p0.toNatClampNeg (pm_oth O F G S V p0.toNatClampNeg) (pm_nd O F G S V p0.toNatClampNeg) := by
    intro z
    apply xb_ovu
    intro h6 e
    obtain ⟨hF, hb⟩ := sn_F (S := S) (V := V) hw h1 (by rw [h6]; decide) (by rw [h6]; decide)
    have := hd _ (sn_lt hF) hb
    rw [e] at this
    exact this hS
  unfold wX_settle_24
  refine xb_fe hi hw h1 (br_c (fun he => ⟨hi, ?_⟩) (fun he => ?_))
  · have est : pm_st O F G S V p0.toNatClampNeg = pm_os V (O p0.toNatClampNeg) (pm_oth O F G S V p0.toNatClampNeg) := if_pos he
    refine xa_os ?_ ?_
    · intro h3
      rcases hw with h | h | ⟨hF, h | h | ⟨hG, h⟩⟩
      · exact absurd h h1
      · rw [h] at h3; exact absurd h3 (by decide)
      · rw [h] at h3; exact absurd h3 (by decide)
      · rw [h] at h3; exact absurd h3 (by decide)
      · unfold pm_oth
        rw [if_neg (by rw [h3]; decide)]; exact hG
    · rw [← est]
      refine xb_54 hi hw h1 ?_ ?_
      · intro hz
        rw [est] at hz
        obtain ⟨h8, h4⟩ := xb_os0 hz
        refine ⟨h8, fun n5 n6 => ?_⟩
        rcases hw with h | h | ⟨hF, h | h | ⟨hG, h | h⟩⟩
        · exact absurd h h1
        · exact absurd h h8
        · exact absurd h n6
        · have ht := h4 h
          have eo : pm_oth O F G S V p0.toNatClampNeg = pm_tg F G S V p0.toNatClampNeg := if_pos h
          rw [eo] at ht ⊢
          rcases sq_tg F G S V p0.toNatClampNeg with y | ⟨_, y, _⟩
          · exact absurd y ht
          · exact y
        · exact absurd h n5
        · have eo : pm_oth O F G S V p0.toNatClampNeg = G p0.toNatClampNeg := if_neg (by rcases h with h | h | h | h | h <;> rw [h] <;> decide)
          rw [eo]; exact hG
      · rw [hu]; exact hp
  · have est : pm_st O F G S V p0.toNatClampNeg = pm_er O F G S V p0.toNatClampNeg := if_neg he
    rw [← est]
    rw [← est] at he
    refine xb_54 hi hw h1 (fun z => absurd z he) ?_
    rw [hu]; exact hp
theorem xb_settle (hi : vp_in p0 16) (hw : pm_wf O F G p0.toNatClampNeg) (h1 : ¬ O p0.toNatClampNeg = -1)
    (hS : S p0.toNatClampNeg = 3) (hd : ∀ j, j < 16 → bt (pm_nd O F G S V p0.toNatClampNeg) j = true → ¬ S j = 3)
    (hp : post (c, O, F, G, upd S p0.toNatClampNeg (pm_st O F G S V p0.toNatClampNeg), upd V p0.toNatClampNeg (pm_vl O F G S V p0.toNatClampNeg), SB, VB)) :
    wpX_settle post (c, O, F, G, S, V, SB, VB) p0 (pm_nd O F G S V p0.toNatClampNeg) := by
  have hx := xb_24 (post := post) (c := c) (SB := SB) (VB := VB) hi hw h1 hS hd hp
  unfold wpX_settle; dsimp only
  refine ⟨hi, br_c (fun h4 => ?_) (fun h4 => ⟨hi, ?_⟩)⟩
  · have eo : pm_oth O F G S V p0.toNatClampNeg = pm_tg F G S V p0.toNatClampNeg := if_pos h4
    rw [eo] at hx
    refine xa_tt hi ?_ hx
    rcases hw with h | h | ⟨hF, _⟩
    · rw [h] at h4; exact absurd h4 (by decide)
    · rw [h] at h4; exact absurd h4 (by decide)
    · exact hF
  · have eo : pm_oth O F G S V p0.toNatClampNeg = G p0.toNatClampNeg := if_neg h4
    rw [eo] at hx
    exact hx
end
