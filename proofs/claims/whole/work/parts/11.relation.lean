section
variable {O F G A B C : Nat → Int32}
/-- a cell that holds the same on both sides -/
def pm_cl (O F G A B C : Nat → Int32) (i : Nat) : Prop :=
  (O i = -1 ∧ C i = F i) ∨ (¬ O i = -1 ∧ A i = F i ∧ B i = G i ∧ (O i = 8 → F i = 0 ∧ G i = 0) ∧ (O i = 6 → G i = 0))
theorem zr_wf {i : Nat} (hw : pm_wf O F G i) (hc : pm_cl O F G A B C i) : pm_wf O A B i := by
  rcases hc with ⟨h, _⟩ | ⟨_, ea, eb, _, _⟩
  · exact Or.inl h
  · unfold pm_wf at hw ⊢
    rw [ea, eb]; exact hw
theorem zr_tg {S V : Nat → Int32} {i : Nat} (ea : A i = F i) (eb : B i = G i) : pm_tg A B S V i = pm_tg F G S V i := by
  unfold pm_tg; rw [ea, eb]
theorem zr_nd {S V : Nat → Int32} {i : Nat} (hc : pm_cl O F G A B C i) : pm_nd O A B S V i = pm_nd O F G S V i := by
  rcases hc with ⟨h, _⟩ | ⟨_, ea, eb, _, _⟩
  · rw [sn_m1 h, sn_m1 h]
  · unfold pm_nd; rw [zr_tg ea eb, ea, eb]
theorem zr_st {S V : Nat → Int32} {i : Nat} (hn : pm_nd O A B S V i = pm_nd O F G S V i) (ea : A i = F i) (eb : B i = G i) : pm_st O A B S V i = pm_st O F G S V i ∧ pm_vl O A B S V i = pm_vl O F G S V i := by
  have e1 : pm_er O A B S V i = pm_er O F G S V i := by
    unfold pm_er; rw [hn, zr_tg ea eb, ea, eb]
  have e2 : pm_oth O A B S V i = pm_oth O F G S V i := by
    unfold pm_oth; rw [zr_tg ea eb, eb]
  have e3 : pm_st O A B S V i = pm_st O F G S V i := by
    unfold pm_st; rw [e1, e2]
  refine ⟨e3, ?_⟩
  unfold pm_vl
  rw [e3, e2, hn]
  unfold pm_ov
  rw [ea]
theorem zr_step {i : Nat} {s : (Nat → Int32) × (Nat → Int32)} (hc : pm_cl O F G A B C i) (hi : i < 16) (hiv : pm_iv O s) : pm_step O A B i s = pm_step O F G i s := by
  have hn := zr_nd (S := s.1) (V := s.2) hc
  rcases hc with ⟨h, _⟩ | ⟨_, ea, eb, _, _⟩
  · have h3 := hiv.2.1 i hi h
    unfold pm_step
    rw [if_neg (fun z => h3 z.1), if_neg (fun z => h3 z.1)]
  · obtain ⟨e1, e2⟩ := zr_st hn ea eb
    unfold pm_step
    rw [hn, e1, e2]
theorem zr_row (hw : ∀ i, i < 16 → pm_wf O F G i) (hc : ∀ i, i < 16 → pm_cl O F G A B C i) : ∀ (d j : Nat) (s : (Nat → Int32) × (Nat → Int32)), j + d = 16 → pm_iv O s → pm_row O A B d j s = pm_row O F G d j s := by
  intro d
  induction d with
  | zero => intro j s _ _; rfl
  | succ d ih =>
    intro j s hj hiv
    unfold pm_row
    rw [zr_step (hc j (by omega)) (by omega) hiv]
    exact ih (j + 1) _ (by omega) (sv_step (hw j (by omega)) (by omega) hiv)
theorem zr_run (hw : ∀ i, i < 16 → pm_wf O F G i) (hc : ∀ i, i < 16 → pm_cl O F G A B C i) : ∀ (d : Nat) (s : (Nat → Int32) × (Nat → Int32)), pm_iv O s → pm_run O A B d s = pm_run O F G d s := by
  intro d
  induction d with
  | zero => intro s _; rfl
  | succ d ih =>
    intro s hiv
    unfold pm_run
    rw [zr_row hw hc 16 0 s rfl hiv]
    exact ih _ (sv_row hw 16 0 s rfl hiv)
theorem zr_v0 (hc : ∀ i, i < 16 → pm_cl O F G A B C i) : pm_v0 O C = pm_v0 O F := by
  funext j
  unfold pm_v0
  by_cases h : j < 16
  · rw [if_pos h, if_pos h]
    rcases hc j h with ⟨_, e⟩ | ⟨e, _⟩
    · rw [e]
    · rw [if_neg e, if_neg e]
  · rw [if_neg h, if_neg h]
theorem zr_all (hw : ∀ i, i < 16 → pm_wf O F G i) (hc : ∀ i, i < 16 → pm_cl O F G A B C i) : pm_yall O A B C = pm_all O F G := by
  unfold pm_yall pm_all
  rw [zr_v0 hc]
  exact zr_run hw hc 16 _ sv_0
end
/-- both sheets hold the same cells; X's states and values are the settled ones -/
def i_Rel (_ : Nat) (u : SX) (v : SY) : Prop :=
  ∃ (c : Int32) (O F G SB VB A B C S V oS oV : Nat → Int32),
    u = (c, O, F, G, (pm_all O F G).1, (pm_all O F G).2, SB, VB) ∧ v = (c, O, A, B, C, S, V, oS, oV) ∧
    (∀ i, i < 16 → pm_wf O F G i) ∧ (∀ i, i < 16 → pm_cl O F G A B C i) ∧ (∀ k, 16 ≤ k → S k = 0) ∧ (∀ k, 16 ≤ k → V k = 0)
theorem i_up {k : Nat} {u : SX} {v : SY} (h : i_Rel k u v) : i_Rel (k + 5) u v := h
theorem zr_set {O F G A B C : Nat → Int32} (k : Nat) (c : Int32) (SB VB oS oV : Nat → Int32) (hw : ∀ i, i < 16 → pm_wf O F G i) (hc : ∀ i, i < 16 → pm_cl O F G A B C i) :
    i_Rel k (c, O, F, G, (pm_all O F G).1, (pm_all O F G).2, SB, VB) (c, O, A, B, C, (pm_all O F G).1, (pm_all O F G).2, oS, oV) :=
  ⟨c, O, F, G, SB, VB, A, B, C, _, _, oS, oV, rfl, rfl, hw, hc, fun k h => ((sv_all hw).2.2 k h).1, fun k h => ((sv_all hw).2.2 k h).2⟩
theorem ic_xy {post : Int32 → Prop} {p0 : Int32} (h : vp_in p0 16) (hp : post 1) : wpX_isCell post p0 := by
  obtain ⟨k, hk, rfl, _⟩ := sq_in h
  exact br_f (sq_k k hk).2.1 (br_f (sb_n16 hk) hp)
theorem ic_15 {j : Nat} (h : j < 2 ^ 31) (h2 : 16 ≤ j) : (15 : Int32) < nI j := nI_lt (a := 15) (by omega) h
theorem ic_n15 : ∀ k, k < 16 → ¬ (15 : Int32) < nI k := by decide +kernel
theorem ic_xn {post : Int32 → Prop} {p0 : Int32} (h : ¬ vp_in p0 16) (hp : post 0) : wpX_isCell post p0 := by
  by_cases h0 : p0 < 0
  · exact br_t h0 hp
  · obtain ⟨j, hj, rfl⟩ := nI_of h0
    have h2 : 16 ≤ j := by
      rcases Nat.lt_or_ge j 16 with y | y
      · exact absurd (vp_in_nI y (by decide)) h
      · exact y
    exact br_f h0 (br_t (sb_g16 h2 hj) hp)
theorem ic_yy {post : Int32 → Prop} {u : SY} {p0 : Int32} (h : vp_in p0 16) (hp : post 1) : wpY_is post u p0 := by
  obtain ⟨_, _, _, _, _, _, _, _, _⟩ := u
  obtain ⟨k, hk, rfl, _⟩ := sq_in h
  exact br_f (sq_k k hk).2.1 (br_f (ic_n15 k hk) hp)
theorem ic_yn {post : Int32 → Prop} {u : SY} {p0 : Int32} (h : ¬ vp_in p0 16) (hp : post 0) : wpY_is post u p0 := by
  obtain ⟨_, _, _, _, _, _, _, _, _⟩ := u
  by_cases h0 : p0 < 0
  · exact br_t h0 hp
  · obtain ⟨j, hj, rfl⟩ := nI_of h0
    have h2 : 16 ≤ j := by
      rcases Nat.lt_or_ge j 16 with y | y
      · exact absurd (vp_in_nI y (by decide)) h
      · exact y
    exact br_f h0 (br_t (ic_15 hj h2) hp)
theorem zr_xi (post : SX → Prop) (hp : post (0, pm_ua (fun _ => -1) (fun _ => 0) 16, fun _ => 0, fun _ => 0, fun _ => 0, fun _ => 0, fun _ => 0, fun _ => 0)) :
    ∀ d j : Nat, j + d = 16 → wX_init_67 post 0 (d + 1) (nI j) (pm_ua (fun _ => -1) (fun _ => 0) j) (fun _ => 0) (fun _ => 0) (fun _ => 0) (fun _ => 0) (fun _ => 0) (fun _ => 0) := by
  intro d
  induction d with
  | zero =>
    intro j hj
    obtain rfl : j = 16 := by omega
    exact br_t (sb_g16 (by omega) (by omega)) hp
  | succ d ih =>
    intro j hj
    have hin : vp_in (nI j) 16 := vp_in_nI (by omega) (by decide)
    have ec : (nI j).toNatClampNeg = j := nI_clamp (by omega)
    have hn := sb_n16 (j := j) (by omega)
    have e := xc_uas (fun _ => -1) (fun _ => 0) j
    exact br_f hn ⟨hin, nm_r (by rw [ec]; exact e) (nm_r (nI_1 j) (ih (j + 1) (by omega)))⟩
theorem zr_yi (post : SY → Prop) (hp : post (0, pm_ua (fun _ => -1) (fun _ => 0) 16, fun _ => 0, fun _ => 0, fun _ => 0, fun _ => 0, fun _ => 0, fun _ => 0, fun _ => 0)) :
    ∀ d j : Nat, j + d = 16 → wY_init_70 post 0 (d + 1) (nI j) (pm_ua (fun _ => -1) (fun _ => 0) j) (fun _ => 0) (fun _ => 0) (fun _ => 0) (fun _ => 0) (fun _ => 0) (fun _ => 0) (fun _ => 0) := by
  intro d
  induction d with
  | zero =>
    intro j hj
    obtain rfl : j = 16 := by omega
    exact br_t (sb_g16 (by omega) (by omega)) hp
  | succ d ih =>
    intro j hj
    have hin : vp_in (nI j) 16 := vp_in_nI (by omega) (by decide)
    have ec : (nI j).toNatClampNeg = j := nI_clamp (by omega)
    have hn := sb_n16 (j := j) (by omega)
    have e := xc_uas (fun _ => -1) (fun _ => 0) j
    exact br_f hn ⟨hin, nm_r (by rw [ec]; exact e) (nm_r (nI_1 j) (ih (j + 1) (by omega)))⟩
theorem zr_0 : pm_all (pm_ua (fun _ => -1) (fun _ => 0) 16) (fun _ => 0) (fun _ => 0) = (fun _ => 0, fun _ => 0) := by
  have es : pm_s0 (pm_ua (fun _ => -1) (fun _ => 0) 16) = fun _ => 0 := by
    funext j
    unfold pm_s0
    by_cases h : j < 16
    · rw [if_pos h, xc_ual _ _ h, if_pos rfl]
    · rw [if_neg h]
  have ev : pm_v0 (pm_ua (fun _ => -1) (fun _ => 0) 16) (fun _ => 0) = fun _ => 0 := by
    funext j
    unfold pm_v0
    by_cases h : j < 16
    · rw [if_pos h, xc_ual _ _ h, if_pos rfl]
    · rw [if_neg h]
  unfold pm_all
  rw [es, ev]
  exact sv_idrun (fun j _ => by show ¬ (0 : Int32) = 3; decide) 16
theorem i_vc0 : wpX_init (fun u => wpY_init (fun v => i_Rel 0 u v)) := by
  refine ⟨17, ?_⟩
  have hx := zr_xi (fun u => wpY_init (fun v => i_Rel 0 u v)) ?_ 16 0 rfl
  · rw [xc_ua0] at hx
    exact hx
  · refine ⟨17, ?_⟩
    have hy := zr_yi (fun v => i_Rel 0 (0, pm_ua (fun _ => -1) (fun _ => 0) 16, fun _ => 0, fun _ => 0, fun _ => 0, fun _ => 0, fun _ => 0, fun _ => 0) v) ?_ 16 0 rfl
    · rw [xc_ua0] at hy
      exact hy
    · refine ⟨0, pm_ua (fun _ => -1) (fun _ => 0) 16, fun _ => 0, fun _ => 0, fun _ => 0, fun _ => 0, fun _ => 0, fun _ => 0, fun _ => 0, fun _ => 0, fun _ => 0, fun _ => 0, fun _ => 0, ?_, rfl, ?_, ?_, fun _ _ => rfl, fun _ _ => rfl⟩
      · rw [zr_0]
      · intro i hi
        exact Or.inl (xc_ual _ _ hi)
      · intro i hi
        exact Or.inl ⟨xc_ual _ _ hi, rfl⟩
