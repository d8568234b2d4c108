theorem zw_pair {k : Nat} {c p0 op a b a2 b2 : Int32} {O F G A B C C2 SB VB : Nat → Int32} {s : (Nat → Int32) × (Nat → Int32)} (hs : pm_all O F G = s) (hi : vp_in p0 16)
    (hw : ∀ i, i < 16 → pm_wf O F G i) (hc : ∀ i, i < 16 → pm_cl O F G A B C i)
    (hn : pm_wf (fun _ => op) (fun _ => a) (fun _ => b) 0) (hC : ∀ i, i ≠ p0.toNatClampNeg → C2 i = C i)
    (hcn : (op = -1 ∧ C2 p0.toNatClampNeg = a) ∨ (¬ op = -1 ∧ a2 = a ∧ b2 = b ∧ (op = 8 → a = 0 ∧ b = 0) ∧ (op = 6 → b = 0)))
    {post : SX → Prop}
    (hpost : ∀ (q0 : Int32) (q1 q2 q3 q4 q5 q6 q7 : Nat → Int32),
      (∀ (P : SY → Prop) (f : Int32) (oS oV : Nat → Int32), (∀ v, i_Rel (k + 5) (q0, q1, q2, q3, q4, q5, q6, q7) v → P v) →
        wpY_compare P (f, upd O p0.toNatClampNeg op, upd A p0.toNatClampNeg a2, upd B p0.toNatClampNeg b2, C2, s.1, s.2, pm_ua s.1 oS 16, pm_ua s.2 oV 16)) →
      post (q0, q1, q2, q3, q4, q5, q6, q7)) :
    wpX_hold post (c, O, F, G, s.1, s.2, SB, VB) p0 op a b := by
  have hiv := sv_all hw
  have hw2 := zw_wf hw p0.toNatClampNeg hn
  have hc2 := zw_cl (A := A) (B := B) hc p0.toNatClampNeg hC hcn
  have hA2 := zr_all hw2 hc2
  have hwY2 : ∀ i, i < 16 → pm_wf _ _ _ i := fun i hi => zr_wf (hw2 i hi) (hc2 i hi)
  have hR : ∀ SB2 VB2 x y : Nat → Int32, _ := fun SB2 VB2 x y => zr_set (k + 5) (pm_ch (pm_all (upd O p0.toNatClampNeg op) (upd F p0.toNatClampNeg a) (upd G p0.toNatClampNeg b)).1 (pm_all (upd O p0.toNatClampNeg op) (upd F p0.toNatClampNeg a) (upd G p0.toNatClampNeg b)).2 s.1 s.2 16 0 0) SB2 VB2 x y hw2 hc2
  rw [hs] at hiv
  refine xc_hold hi (fun k h => (hiv.2.2 k h).1) (fun k h => (hiv.2.2 k h).2) hw2 (fun SB2 VB2 => ?_)
  generalize pm_all (upd O p0.toNatClampNeg op) (upd F p0.toNatClampNeg a) (upd G p0.toNatClampNeg b) = s2 at hR hA2 ⊢
  refine hpost _ _ _ _ _ _ _ _ ?_
  intro P f oS oV hP
  exact zw_cmp hiv hwY2 hA2 (fun x y => hP _ (hR SB2 VB2 x y))
def zw_ok (p0 p1 p2 p3 : Int32) : Prop :=
  vp_in p0 16 ∧ (p1 = 8 ∨ (p1 = 6 ∧ vp_in p2 16) ∨ (p1 = 4 ∧ vp_in p2 16 ∧ ¬ p3 < -15 ∧ p3 ≤ 15) ∨ (zw_E p1 ∧ vp_in p2 16 ∧ vp_in p3 16))
theorem zw_xf {post : Int32 → SX → Prop} {c p0 p1 p2 p3 : Int32} {O F G S V SB VB : Nat → Int32}
    (hno : ¬ zw_ok p0 p1 p2 p3 → post 0 (c, O, F, G, S, V, SB, VB))
    (hyes : zw_ok p0 p1 p2 p3 → wX_formula_105 post p0 p1 (if p1 = 8 then 0 else p2) (if p1 = 8 ∨ p1 = 6 then 0 else p3) c O F G S V SB VB) :
    wpX_formula post (c, O, F, G, S, V, SB, VB) p0 p1 p2 p3 := by
  unfold wpX_formula; dsimp only
  by_cases hi : vp_in p0 16
  · refine ic_xy hi (br_f (by decide) (br_c (fun h => hno ?_) (fun h0 => br_c (fun h8 => ?_) (fun h8 => hno ?_))))
    · rintro ⟨_, e⟩
      rcases e with rfl | ⟨rfl, _⟩ | ⟨rfl, _⟩ | ⟨e, _⟩
      · exact absurd h (by decide)
      · exact absurd h (by decide)
      · exact absurd h (by decide)
      · exact (zw_Ef e).2.2.2.2.1 h
    · rcases zw_rng h0 (Int32.not_lt.mpr h8) with hE | rfl | rfl | rfl
      · obtain ⟨n1, n8, n6, n4, _⟩ := zw_Ef hE
        refine zw_f1 n1 n8 (br_f (by decide) ?_)
        by_cases ha : vp_in p2 16
        · refine ic_xy ha (br_f (by decide) (zw_n1 hE (br_f (by decide) ?_)))
          by_cases hb : vp_in p3 16
          · refine ic_xy hb (br_f (by decide) (br_f n4 (zw_f1 n1 n8 (br_f (by decide) (zw_n1 hE (br_f (by decide) ?_))))))
            have h := hyes ⟨hi, Or.inr (Or.inr (Or.inr ⟨hE, ha, hb⟩))⟩
            rw [if_neg n8, if_neg (fun z => z.elim n8 n6)] at h
            exact h
          · refine ic_xn hb (br_t rfl (hno ?_))
            rintro ⟨_, e⟩
            rcases e with e | ⟨e, _⟩ | ⟨e, _⟩ | ⟨_, _, e⟩
            · exact n8 e
            · exact n6 e
            · exact n4 e
            · exact hb e
        · refine ic_xn ha (br_t rfl (hno ?_))
          rintro ⟨_, e⟩
          rcases e with e | ⟨e, _⟩ | ⟨e, _⟩ | ⟨_, e, _⟩
          · exact n8 e
          · exact n6 e
          · exact n4 e
          · exact ha e
      · refine zw_f1 (by decide) (by decide) (br_f (by decide) ?_)
        by_cases ha : vp_in p2 16
        · refine ic_xy ha (br_f (by decide) (zw_n0 (Or.inr (Or.inr (Or.inr rfl))) (br_t rfl (br_t rfl (br_c (fun hl => hno ?_) (fun hl => br_c (fun hh => ?_) (fun hh => hno ?_)))))))
          · rintro ⟨_, e⟩
            rcases e with e | ⟨e, _⟩ | ⟨_, _, e, _⟩ | ⟨e, _⟩
            · exact absurd e (by decide)
            · exact absurd e (by decide)
            · exact e hl
            · exact (zw_Ef e).2.2.2.1 rfl
          · refine zw_f1 (by decide) (by decide) (br_f (by decide) (zw_n0 (Or.inr (Or.inr (Or.inr rfl))) (br_t rfl (br_t rfl ?_))))
            have h := hyes ⟨hi, Or.inr (Or.inr (Or.inl ⟨rfl, ha, hl, hh⟩))⟩
            rw [if_neg (by decide), if_neg (by decide)] at h
            exact h
          · rintro ⟨_, e⟩
            rcases e with e | ⟨e, _⟩ | ⟨_, _, _, e⟩ | ⟨e, _⟩
            · exact absurd e (by decide)
            · exact absurd e (by decide)
            · exact hh e
            · exact (zw_Ef e).2.2.2.1 rfl
        · refine ic_xn ha (br_t rfl (hno ?_))
          rintro ⟨_, e⟩
          rcases e with e | ⟨e, _⟩ | ⟨_, e, _⟩ | ⟨_, e, _⟩
          · exact absurd e (by decide)
          · exact absurd e (by decide)
          · exact ha e
          · exact ha e
      · refine zw_f1 (by decide) (by decide) (br_f (by decide) ?_)
        by_cases ha : vp_in p2 16
        · refine ic_xy ha (br_f (by decide) (zw_n0 (Or.inr (Or.inr (Or.inl rfl))) (br_t rfl (br_f (by decide) (zw_f1 (by decide) (by decide) (br_f (by decide) (zw_n0 (Or.inr (Or.inr (Or.inl rfl))) (br_t rfl (br_f (by decide) ?_)))))))))
          have h := hyes ⟨hi, Or.inr (Or.inl ⟨rfl, ha⟩)⟩
          rw [if_neg (by decide), if_pos (by decide)] at h
          exact h
        · refine ic_xn ha (br_t rfl (hno ?_))
          rintro ⟨_, e⟩
          rcases e with e | ⟨_, e⟩ | ⟨_, e, _⟩ | ⟨_, e, _⟩
          · exact absurd e (by decide)
          · exact ha e
          · exact ha e
          · exact ha e
      · refine zw_f0 (Or.inr rfl) (br_t rfl (zw_n0 (Or.inr (Or.inl rfl)) (br_t rfl (br_f (by decide) (zw_f0 (Or.inr rfl) (br_t rfl (zw_n0 (Or.inr (Or.inl rfl)) (br_t rfl (br_f (by decide) ?_)))))))))
        have h := hyes ⟨hi, Or.inl rfl⟩
        rw [if_pos (by decide), if_pos (by decide)] at h
        exact h
    · rintro ⟨_, e⟩
      rcases e with rfl | ⟨rfl, _⟩ | ⟨rfl, _⟩ | ⟨e, _⟩
      · exact absurd (by decide) h8
      · exact absurd (by decide) h8
      · exact absurd (by decide) h8
      · exact (zw_Ef e).2.2.2.2.2.2 (Int32.not_le.mp h8)
  · exact ic_xn hi (br_t rfl (hno (fun z => hi z.1)))
def zw_Fst (p1 p2 : Int32) : Prop := p1 = 8 ∨ vp_in p2 16
def zw_Sec (p1 p3 : Int32) : Prop := (p1 = 4 ∧ ¬ p3 < -15 ∧ ¬ 15 < p3) ∨ (¬ p1 = 4 ∧ (p1 = 6 ∨ p1 = 8 ∨ vp_in p3 16))
section
variable {post : Int32 → SY → Prop} {f p0 p1 p2 p3 : Int32} {O A B C S V oS oV : Nat → Int32}
theorem zw_y19 {y : Int32} (h : ∀ z : Int32, ((z = 0 ∧ ¬ zw_Sec p1 p3) ∨ (z = 1 ∧ zw_Sec p1 p3)) → wY_formula_74 post p0 p1 p2 p3 y z f O A B C S V oS oV) : wY_formula_19 post p0 p1 p2 p3 y f O A B C S V oS oV := by
  unfold wY_formula_19
  refine br_c (fun h4 => br_c (fun hl => h 0 (Or.inl ⟨rfl, ?_⟩)) (fun hl => br_c (fun hh => h 0 (Or.inl ⟨rfl, ?_⟩)) (fun hh => h 1 (Or.inr ⟨rfl, Or.inl ⟨h4, hl, hh⟩⟩)))) (fun h4 => br_c (fun h6 => h 1 (Or.inr ⟨rfl, Or.inr ⟨h4, Or.inl h6⟩⟩)) (fun h6 => br_c (fun h8 => h 1 (Or.inr ⟨rfl, Or.inr ⟨h4, Or.inr (Or.inl h8)⟩⟩)) (fun h8 => ?_)))
  · rintro (⟨_, e, _⟩ | ⟨e, _⟩)
    · exact e hl
    · exact e h4
  · rintro (⟨_, _, e⟩ | ⟨e, _⟩)
    · exact e hh
    · exact e h4
  · by_cases hb : vp_in p3 16
    · exact ic_yy hb (br_f (by decide) (h 1 (Or.inr ⟨rfl, Or.inr ⟨h4, Or.inr (Or.inr hb)⟩⟩)))
    · refine ic_yn hb (br_t rfl (h 0 (Or.inl ⟨rfl, ?_⟩)))
      rintro (⟨e, _⟩ | ⟨_, e | e | e⟩)
      · exact h4 e
      · exact h6 e
      · exact h8 e
      · exact hb e
theorem zw_yf (h : ∀ y z : Int32, ((y = 0 ∧ ¬ zw_Fst p1 p2) ∨ (y = 1 ∧ zw_Fst p1 p2)) → ((z = 0 ∧ ¬ zw_Sec p1 p3) ∨ (z = 1 ∧ zw_Sec p1 p3)) → wY_formula_74 post p0 p1 p2 p3 y z f O A B C S V oS oV) : wpY_formula post (f, O, A, B, C, S, V, oS, oV) p0 p1 p2 p3 := by
  unfold wpY_formula; dsimp only
  refine br_c (fun h8 => ?_) (fun h8 => ?_)
  · exact zw_y19 (fun z hz => h 1 z (Or.inr ⟨rfl, Or.inl h8⟩) hz)
  · by_cases ha : vp_in p2 16
    · exact ic_yy ha (br_f (by decide) (zw_y19 (fun z hz => h 1 z (Or.inr ⟨rfl, Or.inr ha⟩) hz)))
    · exact ic_yn ha (br_t rfl (zw_y19 (fun z hz => h 0 z (Or.inl ⟨rfl, fun e => e.elim h8 ha⟩) hz)))
theorem zw_74n {y z : Int32} (hno : ¬ zw_ok p0 p1 p2 p3) (hy : (y = 0 ∧ ¬ zw_Fst p1 p2) ∨ (y = 1 ∧ zw_Fst p1 p2)) (hz : (z = 0 ∧ ¬ zw_Sec p1 p3) ∨ (z = 1 ∧ zw_Sec p1 p3))
    (hp : post 0 (f, O, A, B, C, S, V, oS, oV)) : wY_formula_74 post p0 p1 p2 p3 y z f O A B C S V oS oV := by
  unfold wY_formula_74
  by_cases hi : vp_in p0 16
  · refine ic_yy hi (br_f (by decide) (br_c (fun _ => hp) (fun h0 => br_c (fun _ => hp) (fun h8 => br_c (fun _ => hp) (fun hy0 => br_c (fun _ => hp) (fun hz0 => ?_))))))
    exfalso
    apply hno
    refine ⟨hi, ?_⟩
    have hF : zw_Fst p1 p2 := by
      rcases hy with ⟨e, _⟩ | ⟨_, e⟩
      · exact absurd e hy0
      · exact e
    have hS : zw_Sec p1 p3 := by
      rcases hz with ⟨e, _⟩ | ⟨_, e⟩
      · exact absurd e hz0
      · exact e
    rcases zw_rng h0 h8 with hE | rfl | rfl | rfl
    · obtain ⟨n1, n8, n6, n4, _⟩ := zw_Ef hE
      refine Or.inr (Or.inr (Or.inr ⟨hE, ?_, ?_⟩))
      · rcases hF with e | e
        · exact absurd e n8
        · exact e
      · rcases hS with ⟨e, _⟩ | ⟨_, e | e | e⟩
        · exact absurd e n4
        · exact absurd e n6
        · exact absurd e n8
        · exact e
    · refine Or.inr (Or.inr (Or.inl ⟨rfl, ?_, ?_⟩))
      · rcases hF with e | e
        · exact absurd e (by decide)
        · exact e
      · rcases hS with ⟨_, e1, e2⟩ | ⟨e, _⟩
        · exact ⟨e1, Int32.not_lt.mp e2⟩
        · exact absurd rfl e
    · refine Or.inr (Or.inl ⟨rfl, ?_⟩)
      rcases hF with e | e
      · exact absurd e (by decide)
      · exact e
    · exact Or.inl rfl
  · exact ic_yn hi (br_t rfl hp)
end
theorem zw_fok {p0 p1 p2 p3 : Int32} (h : zw_ok p0 p1 p2 p3) :
    pm_wf (fun _ => p1) (fun _ => if p1 = 8 then 0 else p2) (fun _ => if p1 = 8 ∨ p1 = 6 then 0 else p3) 0 ∧
    (¬ p1 = -1 ∧ (if p1 < 0 ∨ p1 = 8 then 0 else p2) = (if p1 = 8 then 0 else p2) ∧ (if p1 < 0 ∨ p1 = 8 ∨ p1 = 6 then 0 else p3) = (if p1 = 8 ∨ p1 = 6 then 0 else p3) ∧
      (p1 = 8 → (if p1 = 8 then 0 else p2) = 0 ∧ (if p1 = 8 ∨ p1 = 6 then 0 else p3) = 0) ∧ (p1 = 6 → (if p1 = 8 ∨ p1 = 6 then 0 else p3) = 0)) ∧
    ¬ p1 < 0 ∧ ¬ 8 < p1 ∧ zw_Fst p1 p2 ∧ zw_Sec p1 p3 := by
  have hneg : ¬ p1 < 0 → ((p1 < 0 ∨ p1 = 8) ↔ p1 = 8) ∧ ((p1 < 0 ∨ p1 = 8 ∨ p1 = 6) ↔ (p1 = 8 ∨ p1 = 6)) := fun hn => ⟨⟨fun z => z.elim (fun y => absurd y hn) id, Or.inr⟩, ⟨fun z => z.elim (fun y => absurd y hn) id, Or.inr⟩⟩
  obtain ⟨hi, e⟩ := h
  have main : ¬ p1 < 0 ∧ ¬ 8 < p1 ∧ ¬ p1 = -1 := by
    rcases e with rfl | ⟨rfl, _⟩ | ⟨rfl, _⟩ | ⟨e, _⟩
    · decide
    · decide
    · decide
    · exact ⟨(zw_Ef e).2.2.2.2.1, (zw_Ef e).2.2.2.2.2.2, (zw_Ef e).1⟩
  obtain ⟨m0, m8, m1⟩ := main
  refine ⟨?_, ⟨m1, ?_, ?_, ?_, ?_⟩, m0, m8, ?_, ?_⟩
  · unfold pm_wf
    rcases e with rfl | ⟨rfl, ha⟩ | ⟨rfl, ha, _⟩ | ⟨e, ha, hb⟩
    · exact Or.inr (Or.inl rfl)
    · exact Or.inr (Or.inr ⟨ha, Or.inl rfl⟩)
    · exact Or.inr (Or.inr ⟨ha, Or.inr (Or.inl rfl)⟩)
    · obtain ⟨n1, n8, n6, n4, _⟩ := zw_Ef e
      rw [if_neg n8, if_neg (fun z => z.elim n8 n6)]
      exact Or.inr (Or.inr ⟨ha, Or.inr (Or.inr ⟨hb, e⟩)⟩)
  · by_cases h8 : p1 = 8
    · rw [if_pos (Or.inr h8), if_pos h8]
    · rw [if_neg (fun z => z.elim m0 h8), if_neg h8]
  · by_cases h8 : p1 = 8 ∨ p1 = 6
    · rw [if_pos (Or.inr h8), if_pos h8]
    · rw [if_neg (fun z => z.elim m0 h8), if_neg h8]
  · intro h8
    rw [if_pos h8, if_pos (Or.inl h8)]
    exact ⟨rfl, rfl⟩
  · intro h6
    rw [if_pos (Or.inr h6)]
  · rcases e with e | ⟨_, e⟩ | ⟨_, e, _⟩ | ⟨_, e, _⟩
    · exact Or.inl e
    · exact Or.inr e
    · exact Or.inr e
    · exact Or.inr e
  · rcases e with rfl | ⟨rfl, ha⟩ | ⟨rfl, _, e1, e2⟩ | ⟨e, _, hb⟩
    · exact Or.inr ⟨by decide, Or.inr (Or.inl rfl)⟩
    · exact Or.inr ⟨by decide, Or.inl rfl⟩
    · exact Or.inl ⟨rfl, e1, Int32.not_lt.mpr e2⟩
    · exact Or.inr ⟨(zw_Ef e).2.2.2.1, Or.inr (Or.inr hb)⟩
theorem i_vc_formula {k : Nat} {u : SX} {v : SY} (I : i_Rel k u v) (hk : k + 5 ≤ 2560) (v1 : Int32) (v2 : Int32) (v3 : Int32) (v4 : Int32) : wpX_formula (fun r u' => wpY_formula (fun r' v' => r' = r ∧ i_Rel (k + 5) u' v') v v1 v2 v3 v4) u v1 v2 v3 v4 := by
  have I2 := i_up I
  obtain ⟨c, O, F, G, SB, VB, A, B, C, S, V, oS, oV, rfl, rfl, hw, hc, hS, hV⟩ := I
  have hwY : ∀ i, i < 16 → pm_wf O A B i := fun i hi => zr_wf (hw i hi) (hc i hi)
  have hA := zr_all hw hc
  generalize hs : pm_all O F G = s at hA I2 ⊢
  refine zw_xf (fun hno => ?_) (fun hok => ?_)
  · exact zw_yf (fun y z hy hz => zw_74n hno hy hz ⟨rfl, I2⟩)
  · obtain ⟨hn, hcn, m0, m8, hF, hSc⟩ := zw_fok hok
    have hi := hok.1
    unfold wX_formula_105
    refine zw_pair (k := k) (C2 := C) hs hi hw hc hn (fun _ _ => rfl) (Or.inr hcn) ?_
    intro q0 q1 q2 q3 q4 q5 q6 q7 hcmp
    refine zw_yf (fun y z hy hz => ?_)
    have ey : y = 1 := by
      rcases hy with ⟨_, e⟩ | ⟨e, _⟩
      · exact absurd hF e
      · exact e
    have ez : z = 1 := by
      rcases hz with ⟨_, e⟩ | ⟨e, _⟩
      · exact absurd hSc e
      · exact e
    subst ey ez
    unfold wY_formula_74
    refine ic_yy hi (br_f (by decide) (br_f m0 (br_f m8 (br_f (by decide) (br_f (by decide) (yc_before hwY hS hV ?_))))))
    rw [hA]
    exact yc_hold hi (hcmp _ _ _ _ (fun v hv => ⟨rfl, hv⟩))
