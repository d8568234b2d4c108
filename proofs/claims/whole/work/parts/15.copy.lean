/-- what a copy leaves in its cell -/
def zk_t (O F G : Nat → Int32) (n : Nat) (d op a b : Int32) : Prop :=
  ((O n = -1 ∨ O n = 8) ∧ op = O n ∧ a = F n ∧ b = G n) ∨
  ((O n = 6 ∨ O n = 4) ∧ vp_in (F n + d) 16 ∧ op = O n ∧ a = F n + d ∧ b = G n) ∨
  (zw_E (O n) ∧ vp_in (F n + d) 16 ∧ vp_in (G n + d) 16 ∧ op = O n ∧ a = F n + d ∧ b = G n + d) ∨
  ((((O n = 6 ∨ O n = 4) ∧ ¬ vp_in (F n + d) 16) ∨ (zw_E (O n) ∧ (¬ vp_in (F n + d) 16 ∨ ¬ vp_in (G n + d) 16))) ∧ op = 8 ∧ a = 0 ∧ b = 0)
section
variable {post : Int32 → SX → Prop} {c p0 p1 x3 x4 x5 z : Int32} {O F G S V SB VB : Nat → Int32}
theorem zk_70 (h : wX_copy_72 post p0 p1 x3 x4 x5 z c O F G S V SB VB) : wX_copy_70 post p0 p1 x3 x4 x5 z c O F G S V SB VB := h
theorem zk_105 (h : wX_copy_107 post p1 x3 x4 x5 z c O F G S V SB VB) : wX_copy_105 post p1 x3 x4 x5 z c O F G S V SB VB := h
theorem zk_100 (h : wX_copy_107 post p1 x3 x4 x5 1 c O F G S V SB VB) : wX_copy_100 post p1 x3 x4 x5 c O F G S V SB VB := h
end
theorem zk_x {post : Int32 → SX → Prop} {c p0 p1 : Int32} {O F G S V SB VB : Nat → Int32} (hi : vp_in p0 16) (ht : vp_in p1 16) (hw : pm_wf O F G p0.toNatClampNeg)
    (h : ∀ op a b : Int32, zk_t O F G p0.toNatClampNeg (p1 - p0) op a b → wX_copy_107 post p1 op a b 0 c O F G S V SB VB) :
    wpX_copy post (c, O, F, G, S, V, SB, VB) p0 p1 := by
  unfold wpX_copy; dsimp only
  refine ic_xy hi (br_f (by decide) (ic_xy ht (br_f (by decide) ⟨hi, nm_e ⟨hi, nm_e ⟨hi, nm_e ?_⟩⟩⟩)))
  have hlost : ∀ op a b : Int32, zk_t O F G p0.toNatClampNeg (p1 - p0) 8 0 0 → wX_copy_107 post p1 op a b 1 c O F G S V SB VB := by
    intro op a b hz
    have h8 := h 8 0 0 hz
    unfold wX_copy_107 at h8 ⊢
    exact br_f (by decide) (h8.1 rfl)
  have hsmall : (O p0.toNatClampNeg = 6 ∨ O p0.toNatClampNeg = 4) → wpX_namesFirst (fun r_11 => (((r_11 = 0 → (wX_copy_72 post p0 p1 (O p0.toNatClampNeg) (F p0.toNatClampNeg) (G p0.toNatClampNeg) 0 c O F G S V SB VB)) ∧ (¬ r_11 = 0 → (∀ x4_38 : Int32, x4_38 = (F p0.toNatClampNeg) + (p1 - p0) → (wpX_isCell (fun r_39 => (((r_39 = 0 → (wX_copy_70 post p0 p1 (O p0.toNatClampNeg) x4_38 (G p0.toNatClampNeg) 1 c O F G S V SB VB)) ∧ (¬ r_39 = 0 → (wX_copy_70 post p0 p1 (O p0.toNatClampNeg) x4_38 (G p0.toNatClampNeg) 0 c O F G S V SB VB))))) x4_38)))))) (O p0.toNatClampNeg) := by
    intro h64
    refine zw_f1 (by rcases h64 with e | e <;> rw [e] <;> decide) (by rcases h64 with e | e <;> rw [e] <;> decide) (br_f (by decide) (nm_e ?_))
    by_cases hF : vp_in (F p0.toNatClampNeg + (p1 - p0)) 16
    · exact ic_xy hF (br_f (by decide) (zk_70 (zw_n0 (Or.inr (Or.inr h64)) (br_t rfl (h _ _ _ (Or.inr (Or.inl ⟨h64, hF, rfl, rfl, rfl⟩)))))))
    · exact ic_xn hF (br_t rfl (zk_70 (zw_n0 (Or.inr (Or.inr h64)) (br_t rfl (hlost _ _ _ (Or.inr (Or.inr (Or.inr ⟨Or.inl ⟨h64, hF⟩, rfl, rfl, rfl⟩))))))))
  rcases hw with e | e | ⟨_, e | e | ⟨_, hE⟩⟩
  · exact zw_f0 (Or.inl e) (br_t rfl (zw_n0 (Or.inl e) (br_t rfl (h _ _ _ (Or.inl ⟨Or.inl e, rfl, rfl, rfl⟩)))))
  · exact zw_f0 (Or.inr e) (br_t rfl (zw_n0 (Or.inr (Or.inl e)) (br_t rfl (h _ _ _ (Or.inl ⟨Or.inr e, rfl, rfl, rfl⟩)))))
  · exact hsmall (Or.inl e)
  · exact hsmall (Or.inr e)
  · have hE2 : zw_E (O p0.toNatClampNeg) := hE
    obtain ⟨n1, n8, n6, n4, _⟩ := zw_Ef hE2
    refine zw_f1 n1 n8 (br_f (by decide) (nm_e ?_))
    by_cases hF : vp_in (F p0.toNatClampNeg + (p1 - p0)) 16
    · refine ic_xy hF (br_f (by decide) (zk_70 (zw_n1 hE2 (br_f (by decide) (nm_e (br_t rfl ?_))))))
      by_cases hG : vp_in (G p0.toNatClampNeg + (p1 - p0)) 16
      · exact ic_xy hG (br_f (by decide) (zk_105 (h _ _ _ (Or.inr (Or.inr (Or.inl ⟨hE2, hF, hG, rfl, rfl, rfl⟩))))))
      · exact ic_xn hG (br_t rfl (zk_100 (hlost _ _ _ (Or.inr (Or.inr (Or.inr ⟨Or.inr ⟨hE2, Or.inr hG⟩, rfl, rfl, rfl⟩))))))
    · exact ic_xn hF (br_t rfl (zk_70 (zw_n1 hE2 (br_f (by decide) (nm_e (br_f (by decide) (zk_100 (hlost _ _ _ (Or.inr (Or.inr (Or.inr ⟨Or.inr ⟨hE2, Or.inl hF⟩, rfl, rfl, rfl⟩)))))))))))
theorem zk_ar (a b c : Int32) : a + b - c = a + (b - c) := by grind
section
variable {Q : Int32 → SY → Prop} {f p0 p1 : Int32} {O A B C S V oS oV : Nat → Int32}
theorem zk_117 {x3 x4 x5 : Int32} (hi : vp_in p0 16) (ht : vp_in p1 16) (h : wY_copy_144 Q x4 x5 x3 p1 f O A B (upd C p1.toNatClampNeg (C p0.toNatClampNeg)) S V oS oV) : wY_copy_117 Q p0 p1 x3 x4 x5 0 f O A B C S V oS oV :=
  ⟨hi, ht, nm_e (br_t rfl h)⟩
theorem zk_118 {x3 x4 x5 : Int32} (hi : vp_in p0 16) (ht : vp_in p1 16) (h : wY_copy_144 Q x4 x5 8 p1 f O A B (upd C p1.toNatClampNeg (C p0.toNatClampNeg)) S V oS oV) : wY_copy_117 Q p0 p1 x3 x4 x5 1 f O A B C S V oS oV :=
  ⟨hi, ht, nm_e (br_f (by decide) h)⟩
end
theorem zk_y {Q : Int32 → SY → Prop} {f p0 p1 op a b : Int32} {O F G A B C S V oS oV : Nat → Int32} {s : (Nat → Int32) × (Nat → Int32)} (hi : vp_in p0 16) (ht : vp_in p1 16)
    (hwY : ∀ i, i < 16 → pm_wf O A B i) (hS : ∀ k, 16 ≤ k → S k = 0) (hV : ∀ k, 16 ≤ k → V k = 0) (hA : pm_yall O A B C = s)
    (hc : pm_cl O F G A B C p0.toNatClampNeg) (hz : zk_t O F G p0.toNatClampNeg (p1 - p0) op a b)
    (h : ∀ a2 b2 : Int32, ((op = -1 ∧ C p0.toNatClampNeg = a) ∨ (¬ op = -1 ∧ (if op < 0 ∨ op = 8 then 0 else a2) = a ∧ (if op < 0 ∨ op = 8 ∨ op = 6 then 0 else b2) = b ∧ (op = 8 → a = 0 ∧ b = 0) ∧ (op = 6 → b = 0))) →
      wY_copy_144 Q a2 b2 op p1 f O A B (upd C p1.toNatClampNeg (C p0.toNatClampNeg)) s.1 s.2 (pm_ua s.1 oS 16) (pm_ua s.2 oV 16)) :
    wpY_copy Q (f, O, A, B, C, S, V, oS, oV) p0 p1 := by
  unfold wpY_copy; dsimp only
  refine ic_yy hi (br_f (by decide) (ic_yy ht (br_f (by decide) (yc_before hwY hS hV ?_))))
  rw [hA]
  refine ⟨hi, nm_e ⟨hi, nm_e ?_⟩⟩
  dsimp only
  rw [zk_ar, zk_ar]
  rcases hz with ⟨e, rfl, rfl, rfl⟩ | ⟨e, hF, rfl, rfl, rfl⟩ | ⟨hE, hF, hG, rfl, rfl, rfl⟩ | ⟨e, rfl, rfl, rfl⟩
  · have n4 : ¬ O p0.toNatClampNeg = 4 := by rcases e with e | e <;> rw [e] <;> decide
    have n6 : ¬ O p0.toNatClampNeg = 6 := by rcases e with e | e <;> rw [e] <;> decide
    refine br_f n4 (br_f n6 ⟨hi, ?_⟩)
    have hx := h (A p0.toNatClampNeg + (p1 - p0)) (B p0.toNatClampNeg + (p1 - p0)) (by
      rcases hc with ⟨ho, ec⟩ | ⟨ho, ea, eb, e8, e6⟩
      · exact Or.inl ⟨ho, ec⟩
      · rcases e with e | e
        · exact absurd e ho
        · rw [if_pos (Or.inr e), if_pos (Or.inr (Or.inl e))]
          exact Or.inr ⟨ho, (e8 e).1.symm, (e8 e).2.symm, e8, e6⟩)
    rcases e with e | e
    · exact br_t (by rw [e]; decide) (zk_117 hi ht hx)
    · exact br_f (by rw [e]; decide) (br_t (by rw [e]; decide) (zk_117 hi ht hx))
  · have n1 : ¬ O p0.toNatClampNeg = -1 := by rcases e with e | e <;> rw [e] <;> decide
    have n8 : ¬ O p0.toNatClampNeg = 8 := by rcases e with e | e <;> rw [e] <;> decide
    have n0 : ¬ O p0.toNatClampNeg < 0 := by rcases e with e | e <;> rw [e] <;> decide
    have m8 : ¬ 8 ≤ O p0.toNatClampNeg := by rcases e with e | e <;> rw [e] <;> decide
    rcases hc with ⟨ho, _⟩ | ⟨ho, ea, eb, e8, e6⟩
    · exact absurd ho n1
    · have hx := h (A p0.toNatClampNeg + (p1 - p0)) (B p0.toNatClampNeg) (by
        rw [if_neg (fun z => z.elim n0 n8), ea]
        refine Or.inr ⟨ho, rfl, ?_, fun z => absurd z n8, e6⟩
        by_cases h6 : O p0.toNatClampNeg = 6
        · rw [if_pos (Or.inr (Or.inr h6)), e6 h6]
        · rw [if_neg (fun z => z.elim n0 (fun y => y.elim n8 h6)), eb])
      have hF2 : vp_in (A p0.toNatClampNeg + (p1 - p0)) 16 := by rw [ea]; exact hF
      rcases e with e | e
      · exact br_f (by rw [e]; decide) (br_t e ⟨hi, br_f n0 (br_f m8 (ic_yy hF2 (br_f (by decide) (br_f (by rw [e]; decide) (br_t e (zk_117 hi ht hx))))))⟩)
      · exact br_t e ⟨hi, br_f n0 (br_f m8 (ic_yy hF2 (br_f (by decide) (br_t e (zk_117 hi ht hx)))))⟩
  · obtain ⟨n1, n8, n6, n4, n0, m8, _⟩ := zw_Ef hE
    rcases hc with ⟨ho, _⟩ | ⟨ho, ea, eb, e8, e6⟩
    · exact absurd ho n1
    · have hx := h (A p0.toNatClampNeg + (p1 - p0)) (B p0.toNatClampNeg + (p1 - p0)) (by
        rw [if_neg (fun z => z.elim n0 n8), if_neg (fun z => z.elim n0 (fun y => y.elim n8 n6)), ea, eb]
        exact Or.inr ⟨ho, rfl, rfl, fun z => absurd z n8, fun z => absurd z n6⟩)
      have hF2 : vp_in (A p0.toNatClampNeg + (p1 - p0)) 16 := by rw [ea]; exact hF
      have hG2 : vp_in (B p0.toNatClampNeg + (p1 - p0)) 16 := by rw [eb]; exact hG
      exact br_f n4 (br_f n6 ⟨hi, br_f n0 (br_f m8 (ic_yy hF2 (br_f (by decide) (br_f n4 (br_f n6 (ic_yy hG2 (br_f (by decide) (zk_117 hi ht hx))))))))⟩)
  · have hx := fun a2 b2 : Int32 => h a2 b2 (by
      rw [if_pos (Or.inr rfl), if_pos (Or.inr (Or.inl rfl))]
      exact Or.inr ⟨by decide, rfl, rfl, fun _ => ⟨rfl, rfl⟩, fun _ => rfl⟩)
    rcases e with ⟨e, hF⟩ | ⟨hE, hFG⟩
    · have n1 : ¬ O p0.toNatClampNeg = -1 := by rcases e with e | e <;> rw [e] <;> decide
      have n0 : ¬ O p0.toNatClampNeg < 0 := by rcases e with e | e <;> rw [e] <;> decide
      have m8 : ¬ 8 ≤ O p0.toNatClampNeg := by rcases e with e | e <;> rw [e] <;> decide
      rcases hc with ⟨ho, _⟩ | ⟨ho, ea, eb, e8, e6⟩
      · exact absurd ho n1
      · have hF2 : ¬ vp_in (A p0.toNatClampNeg + (p1 - p0)) 16 := by rw [ea]; exact hF
        rcases e with e | e
        · exact br_f (by rw [e]; decide) (br_t e ⟨hi, br_f n0 (br_f m8 (ic_yn hF2 (br_t rfl (zk_118 hi ht (hx _ _)))))⟩)
        · exact br_t e ⟨hi, br_f n0 (br_f m8 (ic_yn hF2 (br_t rfl (zk_118 hi ht (hx _ _)))))⟩
    · obtain ⟨n1, n8, n6, n4, n0, m8, _⟩ := zw_Ef hE
      rcases hc with ⟨ho, _⟩ | ⟨ho, ea, eb, e8, e6⟩
      · exact absurd ho n1
      · refine br_f n4 (br_f n6 ⟨hi, br_f n0 (br_f m8 ?_)⟩)
        by_cases hF2 : vp_in (A p0.toNatClampNeg + (p1 - p0)) 16
        · have hG2 : ¬ vp_in (B p0.toNatClampNeg + (p1 - p0)) 16 := by
            rcases hFG with y | y
            · rw [← ea] at y; exact absurd hF2 y
            · rw [eb]; exact y
          exact ic_yy hF2 (br_f (by decide) (br_f n4 (br_f n6 (ic_yn hG2 (br_t rfl (zk_118 hi ht (hx _ _)))))))
        · exact ic_yn hF2 (br_t rfl (zk_118 hi ht (hx _ _)))
theorem zk_wf {O F G : Nat → Int32} {n : Nat} {d op a b : Int32} (hz : zk_t O F G n d op a b) : pm_wf (fun _ => op) (fun _ => a) (fun _ => b) 0 := by
  rcases hz with ⟨e, rfl, rfl, rfl⟩ | ⟨e, hF, rfl, rfl, rfl⟩ | ⟨hE, hF, hG, rfl, rfl, rfl⟩ | ⟨e, rfl, rfl, rfl⟩
  · rcases e with e | e
    · exact Or.inl e
    · exact Or.inr (Or.inl e)
  · rcases e with e | e
    · exact Or.inr (Or.inr ⟨hF, Or.inl e⟩)
    · exact Or.inr (Or.inr ⟨hF, Or.inr (Or.inl e)⟩)
  · exact Or.inr (Or.inr ⟨hF, Or.inr (Or.inr ⟨hG, hE⟩)⟩)
  · exact Or.inr (Or.inl rfl)
/-- what both sides keep of the cell n, once copied -/
theorem zk_cn {O F G A B C : Nat → Int32} {n : Nat} {d op a b : Int32} (hc : pm_cl O F G A B C n) (hz : zk_t O F G n d op a b) :
    (op = -1 ∧ C n = a) ∨ (¬ op = -1 ∧ (if op < 0 ∨ op = 8 then 0 else a) = a ∧ (if op < 0 ∨ op = 8 ∨ op = 6 then 0 else b) = b ∧ (op = 8 → a = 0 ∧ b = 0) ∧ (op = 6 → b = 0)) := by
  rcases hz with ⟨e, rfl, rfl, rfl⟩ | ⟨e, hF, rfl, rfl, rfl⟩ | ⟨hE, hF, hG, rfl, rfl, rfl⟩ | ⟨e, rfl, rfl, rfl⟩
  · rcases hc with ⟨ho, ec⟩ | ⟨ho, ea, eb, e8, e6⟩
    · exact Or.inl ⟨ho, ec⟩
    · rcases e with e | e
      · exact absurd e ho
      · rw [if_pos (Or.inr e), if_pos (Or.inr (Or.inl e))]
        exact Or.inr ⟨ho, (e8 e).1.symm, (e8 e).2.symm, e8, e6⟩
  · have n8 : ¬ O n = 8 := by rcases e with e | e <;> rw [e] <;> decide
    have n0 : ¬ O n < 0 := by rcases e with e | e <;> rw [e] <;> decide
    rcases hc with ⟨ho, ec⟩ | ⟨ho, ea, eb, e8, e6⟩
    · rw [ho] at n0; exact absurd (by decide) n0
    · rw [if_neg (fun z => z.elim n0 n8)]
      refine Or.inr ⟨ho, rfl, ?_, fun z => absurd z n8, e6⟩
      by_cases h6 : O n = 6
      · rw [if_pos (Or.inr (Or.inr h6)), e6 h6]
      · rw [if_neg (fun z => z.elim n0 (fun y => y.elim n8 h6))]
  · obtain ⟨n1, n8, n6, n4, n0, m8, _⟩ := zw_Ef hE
    rw [if_neg (fun z => z.elim n0 n8), if_neg (fun z => z.elim n0 (fun y => y.elim n8 n6))]
    exact Or.inr ⟨n1, rfl, rfl, fun z => absurd z n8, fun z => absurd z n6⟩
  · rw [if_pos (Or.inr rfl), if_pos (Or.inr (Or.inl rfl))]
    exact Or.inr ⟨by decide, rfl, rfl, fun _ => ⟨rfl, rfl⟩, fun z => absurd z (by decide)⟩
theorem zk_eq {op a b a2 b2 x : Int32}
    (h1 : (op = -1 ∧ x = a) ∨ (¬ op = -1 ∧ (if op < 0 ∨ op = 8 then 0 else a) = a ∧ (if op < 0 ∨ op = 8 ∨ op = 6 then 0 else b) = b ∧ (op = 8 → a = 0 ∧ b = 0) ∧ (op = 6 → b = 0)))
    (h2 : (op = -1 ∧ x = a) ∨ (¬ op = -1 ∧ (if op < 0 ∨ op = 8 then 0 else a2) = a ∧ (if op < 0 ∨ op = 8 ∨ op = 6 then 0 else b2) = b ∧ (op = 8 → a = 0 ∧ b = 0) ∧ (op = 6 → b = 0))) :
    (if op < 0 ∨ op = 8 then 0 else a2) = (if op < 0 ∨ op = 8 then 0 else a) ∧ (if op < 0 ∨ op = 8 ∨ op = 6 then 0 else b2) = (if op < 0 ∨ op = 8 ∨ op = 6 then 0 else b) := by
  rcases h1 with ⟨e, _⟩ | ⟨n1, ea, eb, _⟩
  · have h0 : op < 0 := by rw [e]; decide
    rw [if_pos (Or.inl h0), if_pos (Or.inl h0), if_pos (Or.inl h0), if_pos (Or.inl h0)]
    exact ⟨rfl, rfl⟩
  · rcases h2 with ⟨e, _⟩ | ⟨_, ea2, eb2, _⟩
    · exact absurd e n1
    · exact ⟨ea2.trans ea.symm, eb2.trans eb.symm⟩
theorem i_vc_copy {k : Nat} {u : SX} {v : SY} (I : i_Rel k u v) (hk : k + 5 ≤ 2560) (v1 : Int32) (v2 : Int32) : wpX_copy (fun r u' => wpY_copy (fun r' v' => r' = r ∧ i_Rel (k + 5) u' v') v v1 v2) u v1 v2 := by
  have I2 := i_up I
  obtain ⟨c, O, F, G, SB, VB, A, B, C, S, V, oS, oV, rfl, rfl, hw, hc, hS, hV⟩ := I
  have hwY : ∀ i, i < 16 → pm_wf O A B i := fun i hi => zr_wf (hw i hi) (hc i hi)
  have hA := zr_all hw hc
  generalize hs : pm_all O F G = s at hA I2 ⊢
  by_cases hi : vp_in v1 16
  · by_cases ht : vp_in v2 16
    · refine zk_x hi ht (hw _ (sn_lt hi)) ?_
      intro op a b hz
      unfold wX_copy_107
      refine br_t rfl ?_
      have hcz := zk_cn (hc _ (sn_lt hi)) hz
      have hcn := hcz
      rw [← pk_us (f := C) (k := v2.toNatClampNeg) (x := C v1.toNatClampNeg)] at hcn
      refine zw_pair (k := k) (C2 := upd C v2.toNatClampNeg (C v1.toNatClampNeg)) hs ht hw hc (zk_wf hz) (fun i e => pk_un e) hcn ?_
      intro q0 q1 q2 q3 q4 q5 q6 q7 hcmp
      refine zk_y hi ht hwY hS hV hA (hc _ (sn_lt hi)) hz ?_
      intro a2 b2 hab
      obtain ⟨ex, ey⟩ := zk_eq hcz hab
      unfold wY_copy_144
      refine yc_hold ht ?_
      rw [ex, ey]
      exact hcmp _ _ _ _ (fun v hv => ⟨rfl, hv⟩)
    · unfold wpX_copy wpY_copy; dsimp only
      exact ic_xy hi (br_f (by decide) (ic_xn ht (br_t rfl (ic_yy hi (br_f (by decide) (ic_yn ht (br_t rfl ⟨rfl, I2⟩)))))))
  · unfold wpX_copy wpY_copy; dsimp only
    exact ic_xn hi (br_t rfl (ic_yn hi (br_t rfl ⟨rfl, I2⟩)))
