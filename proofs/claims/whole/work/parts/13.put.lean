section
variable {O F G A B C : Nat → Int32}
def zw_E (op : Int32) : Prop := op = 5 ∨ op = 0 ∨ op = 1 ∨ op = 2 ∨ op = 3 ∨ op = 7
theorem zw_Ef {op : Int32} (h : zw_E op) : ¬ op = -1 ∧ ¬ op = 8 ∧ ¬ op = 6 ∧ ¬ op = 4 ∧ ¬ op < 0 ∧ ¬ 8 ≤ op ∧ ¬ 8 < op := by
  rcases h with rfl | rfl | rfl | rfl | rfl | rfl <;> decide
theorem zw_n1 {post : Int32 → Prop} {op : Int32} (h : zw_E op) (hp : post 1) : wpX_namesSecond post op := by
  rcases h with rfl | rfl | rfl | rfl | rfl | rfl
  · exact (br_f (by decide) (br_f (by decide) (br_f (by decide) (br_f (by decide) (br_f (by decide) (br_f (by decide) (br_f (by decide) (br_t (by decide) hp))))))))
  · exact (br_f (by decide) (br_f (by decide) (br_t (by decide) hp)))
  · exact (br_f (by decide) (br_f (by decide) (br_f (by decide) (br_t (by decide) hp))))
  · exact (br_f (by decide) (br_f (by decide) (br_f (by decide) (br_f (by decide) (br_t (by decide) hp)))))
  · exact (br_f (by decide) (br_f (by decide) (br_f (by decide) (br_f (by decide) (br_f (by decide) (br_t (by decide) hp))))))
  · exact (br_f (by decide) (br_f (by decide) (br_f (by decide) (br_f (by decide) (br_f (by decide) (br_f (by decide) (br_f (by decide) (br_f (by decide) (br_f (by decide) (br_t (by decide) hp))))))))))
theorem zw_n0 {post : Int32 → Prop} {op : Int32} (h : op = -1 ∨ op = 8 ∨ op = 6 ∨ op = 4) (hp : post 0) : wpX_namesSecond post op := by
  rcases h with rfl | rfl | rfl | rfl
  · exact br_t (by decide) hp
  · exact br_f (by decide) (br_t (by decide) hp)
  · exact (br_f (by decide) (br_f (by decide) (br_f (by decide) (br_f (by decide) (br_f (by decide) (br_f (by decide) (br_f (by decide) (br_f (by decide) (br_t (by decide) hp)))))))))
  · exact (br_f (by decide) (br_f (by decide) (br_f (by decide) (br_f (by decide) (br_f (by decide) (br_f (by decide) (br_t (by decide) hp)))))))
theorem zw_f1 {post : Int32 → Prop} {op : Int32} (h : ¬ op = -1) (h8 : ¬ op = 8) (hp : post 1) : wpX_namesFirst post op := br_f h (br_f h8 hp)
theorem zw_f0 {post : Int32 → Prop} {op : Int32} (h : op = -1 ∨ op = 8) (hp : post 0) : wpX_namesFirst post op := by
  rcases h with rfl | rfl
  · exact br_t rfl hp
  · exact br_f (by decide) (br_t rfl hp)
theorem zw_rng {x : Int32} (h0 : ¬ x < 0) (h8 : ¬ 8 < x) : zw_E x ∨ x = 4 ∨ x = 6 ∨ x = 8 := by
  obtain ⟨k, hk, rfl⟩ := nI_of2 (M := 8) (n := 8) (by decide) h0 (Int32.not_lt.mp h8)
  unfold zw_E
  have : k = 0 ∨ k = 1 ∨ k = 2 ∨ k = 3 ∨ k = 4 ∨ k = 5 ∨ k = 6 ∨ k = 7 ∨ k = 8 := by omega
  rcases this with rfl | rfl | rfl | rfl | rfl | rfl | rfl | rfl | rfl <;> decide
theorem zw_wf (hw : ∀ i, i < 16 → pm_wf O F G i) (n : Nat) {op a b : Int32} (hn : pm_wf (fun _ => op) (fun _ => a) (fun _ => b) 0) : ∀ i, i < 16 → pm_wf (upd O n op) (upd F n a) (upd G n b) i := by
  intro i hi
  unfold pm_wf
  by_cases e : i = n
  · subst e
    rw [pk_us, pk_us, pk_us]; exact hn
  · rw [pk_un e, pk_un e, pk_un e]; exact hw i hi
theorem zw_cl (hc : ∀ i, i < 16 → pm_cl O F G A B C i) (n : Nat) {op a b a2 b2 : Int32} {C2 : Nat → Int32} (hC : ∀ i, i ≠ n → C2 i = C i)
    (hn : (op = -1 ∧ C2 n = a) ∨ (¬ op = -1 ∧ a2 = a ∧ b2 = b ∧ (op = 8 → a = 0 ∧ b = 0) ∧ (op = 6 → b = 0))) :
    ∀ i, i < 16 → pm_cl (upd O n op) (upd F n a) (upd G n b) (upd A n a2) (upd B n b2) C2 i := by
  intro i hi
  unfold pm_cl
  by_cases e : i = n
  · subst e
    rw [pk_us, pk_us, pk_us, pk_us, pk_us]; exact hn
  · rw [pk_un e, pk_un e, pk_un e, pk_un e, pk_un e, hC i e]; exact hc i hi
theorem zw_cmp {P : SY → Prop} {f : Int32} {O2 A2 B2 C2 oS oV : Nat → Int32} {s s2 : (Nat → Int32) × (Nat → Int32)} (hiv : pm_iv O s) (hw2 : ∀ i, i < 16 → pm_wf O2 A2 B2 i) (hA2 : pm_yall O2 A2 B2 C2 = s2)
    (hP : ∀ a b : Nat → Int32, P (pm_ch s2.1 s2.2 s.1 s.2 16 0 0, O2, A2, B2, C2, s2.1, s2.2, a, b)) :
    wpY_compare P (f, O2, A2, B2, C2, s.1, s.2, pm_ua s.1 oS 16, pm_ua s.2 oV 16) := by
  refine yc_compare hw2 (fun k h => (hiv.2.2 k h).1) (fun k h => (hiv.2.2 k h).2) (fun j hj hz => hiv.1 j hj hz) ?_
  rw [hA2]
  exact hP
end
theorem i_vc_put {k : Nat} {u : SX} {v : SY} (I : i_Rel k u v) (hk : k + 5 ≤ 2560) (v1 : Int32) (v2 : Int32) : wpX_put (fun r u' => wpY_put (fun r' v' => r' = r ∧ i_Rel (k + 5) u' v') v v1 v2) u v1 v2 := by
  have I2 := i_up I
  obtain ⟨c, O, F, G, SB, VB, A, B, C, S, V, oS, oV, rfl, rfl, hw, hc, hS, hV⟩ := I
  have hwY : ∀ i, i < 16 → pm_wf O A B i := fun i hi => zr_wf (hw i hi) (hc i hi)
  have hA := zr_all hw hc
  have hiv := sv_all hw
  unfold wpX_put wpY_put; dsimp only
  by_cases hi : vp_in v1 16
  · have hw2 := zw_wf hw v1.toNatClampNeg (op := -1) (a := v2) (b := 0) (Or.inl rfl)
    have hc2 := zw_cl (A := A) (B := B) hc v1.toNatClampNeg (op := -1) (a := v2) (b := 0) (a2 := 0) (b2 := 0) (C2 := upd C v1.toNatClampNeg v2) (fun i e => pk_un e) (Or.inl ⟨rfl, pk_us⟩)
    have hR : ∀ SB2 VB2 a b : Nat → Int32, _ := fun SB2 VB2 a b => zr_set (k + 5) (pm_ch (pm_all (upd O v1.toNatClampNeg (-1)) (upd F v1.toNatClampNeg v2) (upd G v1.toNatClampNeg 0)).1 (pm_all (upd O v1.toNatClampNeg (-1)) (upd F v1.toNatClampNeg v2) (upd G v1.toNatClampNeg 0)).2 (pm_all O F G).1 (pm_all O F G).2 16 0 0) SB2 VB2 a b hw2 hc2
    have hA2 := zr_all hw2 hc2
    have hwY2 : ∀ i, i < 16 → pm_wf _ _ _ i := fun i hi => zr_wf (hw2 i hi) (hc2 i hi)
    refine ic_xy hi (br_f (by decide) (xc_hold hi (fun k h => (hiv.2.2 k h).1) (fun k h => (hiv.2.2 k h).2) hw2 (fun SB2 VB2 => ?_)))
    generalize pm_all (upd O v1.toNatClampNeg (-1)) (upd F v1.toNatClampNeg v2) (upd G v1.toNatClampNeg 0) = s2 at hR hA2 ⊢
    generalize pm_all O F G = s at hR hA hiv ⊢
    refine ic_yy hi (br_f (by decide) (yc_before hwY hS hV ?_))
    rw [hA]
    refine yc_hold hi ?_
    rw [if_pos (Or.inl (by decide)), if_pos (Or.inl (by decide))]
    exact ⟨hi, nm_e (zw_cmp hiv hwY2 hA2 (fun a b => ⟨rfl, hR SB2 VB2 a b⟩))⟩
  · exact ic_xn hi (br_t rfl (ic_yn hi (br_t rfl ⟨rfl, I2⟩)))
