section
variable {O F G S V : Nat → Int32} {i : Nat}
theorem sn_m1 (h : O i = -1) : pm_nd O F G S V i = 0 := by unfold pm_nd; rw [if_pos h]
theorem sn_8 (h : O i = 8) : pm_nd O F G S V i = 0 := by simp [pm_nd, h]
theorem sn_6 (h : O i = 6) : pm_nd O F G S V i = (1 : Int32) <<< (F i &&& 31) := by simp [pm_nd, h]
theorem sn_4 (h : O i = 4) : pm_nd O F G S V i = if pm_tg F G S V i = -1 then (1 : Int32) <<< (F i &&& 31)
    else ((1 : Int32) <<< (F i &&& 31)) ||| ((1 : Int32) <<< (pm_tg F G S V i &&& 31)) := by simp [pm_nd, h]
theorem sn_5 (h : O i = 5) : pm_nd O F G S V i = if G i ≤ F i then ((2 : Int32) <<< (F i &&& 31)) - ((1 : Int32) <<< (G i &&& 31))
    else ((2 : Int32) <<< (G i &&& 31)) - ((1 : Int32) <<< (F i &&& 31)) := by simp [pm_nd, h]
theorem sn_e (h : O i = 0 ∨ O i = 1 ∨ O i = 2 ∨ O i = 3 ∨ O i = 7) : pm_nd O F G S V i = ((1 : Int32) <<< (F i &&& 31)) ||| ((1 : Int32) <<< (G i &&& 31)) := by
  rcases h with h | h | h | h | h <;> simp [pm_nd, h]
theorem sn_b1 {x : Int32} (h : vp_in x 16) : ∀ j, j < 32 → bt ((1 : Int32) <<< (x &&& 31)) j = decide (x.toNatClampNeg = j) := by
  obtain ⟨k, hk, rfl, e⟩ := sq_in h
  intro j hj
  rw [sb_one k hk j hj, e]
theorem sn_lt {x : Int32} (h : vp_in x 16) : x.toNatClampNeg < 16 := by
  obtain ⟨k, hk, rfl, e⟩ := sq_in h
  omega
theorem sn_h1 {x : Int32} (h : vp_in x 16) : ∀ j, j < 32 → bt ((1 : Int32) <<< (x &&& 31)) j = true → j < 16 := by
  intro j hj hb
  rw [sn_b1 h j hj] at hb
  have := of_decide_eq_true hb
  have := sn_lt h
  omega
theorem sn_h5 : ∀ a, a < 16 → ∀ b, b < 16 → ∀ j, j < 32 → bt (if nI b ≤ nI a then ((2 : Int32) <<< (nI a &&& 31)) - ((1 : Int32) <<< (nI b &&& 31)) else ((2 : Int32) <<< (nI b &&& 31)) - ((1 : Int32) <<< (nI a &&& 31))) j = true → j < 16 := by decide +kernel
theorem sn_hi (hw : pm_wf O F G i) : ∀ j, j < 32 → bt (pm_nd O F G S V i) j = true → j < 16 := by
  intro j hj
  rcases hw with h | h | ⟨hF, h | h | ⟨hG, h⟩⟩
  · rw [sn_m1 h, b_0]; intro z; cases z
  · rw [sn_8 h, b_0]; intro z; cases z
  · rw [sn_6 h]; exact sn_h1 hF j hj
  · rw [sn_4 h]
    rcases sq_tg F G S V i with ht | ⟨_, ht, hn⟩
    · rw [if_pos ht]; exact sn_h1 hF j hj
    · rw [if_neg hn, b_or]
      intro z
      rcases Bool.or_eq_true _ _ ▸ z with z | z
      · exact sn_h1 hF j hj z
      · exact sn_h1 ht j hj z
  · rcases h with h | h
    · rw [sn_5 h]
      obtain ⟨a, ha, ea, _⟩ := sq_in hF
      obtain ⟨b, hb, eb, _⟩ := sq_in hG
      rw [ea, eb]
      exact sn_h5 a ha b hb j hj
    · rw [sn_e h, b_or]
      intro z
      rcases Bool.or_eq_true _ _ ▸ z with z | z
      · exact sn_h1 hF j hj z
      · exact sn_h1 hG j hj z
theorem sn_F (hw : pm_wf O F G i) (h1 : ¬ O i = -1) (h8 : ¬ O i = 8) (h5 : ¬ O i = 5) : vp_in (F i) 16 ∧ bt (pm_nd O F G S V i) (F i).toNatClampNeg = true := by
  rcases hw with h | h | ⟨hF, h | h | ⟨hG, h | h⟩⟩
  · exact absurd h h1
  · exact absurd h h8
  · have := sn_lt hF
    rw [sn_6 h, sn_b1 hF _ (by omega)]; exact ⟨hF, decide_eq_true rfl⟩
  · have := sn_lt hF
    rw [sn_4 h]
    refine ⟨hF, ?_⟩
    by_cases ht : pm_tg F G S V i = -1
    · rw [if_pos ht, sn_b1 hF _ (by omega)]; exact decide_eq_true rfl
    · rw [if_neg ht, b_or, sn_b1 hF _ (by omega), decide_eq_true rfl, Bool.true_or]
  · exact absurd h h5
  · have := sn_lt hF
    rw [sn_e h, b_or, sn_b1 hF _ (by omega), decide_eq_true rfl, Bool.true_or]
    exact ⟨hF, rfl⟩
theorem sn_G (hG : vp_in (G i) 16) (h : O i = 0 ∨ O i = 1 ∨ O i = 2 ∨ O i = 3 ∨ O i = 7) : bt (pm_nd O F G S V i) (G i).toNatClampNeg = true := by
  have := sn_lt hG
  rw [sn_e h, b_or, sn_b1 hG _ (by omega), decide_eq_true rfl, Bool.or_true]
theorem sn_T (h : O i = 4) (ht : vp_in (pm_tg F G S V i) 16) (hn : ¬ pm_tg F G S V i = -1) : bt (pm_nd O F G S V i) (pm_tg F G S V i).toNatClampNeg = true := by
  have := sn_lt ht
  rw [sn_4 h, if_neg hn, b_or, sn_b1 ht _ (by omega), decide_eq_true rfl, Bool.or_true]
theorem sn_sc (S : Nat → Int32) (m : Int32) : ∀ d j, j + d = 16 → pm_sc S m d j = 16 ∨ (pm_sc S m d j < 16 ∧ bt m (pm_sc S m d j) = true ∧ ¬ S (pm_sc S m d j) = 0) := by
  intro d
  induction d with
  | zero => intro j hj; exact Or.inl (by simpa [pm_sc] using hj)
  | succ d ih =>
    intro j hj
    unfold pm_sc
    by_cases h : bt m j = true ∧ ¬ S j = 0
    · rw [if_pos h]; exact Or.inr ⟨by omega, h.1, h.2⟩
    · rw [if_neg h]; exact ih (j + 1) (by omega)
theorem sn_cm (S : Nat → Int32) : ∀ d j m k, j + d ≤ 16 → k < 32 → bt (pm_cm S d j m) k = (bt m k || decide (j ≤ k ∧ k < j + d ∧ S k = 3)) := by
  intro d
  induction d with
  | zero =>
    intro j m k _ _
    rw [decide_eq_false (by omega), Bool.or_false]; rfl
  | succ d ih =>
    intro j m k hj hk
    unfold pm_cm
    rw [ih (j + 1) _ k (by omega) hk]
    by_cases h : S j = 3
    · rw [if_pos h, b_or, sb_one j (by omega) k hk, Bool.or_assoc]
      congr 1
      by_cases e : j = k
      · subst e
        rw [decide_eq_true rfl, Bool.true_or, decide_eq_true ⟨by omega, by omega, h⟩]
      · rw [decide_eq_false e, Bool.false_or]
        congr 1
        apply propext
        constructor
        · rintro ⟨a, b, c⟩; exact ⟨by omega, by omega, c⟩
        · rintro ⟨a, b, c⟩; exact ⟨by omega, by omega, c⟩
    · rw [if_neg h]
      congr 2
      apply propext
      constructor
      · rintro ⟨a, b, c⟩; exact ⟨by omega, by omega, c⟩
      · rintro ⟨a, b, c⟩
        have : j ≠ k := fun e => h (e ▸ c)
        exact ⟨by omega, by omega, c⟩
theorem sn_cm0 (S : Nat → Int32) {k : Nat} (hk : k < 32) : bt (pm_cm S 16 0 0) k = decide (k < 16 ∧ S k = 3) := by
  rw [sn_cm S 16 0 0 k (by omega) hk, b_0, Bool.false_or]
  congr 1
  apply propext
  constructor
  · rintro ⟨a, b, c⟩; exact ⟨by omega, c⟩
  · rintro ⟨b, c⟩; exact ⟨by omega, by omega, c⟩
theorem sn_cond (hw : pm_wf O F G i) : (pm_nd O F G S V i &&& pm_cm S 16 0 0) = 0 ↔ ∀ j, j < 16 → bt (pm_nd O F G S V i) j = true → ¬ S j = 3 := by
  rw [sb_dis]
  constructor
  · intro h j hj hb e
    have := h j (by omega) hb
    rw [sn_cm0 S (by omega), decide_eq_true ⟨hj, e⟩] at this
    cases this
  · intro h j hj hb
    rw [sn_cm0 S hj]
    apply decide_eq_false
    rintro ⟨a, b⟩
    exact h j a hb b
/-- the mask of the settled cells -/
def pm_dn (S : Nat → Int32) (x : Int32) : Prop := ∀ k, k < 32 → bt x k = decide (k < 16 ∧ ¬ S k = 3)
theorem sn_condY {x : Int32} (hx : pm_dn S x) (hw : pm_wf O F G i) : (pm_nd O F G S V i &&& (x ^^^ (-1))) = 0 ↔ (pm_nd O F G S V i &&& pm_cm S 16 0 0) = 0 := by
  rw [sn_cond hw, sb_dis]
  constructor
  · intro h j hj hb e
    have := h j (by omega) hb
    rw [sb_inv x (by omega), hx j (by omega), decide_eq_false (fun z => z.2 e)] at this
    cases this
  · intro h j hj hb
    have h16 := sn_hi hw j hj hb
    rw [sb_inv x hj, hx j hj, decide_eq_true ⟨h16, h j h16 hb⟩]
    rfl
theorem sn_dnu {x s : Int32} (hx : pm_dn S x) (hi : i < 16) (hs : ¬ s = 3) : pm_dn (upd S i s) (x ||| ((1 : Int32) <<< (nI i &&& 31))) := by
  intro k hk
  rw [b_or, hx k hk, sb_one i hi k hk]
  by_cases e : i = k
  · subst e
    rw [decide_eq_true rfl, Bool.or_true, pk_us]
    exact (decide_eq_true ⟨hi, hs⟩).symm
  · rw [decide_eq_false e, Bool.or_false, pk_un (fun z => e z.symm)]
theorem sn_er (hw : pm_wf O F G i) (h1 : ¬ O i = -1) (hd : ∀ j, j < 16 → bt (pm_nd O F G S V i) j = true → ¬ S j = 3) : ¬ pm_er O F G S V i = 3 := by
  unfold pm_er
  by_cases h6 : O i = 6
  · rw [if_pos h6]; decide
  · rw [if_neg h6]
    by_cases h8 : O i = 8
    · rw [if_pos h8]; decide
    · rw [if_neg h8]
      by_cases h5 : O i = 5
      · rw [if_pos h5]
        rcases sn_sc S (pm_nd O F G S V i) 16 0 rfl with e | ⟨e, eb, _⟩
        · rw [if_pos e]; decide
        · rw [if_neg (by omega)]
          exact hd _ e eb
      · rw [if_neg h5]
        obtain ⟨hF, hb⟩ := sn_F (S := S) (V := V) hw h1 h8 h5
        by_cases hz : S (F i).toNatClampNeg = 0
        · rw [if_pos hz]
          by_cases h4 : O i = 4
          · rw [if_pos h4]
            rcases sq_tg F G S V i with ht | ⟨_, ht, hn⟩
            · rw [if_pos ht]; decide
            · rw [if_neg hn]
              exact hd _ (sn_lt ht) (sn_T h4 ht hn)
          · rw [if_neg h4]
            rcases hw with h | h | ⟨hF, h | h | ⟨hG, h | h⟩⟩
            · exact absurd h h1
            · exact absurd h h8
            · exact absurd h h6
            · exact absurd h h4
            · exact absurd h h5
            · exact hd _ (sn_lt hG) (sn_G hG h)
        · rw [if_neg hz]
          exact hd _ (sn_lt hF) hb
theorem sn_os (V : Nat → Int32) (op oth : Int32) : ¬ pm_os V op oth = 3 := by
  unfold pm_os
  repeat' split
  all_goals decide
theorem sn_st (hw : pm_wf O F G i) (h1 : ¬ O i = -1) (hd : ∀ j, j < 16 → bt (pm_nd O F G S V i) j = true → ¬ S j = 3) : ¬ pm_st O F G S V i = 3 := by
  unfold pm_st
  by_cases h : pm_er O F G S V i = 0
  · rw [if_pos h]; exact sn_os _ _ _
  · rw [if_neg h]; exact sn_er hw h1 hd
end
