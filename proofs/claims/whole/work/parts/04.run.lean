section
variable {O F G : Nat → Int32}
def pm_iv (O : Nat → Int32) (s : (Nat → Int32) × (Nat → Int32)) : Prop :=
  (∀ j, j < 16 → ¬ s.1 j = 0 → s.2 j = 0) ∧ (∀ j, j < 16 → O j = -1 → ¬ s.1 j = 3) ∧ (∀ j, 16 ≤ j → s.1 j = 0 ∧ s.2 j = 0)
theorem sv_step {i : Nat} {s : (Nat → Int32) × (Nat → Int32)} (hw : pm_wf O F G i) (hi : i < 16) (h : pm_iv O s) : pm_iv O (pm_step O F G i s) := by
  obtain ⟨S, V⟩ := s
  obtain ⟨ha, hb, hc⟩ := h
  unfold pm_step
  by_cases hq : S i = 3 ∧ (pm_nd O F G S V i &&& pm_cm S 16 0 0) = 0
  · rw [if_pos hq]
    have h1 : ¬ O i = -1 := fun z => hb i hi z hq.1
    have hs := sn_st hw h1 ((sn_cond hw).mp hq.2)
    refine ⟨?_, ?_, ?_⟩
    · intro j hj
      show ¬ upd S i _ j = 0 → upd V i _ j = 0
      by_cases e : j = i
      · subst e
        rw [pk_us, pk_us]
        intro z
        unfold pm_vl
        rw [if_neg z]
      · rw [pk_un e, pk_un e]; exact ha j hj
    · intro j hj ho
      show ¬ upd S i _ j = 3
      by_cases e : j = i
      · subst e; exact absurd ho h1
      · rw [pk_un e]; exact hb j hj ho
    · intro j hj
      show upd S i _ j = 0 ∧ upd V i _ j = 0
      rw [pk_un (by omega), pk_un (by omega)]
      exact hc j hj
  · rw [if_neg hq]
    exact ⟨ha, hb, hc⟩
theorem sv_row (hw : ∀ i, i < 16 → pm_wf O F G i) : ∀ (d j : Nat) (s : (Nat → Int32) × (Nat → Int32)), j + d = 16 → pm_iv O s → pm_iv O (pm_row O F G d j s) := by
  intro d
  induction d with
  | zero => intro j s _ h; exact h
  | succ d ih =>
    intro j s hj h
    exact ih (j + 1) _ (by omega) (sv_step (hw j (by omega)) (by omega) h)
theorem sv_run (hw : ∀ i, i < 16 → pm_wf O F G i) : ∀ (d : Nat) (s : (Nat → Int32) × (Nat → Int32)), pm_iv O s → pm_iv O (pm_run O F G d s) := by
  intro d
  induction d with
  | zero => intro s h; exact h
  | succ d ih =>
    intro s h
    exact ih _ (sv_row hw 16 0 s rfl h)
theorem sv_0 : pm_iv O (pm_s0 O, pm_v0 O F) := by
  refine ⟨?_, ?_, ?_⟩
  · intro j hj
    show ¬ pm_s0 O j = 0 → pm_v0 O F j = 0
    unfold pm_s0 pm_v0
    rw [if_pos hj, if_pos hj]
    by_cases h : O j = -1
    · rw [if_pos h]; intro z; exact absurd rfl z
    · intro _; rw [if_neg h]
  · intro j hj ho
    show ¬ pm_s0 O j = 3
    unfold pm_s0
    rw [if_pos hj, if_pos ho]; decide
  · intro j hj
    show pm_s0 O j = 0 ∧ pm_v0 O F j = 0
    unfold pm_s0 pm_v0
    rw [if_neg (by omega), if_neg (by omega)]
    exact ⟨rfl, rfl⟩
theorem sv_all (hw : ∀ i, i < 16 → pm_wf O F G i) : pm_iv O (pm_all O F G) := sv_run hw 16 _ sv_0
theorem sv_idrow {s : (Nat → Int32) × (Nat → Int32)} (h : ∀ j, j < 16 → ¬ s.1 j = 3) : ∀ d j : Nat, j + d = 16 → pm_row O F G d j s = s := by
  intro d
  induction d with
  | zero => intro j _; rfl
  | succ d ih =>
    intro j hj
    unfold pm_row pm_step
    rw [if_neg (fun z => h j (by omega) z.1)]
    exact ih (j + 1) (by omega)
theorem sv_idrun {s : (Nat → Int32) × (Nat → Int32)} (h : ∀ j, j < 16 → ¬ s.1 j = 3) : ∀ d : Nat, pm_run O F G d s = s := by
  intro d
  induction d with
  | zero => rfl
  | succ d ih =>
    unfold pm_run
    rw [sv_idrow h 16 0 rfl]
    exact ih
theorem sv_scn (S : Nat → Int32) (m : Int32) : ∀ d j, j + d = 16 → pm_sc S m d j = 16 → ∀ k, j ≤ k → k < 16 → bt m k = true → S k = 0 := by
  intro d
  induction d with
  | zero => intro j _ _ k _ _; omega
  | succ d ih =>
    intro j hj h k hk hk2 hb
    unfold pm_sc at h
    by_cases z : bt m j = true ∧ ¬ S j = 0
    · rw [if_pos z] at h; omega
    · rw [if_neg z] at h
      by_cases e : j = k
      · subst e
        by_cases y : S j = 0
        · exact y
        · exact absurd ⟨hb, y⟩ z
      · exact ih (j + 1) (by omega) h k (by omega) hk2 hb
theorem sv_one {S : Nat → Int32} {m : Int32} {g : Nat} (hall : ∀ k, k < 16 → bt m k = true → k = g ∨ S k = 0) (hg : g < 16) (hb : bt m g = true) : (if pm_sc S m 16 0 = 16 then 0 else S (pm_sc S m 16 0)) = S g := by
  rcases sn_sc S m 16 0 rfl with e | ⟨e, eb, ez⟩
  · rw [if_pos e]
    exact (sv_scn S m 16 0 rfl e g (by omega) hg hb).symm
  · rw [if_neg (by omega)]
    rcases hall _ e eb with y | y
    · rw [y]
    · exact absurd y ez
theorem sv_non {S : Nat → Int32} {m : Int32} (hall : ∀ k, k < 16 → bt m k = true → S k = 0) : (if pm_sc S m 16 0 = 16 then 0 else S (pm_sc S m 16 0)) = 0 := by
  rcases sn_sc S m 16 0 rfl with e | ⟨e, eb, ez⟩
  · rw [if_pos e]
  · exact absurd (hall _ e eb) ez
end
