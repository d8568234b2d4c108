/-- the second cell that a THROUGH needs, or -1 -/
def pm_tg (F G S V : Nat → Int32) (i : Nat) : Int32 :=
  if S (F i).toNatClampNeg = 0 then
    if (V (F i).toNatClampNeg).toInt64 + (G i).toInt64 < 0 then -1
    else if 16 ≤ (V (F i).toNatClampNeg).toInt64 + (G i).toInt64 then -1
    else ((V (F i).toNatClampNeg).toInt64 + (G i).toInt64).toInt32
  else -1
/-- the mask of the needed cells -/
def pm_nd (O F G S V : Nat → Int32) (i : Nat) : Int32 :=
  if O i = -1 then 0
  else if O i = 8 then 0
  else if O i = 6 then (1 : Int32) <<< (F i &&& 31)
  else if O i = 4 then
    if pm_tg F G S V i = -1 then (1 : Int32) <<< (F i &&& 31)
    else ((1 : Int32) <<< (F i &&& 31)) ||| ((1 : Int32) <<< (pm_tg F G S V i &&& 31))
  else if O i = 5 then
    if G i ≤ F i then ((2 : Int32) <<< (F i &&& 31)) - ((1 : Int32) <<< (G i &&& 31))
    else ((2 : Int32) <<< (G i &&& 31)) - ((1 : Int32) <<< (F i &&& 31))
  else ((1 : Int32) <<< (F i &&& 31)) ||| ((1 : Int32) <<< (G i &&& 31))
/-- the first cell from j on that stands in the mask and is no number -/
def pm_sc (S : Nat → Int32) (m : Int32) : Nat → Nat → Nat
  | 0, j => j
  | d + 1, j => if bt m j = true ∧ ¬ S j = 0 then j else pm_sc S m d (j + 1)
def pm_sm (V : Nat → Int32) (m : Int32) : Nat → Nat → Int32 → Int32
  | 0, _, s => s
  | d + 1, j, s => pm_sm V m d (j + 1) (if bt m j = true then s + V j else s)
def pm_cm (S : Nat → Int32) : Nat → Nat → Int32 → Int32
  | 0, _, m => m
  | d + 1, j, m => pm_cm S d (j + 1) (if S j = 3 then m ||| ((1 : Int32) <<< (nI j &&& 31)) else m)
def pm_ct (S : Nat → Int32) (x : Int32) : Nat → Nat → Int32 → Int32
  | 0, _, m => m
  | d + 1, j, m => pm_ct S x d (j + 1) (if S j = x then m + 1 else m)
def pm_ch (S V S2 V2 : Nat → Int32) : Nat → Nat → Int32 → Int32
  | 0, _, m => m
  | d + 1, j, m => pm_ch S V S2 V2 d (j + 1) (if S j = S2 j ∧ V j = V2 j then m else m ||| ((1 : Int32) <<< (nI j &&& 31)))
/-- the state that is taken over -/
def pm_er (O F G S V : Nat → Int32) (i : Nat) : Int32 :=
  if O i = 6 then 0
  else if O i = 8 then 0
  else if O i = 5 then
    if pm_sc S (pm_nd O F G S V i) 16 0 = 16 then 0 else S (pm_sc S (pm_nd O F G S V i) 16 0)
  else if S (F i).toNatClampNeg = 0 then
    if O i = 4 then
      if pm_tg F G S V i = -1 then 0 else S (pm_tg F G S V i).toNatClampNeg
    else S (G i).toNatClampNeg
  else S (F i).toNatClampNeg
def pm_oth (O F G S V : Nat → Int32) (i : Nat) : Int32 := if O i = 4 then pm_tg F G S V i else G i
def pm_os (V : Nat → Int32) (op oth : Int32) : Int32 :=
  if op = 8 then 2
  else if op = 4 then (if oth = -1 then 2 else 0)
  else if op = 3 then (if V oth.toNatClampNeg = 0 then 1 else 0)
  else 0
def pm_ov (O F S V : Nat → Int32) (i : Nat) (oth nd : Int32) : Int32 :=
  if O i = 0 then V (F i).toNatClampNeg + V oth.toNatClampNeg
  else if O i = 1 then V (F i).toNatClampNeg - V oth.toNatClampNeg
  else if O i = 2 then V (F i).toNatClampNeg * V oth.toNatClampNeg
  else if O i = 3 then (if V oth.toNatClampNeg = 0 then 0 else V (F i).toNatClampNeg / V oth.toNatClampNeg)
  else if O i = 4 then V oth.toNatClampNeg
  else if O i = 5 then pm_sm V nd 16 0 0
  else if O i = 6 then (if S (F i).toNatClampNeg = 0 then 0 else 1)
  else (if V (F i).toNatClampNeg = 0 then 0 else V oth.toNatClampNeg)
def pm_st (O F G S V : Nat → Int32) (i : Nat) : Int32 :=
  if pm_er O F G S V i = 0 then pm_os V (O i) (pm_oth O F G S V i) else pm_er O F G S V i
def pm_vl (O F G S V : Nat → Int32) (i : Nat) : Int32 :=
  if pm_st O F G S V i = 0 then pm_ov O F S V i (pm_oth O F G S V i) (pm_nd O F G S V i) else 0
def pm_step (O F G : Nat → Int32) (i : Nat) (s : (Nat → Int32) × (Nat → Int32)) : (Nat → Int32) × (Nat → Int32) :=
  if s.1 i = 3 ∧ (pm_nd O F G s.1 s.2 i &&& pm_cm s.1 16 0 0) = 0 then
    (upd s.1 i (pm_st O F G s.1 s.2 i), upd s.2 i (pm_vl O F G s.1 s.2 i))
  else s
def pm_row (O F G : Nat → Int32) : Nat → Nat → (Nat → Int32) × (Nat → Int32) → (Nat → Int32) × (Nat → Int32)
  | 0, _, s => s
  | d + 1, j, s => pm_row O F G d (j + 1) (pm_step O F G j s)
def pm_run (O F G : Nat → Int32) : Nat → (Nat → Int32) × (Nat → Int32) → (Nat → Int32) × (Nat → Int32)
  | 0, s => s
  | d + 1, s => pm_run O F G d (pm_row O F G 16 0 s)
def pm_s0 (O : Nat → Int32) (j : Nat) : Int32 := if j < 16 then (if O j = -1 then 0 else 3) else 0
def pm_v0 (O F : Nat → Int32) (j : Nat) : Int32 := if j < 16 then (if O j = -1 then F j else 0) else 0
def pm_all (O F G : Nat → Int32) : (Nat → Int32) × (Nat → Int32) := pm_run O F G 16 (pm_s0 O, pm_v0 O F)
def pm_wf (O F G : Nat → Int32) (i : Nat) : Prop :=
  O i = -1 ∨ O i = 8 ∨ (vp_in (F i) 16 ∧ (O i = 6 ∨ O i = 4 ∨ (vp_in (G i) 16 ∧ (O i = 5 ∨ O i = 0 ∨ O i = 1 ∨ O i = 2 ∨ O i = 3 ∨ O i = 7))))
def pm_rr (O F G S V : Nat → Int32) (c : Int32) : Nat → Nat → Int32 → Int32
  | 0, _, m => m
  | d + 1, j, m => pm_rr O F G S V c d (j + 1) (if (pm_nd O F G S V j &&& (m ||| ((1 : Int32) <<< (c &&& 31)))) = 0 then m else m ||| ((1 : Int32) <<< (nI j &&& 31)))
def pm_rc (O F G S V : Nat → Int32) (c : Int32) : Nat → Int32 → Int32
  | 0, m => m
  | d + 1, m => pm_rc O F G S V c d (pm_rr O F G S V c 16 0 m)

/-! the long sum -/
theorem sq_x {x : Int64} (h0 : ¬ x < 0) (h1 : ¬ 16 ≤ x) : x ≤ 15 ∧ ∃ k : Nat, k < 16 ∧ x.toInt32 = nI k := by
  obtain ⟨k, hk, rfl⟩ := pk_lOf h0
  have e16 : (16 : Int64) = lN 16 := by decide +kernel
  have e15 : (15 : Int64) = lN 15 := by decide +kernel
  rw [e16, pk_lLE (by decide) hk] at h1
  rw [e15, pk_lLE hk (by decide)]
  exact ⟨by omega, k, by omega, lN_i k⟩
theorem sq_y {x : Int64} (h0 : ¬ x < 0) (h1 : 16 ≤ x) : ¬ x ≤ 15 := by
  obtain ⟨k, hk, rfl⟩ := pk_lOf h0
  have e16 : (16 : Int64) = lN 16 := by decide +kernel
  have e15 : (15 : Int64) = lN 15 := by decide +kernel
  rw [e16, pk_lLE (by decide) hk] at h1
  rw [e15, pk_lLE hk (by decide)]
  omega
theorem sq_k : ∀ k, k < 16 → ¬ nI k = -1 ∧ ¬ nI k < 0 ∧ 0 ≤ nI k ∧ (nI k &&& 15) = nI k := by decide +kernel
theorem sq_in {x : Int32} (h : vp_in x 16) : ∃ k : Nat, k < 16 ∧ x = nI k ∧ x.toNatClampNeg = k := by
  obtain ⟨k, hk, rfl⟩ := vp_in_of h (by decide)
  exact ⟨k, hk, rfl, nI_clamp (by omega)⟩
theorem sq_tg (F G S V : Nat → Int32) (i : Nat) : pm_tg F G S V i = -1 ∨ (S (F i).toNatClampNeg = 0 ∧ vp_in (pm_tg F G S V i) 16 ∧ ¬ pm_tg F G S V i = -1) := by
  unfold pm_tg
  by_cases h : S (F i).toNatClampNeg = 0
  · rw [if_pos h]
    by_cases h0 : (V (F i).toNatClampNeg).toInt64 + (G i).toInt64 < 0
    · rw [if_pos h0]; exact Or.inl rfl
    · rw [if_neg h0]
      by_cases h1 : 16 ≤ (V (F i).toNatClampNeg).toInt64 + (G i).toInt64
      · rw [if_pos h1]; exact Or.inl rfl
      · rw [if_neg h1]
        obtain ⟨_, k, hk, e⟩ := sq_x h0 h1
        rw [e]
        exact Or.inr ⟨h, vp_in_nI hk (by decide), (sq_k k hk).1⟩
  · rw [if_neg h]; exact Or.inl rfl
