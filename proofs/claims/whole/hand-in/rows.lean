section
def bt (x : Int32) (i : Nat) : Bool := x.toBitVec.getLsbD i
theorem b_ext {x y : Int32} (h : ∀ i, i < 32 → bt x i = bt y i) : x = y := Int32.toBitVec_inj.mp (BitVec.eq_of_getLsbD_eq (fun i hi => h i hi))
theorem b_or (x y : Int32) (i : Nat) : bt (x ||| y) i = (bt x i || bt y i) := by unfold bt; rw [Int32.toBitVec_or, BitVec.getLsbD_or]
theorem b_and (x y : Int32) (i : Nat) : bt (x &&& y) i = (bt x i && bt y i) := by unfold bt; rw [Int32.toBitVec_and, BitVec.getLsbD_and]
theorem b_xor (x y : Int32) (i : Nat) : bt (x ^^^ y) i = (bt x i ^^ bt y i) := by unfold bt; rw [Int32.toBitVec_xor, BitVec.getLsbD_xor]
theorem b_big {x : Int32} {i : Nat} (h : 32 ≤ i) : bt x i = false := BitVec.getLsbD_of_ge _ _ h
theorem b_m1 : ∀ i, i < 32 → bt (-1) i = true := by decide +kernel
theorem b_0 (i : Nat) : bt 0 i = false := BitVec.getLsbD_zero
theorem s_l : ∀ n, n < 32 → ((nI n &&& 31).toBitVec.smod 32).toNat = n := by decide +kernel
theorem b_sshr (n : Nat) (hn : n < 32) (x : Int32) {i : Nat} (hi : i < 32) : bt (x >>> (nI n &&& 31)) i = if n + i < 32 then bt x (n + i) else bt x 31 := by
  unfold bt
  rw [Int32.toBitVec_shiftRight]
  show (x.toBitVec.sshiftRight ((nI n &&& 31).toBitVec.smod 32).toNat).getLsbD i = _
  rw [s_l n hn, BitVec.getLsbD_sshiftRight, BitVec.msb_eq_getLsbD_last]
  simp [hi]
theorem pk_lT {n : Nat} (h : n < 2 ^ 63) : (lN n).toInt = (n : Int) := lg_ofNat_toInt h
theorem pk_lLT {a b : Nat} (ha : a < 2 ^ 63) (hb : b < 2 ^ 63) : lN a < lN b ↔ a < b := by
  rw [Int64.lt_iff_toInt_lt, pk_lT ha, pk_lT hb]; omega
theorem pk_lLE {a b : Nat} (ha : a < 2 ^ 63) (hb : b < 2 ^ 63) : lN a ≤ lN b ↔ a ≤ b := by
  rw [Int64.le_iff_toInt_le, pk_lT ha, pk_lT hb]; omega
theorem pk_lOf {x : Int64} (h : ¬ x < 0) : ∃ k : Nat, k < 2 ^ 63 ∧ x = lN k := by
  rw [Int64.lt_iff_toInt_lt] at h
  have h0 : (0 : Int64).toInt = 0 := by decide
  have hx := Int64.toInt_lt x
  refine ⟨x.toInt.toNat, by omega, Int64.toInt_inj.mp ?_⟩
  rw [pk_lT (by omega)]
  omega
theorem pk_us {f : Nat → Int32} {k : Nat} {x : Int32} : upd f k x k = x := if_pos rfl
theorem pk_un {f : Nat → Int32} {k j : Nat} {x : Int32} (h : j ≠ k) : upd f k x j = f j := if_neg h
theorem sb_one : ∀ n, n < 16 → ∀ i, i < 32 → bt ((1 : Int32) <<< (nI n &&& 31)) i = decide (n = i) := by decide +kernel
theorem sb_1 : ∀ i, i < 32 → bt 1 i = decide (i = 0) := by decide +kernel
theorem sb_and0 (m : Int32) {j : Nat} (hj : j < 16) : (m &&& ((1 : Int32) <<< (nI j &&& 31))) = 0 ↔ bt m j = false := by
  constructor
  · intro h
    have e := congrArg (fun x => bt x j) h
    have e2 : (bt m j && bt ((1 : Int32) <<< (nI j &&& 31)) j) = false := by
      rw [← b_and, ← b_0 j]; exact e
    rw [sb_one j hj j (by omega), decide_eq_true rfl, Bool.and_true] at e2
    exact e2
  · intro h
    apply b_ext
    intro i hi
    rw [b_and, sb_one j hj i hi, b_0]
    by_cases e : j = i
    · subst e; rw [h]; rfl
    · rw [decide_eq_false e, Bool.and_false]
theorem sb_shr (m : Int32) {j : Nat} (hj : j < 16) : ((m >>> (nI j &&& 31)) &&& 1) = if bt m j = true then 1 else 0 := by
  apply b_ext
  intro i hi
  rw [b_and, b_sshr j (by omega) m hi, sb_1 i hi]
  by_cases e : i = 0
  · subst e
    rw [if_pos (by omega), Nat.add_zero]
    cases hb : bt m j
    · rw [if_neg (by decide), b_0]; rfl
    · rw [if_pos rfl, sb_1 0 (by omega)]; rfl
  · rw [decide_eq_false e, Bool.and_false]
    cases hb : bt m j
    · rw [if_neg (by decide), b_0]
    · rw [if_pos rfl, sb_1 i hi, decide_eq_false e]
theorem sb_shr1 (m : Int32) {j : Nat} (hj : j < 16) : ((m >>> (nI j &&& 31)) &&& 1) = 1 ↔ bt m j = true := by
  rw [sb_shr m hj]
  cases hb : bt m j
  · rw [if_neg (by decide)]
    exact ⟨fun z => absurd z (by decide), fun z => absurd z (by decide)⟩
  · rw [if_pos rfl]
    exact ⟨fun _ => rfl, fun _ => rfl⟩
theorem sb_shr0 (m : Int32) {j : Nat} (hj : j < 16) : ((m >>> (nI j &&& 31)) &&& 1) = 0 ↔ bt m j = false := by
  rw [sb_shr m hj]
  cases hb : bt m j
  · rw [if_neg (by decide)]
    exact ⟨fun _ => rfl, fun _ => rfl⟩
  · rw [if_pos rfl]
    exact ⟨fun z => absurd z (by decide), fun z => absurd z (by decide)⟩
theorem sb_dis (r x : Int32) : (r &&& x) = 0 ↔ ∀ j, j < 32 → bt r j = true → bt x j = false := by
  constructor
  · intro h j hj hr
    have e2 : (bt r j && bt x j) = false := by
      rw [← b_and, h]; exact b_0 j
    rw [hr, Bool.true_and] at e2
    exact e2
  · intro h
    apply b_ext
    intro i hi
    rw [b_and, b_0]
    cases hb : bt r i
    · rfl
    · rw [h i hi hb]; rfl
theorem sb_inv (x : Int32) {j : Nat} (hj : j < 32) : bt (x ^^^ (-1)) j = !(bt x j) := by
  rw [b_xor, b_m1 j hj, Bool.xor_true]
theorem sb_16 : nI 16 = 16 := by decide +kernel
theorem sb_g16 {j : Nat} (h : 16 ≤ j) (h2 : j < 2 ^ 31) : (16 : Int32) ≤ nI j := by rw [← sb_16]; exact nI_le h h2
theorem sb_n16 {j : Nat} (h : j < 16) : ¬ (16 : Int32) ≤ nI j := by rw [← sb_16]; exact nI_ge h (by decide)
end
section
/-- the second cell that a THROUGH needs, or -1 -/
def pm_tg (F G S V : Nat → Int32) (i : Nat) : Int32 :=
  if S (F i).toNatClampNeg = 0 then
    if (V (F i).toNatClampNeg).toInt64 + (G i).toInt64 < 0 then -1
    else if 16 ≤ (V (F i).toNatClampNeg).toInt64 + (G i).toInt64 then -1
    else ((V (F i).toNatClampNeg).toInt64 + (G i).toInt64).toInt32
  else -1
/-- the mask of the needed cells -/
def pm_nd (O F G S V : Nat → Int32) (i : Nat) : Int32 :=
  if O i = -1 then 0
  else if O i = 8 then 0
  else if O i = 6 then (1 : Int32) <<< (F i &&& 31)
  else if O i = 4 then
    if pm_tg F G S V i = -1 then (1 : Int32) <<< (F i &&& 31)
    else ((1 : Int32) <<< (F i &&& 31)) ||| ((1 : Int32) <<< (pm_tg F G S V i &&& 31))
  else if O i = 5 then
    if G i ≤ F i then ((2 : Int32) <<< (F i &&& 31)) - ((1 : Int32) <<< (G i &&& 31))
    else ((2 : Int32) <<< (G i &&& 31)) - ((1 : Int32) <<< (F i &&& 31))
  else ((1 : Int32) <<< (F i &&& 31)) ||| ((1 : Int32) <<< (G i &&& 31))
/-- the first cell from j on that stands in the mask and is no number -/
def pm_sc (S : Nat → Int32) (m : Int32) : Nat → Nat → Nat
  | 0, j => j
  | d + 1, j => if bt m j = true ∧ ¬ S j = 0 then j else pm_sc S m d (j + 1)
def pm_sm (V : Nat → Int32) (m : Int32) : Nat → Nat → Int32 → Int32
  | 0, _, s => s
  | d + 1, j, s => pm_sm V m d (j + 1) (if bt m j = true then s + V j else s)
def pm_cm (S : Nat → Int32) : Nat → Nat → Int32 → Int32
  | 0, _, m => m
  | d + 1, j, m => pm_cm S d (j + 1) (if S j = 3 then m ||| ((1 : Int32) <<< (nI j &&& 31)) else m)
def pm_ct (S : Nat → Int32) (x : Int32) : Nat → Nat → Int32 → Int32
  | 0, _, m => m
  | d + 1, j, m => pm_ct S x d (j + 1) (if S j = x then m + 1 else m)
def pm_ch (S V S2 V2 : Nat → Int32) : Nat → Nat → Int32 → Int32
  | 0, _, m => m
  | d + 1, j, m => pm_ch S V S2 V2 d (j + 1) (if S j = S2 j ∧ V j = V2 j then m else m ||| ((1 : Int32) <<< (nI j &&& 31)))
/-- the state that is taken over -/
def pm_er (O F G S V : Nat → Int32) (i : Nat) : Int32 :=
  if O i = 6 then 0
  else if O i = 8 then 0
  else if O i = 5 then
    if pm_sc S (pm_nd O F G S V i) 16 0 = 16 then 0 else S (pm_sc S (pm_nd O F G S V i) 16 0)
  else if S (F i).toNatClampNeg = 0 then
    if O i = 4 then
      if pm_tg F G S V i = -1 then 0 else S (pm_tg F G S V i).toNatClampNeg
    else S (G i).toNatClampNeg
  else S (F i).toNatClampNeg
def pm_oth (O F G S V : Nat → Int32) (i : Nat) : Int32 := if O i = 4 then pm_tg F G S V i else G i
def pm_os (V : Nat → Int32) (op oth : Int32) : Int32 :=
  if op = 8 then 2
  else if op = 4 then (if oth = -1 then 2 else 0)
  else if op = 3 then (if V oth.toNatClampNeg = 0 then 1 else 0)
  else 0
def pm_ov (O F S V : Nat → Int32) (i : Nat) (oth nd : Int32) : Int32 :=
  if O i = 0 then V (F i).toNatClampNeg + V oth.toNatClampNeg
  else if O i = 1 then V (F i).toNatClampNeg - V oth.toNatClampNeg
  else if O i = 2 then V (F i).toNatClampNeg * V oth.toNatClampNeg
  else if O i = 3 then (if V oth.toNatClampNeg = 0 then 0 else V (F i).toNatClampNeg / V oth.toNatClampNeg)
  else if O i = 4 then V oth.toNatClampNeg
  else if O i = 5 then pm_sm V nd 16 0 0
  else if O i = 6 then (if S (F i).toNatClampNeg = 0 then 0 else 1)
  else (if V (F i).toNatClampNeg = 0 then 0 else V oth.toNatClampNeg)
def pm_st (O F G S V : Nat → Int32) (i : Nat) : Int32 :=
  if pm_er O F G S V i = 0 then pm_os V (O i) (pm_oth O F G S V i) else pm_er O F G S V i
def pm_vl (O F G S V : Nat → Int32) (i : Nat) : Int32 :=
  if pm_st O F G S V i = 0 then pm_ov O F S V i (pm_oth O F G S V i) (pm_nd O F G S V i) else 0
def pm_step (O F G : Nat → Int32) (i : Nat) (s : (Nat → Int32) × (Nat → Int32)) : (Nat → Int32) × (Nat → Int32) :=
  if s.1 i = 3 ∧ (pm_nd O F G s.1 s.2 i &&& pm_cm s.1 16 0 0) = 0 then
    (upd s.1 i (pm_st O F G s.1 s.2 i), upd s.2 i (pm_vl O F G s.1 s.2 i))
  else s
def pm_row (O F G : Nat → Int32) : Nat → Nat → (Nat → Int32) × (Nat → Int32) → (Nat → Int32) × (Nat → Int32)
  | 0, _, s => s
  | d + 1, j, s => pm_row O F G d (j + 1) (pm_step O F G j s)
def pm_run (O F G : Nat → Int32) : Nat → (Nat → Int32) × (Nat → Int32) → (Nat → Int32) × (Nat → Int32)
  | 0, s => s
  | d + 1, s => pm_run O F G d (pm_row O F G 16 0 s)
def pm_s0 (O : Nat → Int32) (j : Nat) : Int32 := if j < 16 then (if O j = -1 then 0 else 3) else 0
def pm_v0 (O F : Nat → Int32) (j : Nat) : Int32 := if j < 16 then (if O j = -1 then F j else 0) else 0
def pm_all (O F G : Nat → Int32) : (Nat → Int32) × (Nat → Int32) := pm_run O F G 16 (pm_s0 O, pm_v0 O F)
def pm_wf (O F G : Nat → Int32) (i : Nat) : Prop :=
  O i = -1 ∨ O i = 8 ∨ (vp_in (F i) 16 ∧ (O i = 6 ∨ O i = 4 ∨ (vp_in (G i) 16 ∧ (O i = 5 ∨ O i = 0 ∨ O i = 1 ∨ O i = 2 ∨ O i = 3 ∨ O i = 7))))
def pm_rr (O F G S V : Nat → Int32) (c : Int32) : Nat → Nat → Int32 → Int32
  | 0, _, m => m
  | d + 1, j, m => pm_rr O F G S V c d (j + 1) (if (pm_nd O F G S V j &&& (m ||| ((1 : Int32) <<< (c &&& 31)))) = 0 then m else m ||| ((1 : Int32) <<< (nI j &&& 31)))
def pm_rc (O F G S V : Nat → Int32) (c : Int32) : Nat → Int32 → Int32
  | 0, m => m
  | d + 1, m => pm_rc O F G S V c d (pm_rr O F G S V c 16 0 m)

/-! the long sum -/
theorem sq_x {x : Int64} (h0 : ¬ x < 0) (h1 : ¬ 16 ≤ x) : x ≤ 15 ∧ ∃ k : Nat, k < 16 ∧ x.toInt32 = nI k := by
  obtain ⟨k, hk, rfl⟩ := pk_lOf h0
  have e16 : (16 : Int64) = lN 16 := by decide +kernel
  have e15 : (15 : Int64) = lN 15 := by decide +kernel
  rw [e16, pk_lLE (by decide) hk] at h1
  rw [e15, pk_lLE hk (by decide)]
  exact ⟨by omega, k, by omega, lN_i k⟩
theorem sq_y {x : Int64} (h0 : ¬ x < 0) (h1 : 16 ≤ x) : ¬ x ≤ 15 := by
  obtain ⟨k, hk, rfl⟩ := pk_lOf h0
  have e16 : (16 : Int64) = lN 16 := by decide +kernel
  have e15 : (15 : Int64) = lN 15 := by decide +kernel
  rw [e16, pk_lLE (by decide) hk] at h1
  rw [e15, pk_lLE hk (by decide)]
  omega
theorem sq_k : ∀ k, k < 16 → ¬ nI k = -1 ∧ ¬ nI k < 0 ∧ 0 ≤ nI k ∧ (nI k &&& 15) = nI k := by decide +kernel
theorem sq_in {x : Int32} (h : vp_in x 16) : ∃ k : Nat, k < 16 ∧ x = nI k ∧ x.toNatClampNeg = k := by
  obtain ⟨k, hk, rfl⟩ := vp_in_of h (by decide)
  exact ⟨k, hk, rfl, nI_clamp (by omega)⟩
theorem sq_tg (F G S V : Nat → Int32) (i : Nat) : pm_tg F G S V i = -1 ∨ (S (F i).toNatClampNeg = 0 ∧ vp_in (pm_tg F G S V i) 16 ∧ ¬ pm_tg F G S V i = -1) := by
  unfold pm_tg
  by_cases h : S (F i).toNatClampNeg = 0
  · rw [if_pos h]
    by_cases h0 : (V (F i).toNatClampNeg).toInt64 + (G i).toInt64 < 0
    · rw [if_pos h0]; exact Or.inl rfl
    · rw [if_neg h0]
      by_cases h1 : 16 ≤ (V (F i).toNatClampNeg).toInt64 + (G i).toInt64
      · rw [if_pos h1]; exact Or.inl rfl
      · rw [if_neg h1]
        obtain ⟨_, k, hk, e⟩ := sq_x h0 h1
        rw [e]
        exact Or.inr ⟨h, vp_in_nI hk (by decide), (sq_k k hk).1⟩
  · rw [if_neg h]; exact Or.inl rfl
end
section
section
variable {O F G S V : Nat → Int32} {i : Nat}
theorem sn_m1 (h : O i = -1) : pm_nd O F G S V i = 0 := by unfold pm_nd; rw [if_pos h]
theorem sn_8 (h : O i = 8) : pm_nd O F G S V i = 0 := by simp [pm_nd, h]
theorem sn_6 (h : O i = 6) : pm_nd O F G S V i = (1 : Int32) <<< (F i &&& 31) := by simp [pm_nd, h]
theorem sn_4 (h : O i = 4) : pm_nd O F G S V i = if pm_tg F G S V i = -1 then (1 : Int32) <<< (F i &&& 31)
    else ((1 : Int32) <<< (F i &&& 31)) ||| ((1 : Int32) <<< (pm_tg F G S V i &&& 31)) := by simp [pm_nd, h]
theorem sn_5 (h : O i = 5) : pm_nd O F G S V i = if G i ≤ F i then ((2 : Int32) <<< (F i &&& 31)) - ((1 : Int32) <<< (G i &&& 31))
    else ((2 : Int32) <<< (G i &&& 31)) - ((1 : Int32) <<< (F i &&& 31)) := by simp [pm_nd, h]
theorem sn_e (h : O i = 0 ∨ O i = 1 ∨ O i = 2 ∨ O i = 3 ∨ O i = 7) : pm_nd O F G S V i = ((1 : Int32) <<< (F i &&& 31)) ||| ((1 : Int32) <<< (G i &&& 31)) := by
  rcases h with h | h | h | h | h <;> simp [pm_nd, h]
theorem sn_b1 {x : Int32} (h : vp_in x 16) : ∀ j, j < 32 → bt ((1 : Int32) <<< (x &&& 31)) j = decide (x.toNatClampNeg = j) := by
  obtain ⟨k, hk, rfl, e⟩ := sq_in h
  intro j hj
  rw [sb_one k hk j hj, e]
theorem sn_lt {x : Int32} (h : vp_in x 16) : x.toNatClampNeg < 16 := by
  obtain ⟨k, hk, rfl, e⟩ := sq_in h
  omega
theorem sn_h1 {x : Int32} (h : vp_in x 16) : ∀ j, j < 32 → bt ((1 : Int32) <<< (x &&& 31)) j = true → j < 16 := by
  intro j hj hb
  rw [sn_b1 h j hj] at hb
  have := of_decide_eq_true hb
  have := sn_lt h
  omega
theorem sn_h5 : ∀ a, a < 16 → ∀ b, b < 16 → ∀ j, j < 32 → bt (if nI b ≤ nI a then ((2 : Int32) <<< (nI a &&& 31)) - ((1 : Int32) <<< (nI b &&& 31)) else ((2 : Int32) <<< (nI b &&& 31)) - ((1 : Int32) <<< (nI a &&& 31))) j = true → j < 16 := by decide +kernel
theorem sn_hi (hw : pm_wf O F G i) : ∀ j, j < 32 → bt (pm_nd O F G S V i) j = true → j < 16 := by
  intro j hj
  rcases hw with h | h | ⟨hF, h | h | ⟨hG, h⟩⟩
  · rw [sn_m1 h, b_0]; intro z; cases z
  · rw [sn_8 h, b_0]; intro z; cases z
  · rw [sn_6 h]; exact sn_h1 hF j hj
  · rw [sn_4 h]
    rcases sq_tg F G S V i with ht | ⟨_, ht, hn⟩
    · rw [if_pos ht]; exact sn_h1 hF j hj
    · rw [if_neg hn, b_or]
      intro z
      rcases Bool.or_eq_true _ _ ▸ z with z | z
      · exact sn_h1 hF j hj z
      · exact sn_h1 ht j hj z
  · rcases h with h | h
    · rw [sn_5 h]
      obtain ⟨a, ha, ea, _⟩ := sq_in hF
      obtain ⟨b, hb, eb, _⟩ := sq_in hG
      rw [ea, eb]
      exact sn_h5 a ha b hb j hj
    · rw [sn_e h, b_or]
      intro z
      rcases Bool.or_eq_true _ _ ▸ z with z | z
      · exact sn_h1 hF j hj z
      · exact sn_h1 hG j hj z
theorem sn_F (hw : pm_wf O F G i) (h1 : ¬ O i = -1) (h8 : ¬ O i = 8) (h5 : ¬ O i = 5) : vp_in (F i) 16 ∧ bt (pm_nd O F G S V i) (F i).toNatClampNeg = true := by
  rcases hw with h | h | ⟨hF, h | h | ⟨hG, h | h⟩⟩
  · exact absurd h h1
  · exact absurd h h8
  · have := sn_lt hF
    rw [sn_6 h, sn_b1 hF _ (by omega)]; exact ⟨hF, decide_eq_true rfl⟩
  · have := sn_lt hF
    rw [sn_4 h]
    refine ⟨hF, ?_⟩
    by_cases ht : pm_tg F G S V i = -1
    · rw [if_pos ht, sn_b1 hF _ (by omega)]; exact decide_eq_true rfl
    · rw [if_neg ht, b_or, sn_b1 hF _ (by omega), decide_eq_true rfl, Bool.true_or]
  · exact absurd h h5
  · have := sn_lt hF
    rw [sn_e h, b_or, sn_b1 hF _ (by omega), decide_eq_true rfl, Bool.true_or]
    exact ⟨hF, rfl⟩
theorem sn_G (hG : vp_in (G i) 16) (h : O i = 0 ∨ O i = 1 ∨ O i = 2 ∨ O i = 3 ∨ O i = 7) : bt (pm_nd O F G S V i) (G i).toNatClampNeg = true := by
  have := sn_lt hG
  rw [sn_e h, b_or, sn_b1 hG _ (by omega), decide_eq_true rfl, Bool.or_true]
theorem sn_T (h : O i = 4) (ht : vp_in (pm_tg F G S V i) 16) (hn : ¬ pm_tg F G S V i = -1) : bt (pm_nd O F G S V i) (pm_tg F G S V i).toNatClampNeg = true := by
  have := sn_lt ht
  rw [sn_4 h, if_neg hn, b_or, sn_b1 ht _ (by omega), decide_eq_true rfl, Bool.or_true]
theorem sn_sc (S : Nat → Int32) (m : Int32) : ∀ d j, j + d = 16 → pm_sc S m d j = 16 ∨ (pm_sc S m d j < 16 ∧ bt m (pm_sc S m d j) = true ∧ ¬ S (pm_sc S m d j) = 0) := by
  intro d
  induction d with
  | zero => intro j hj; exact Or.inl (by simpa [pm_sc] using hj)
  | succ d ih =>
    intro j hj
    unfold pm_sc
    by_cases h : bt m j = true ∧ ¬ S j = 0
    · rw [if_pos h]; exact Or.inr ⟨by omega, h.1, h.2⟩
    · rw [if_neg h]; exact ih (j + 1) (by omega)
theorem sn_cm (S : Nat → Int32) : ∀ d j m k, j + d ≤ 16 → k < 32 → bt (pm_cm S d j m) k = (bt m k || decide (j ≤ k ∧ k < j + d ∧ S k = 3)) := by
  intro d
  induction d with
  | zero =>
    intro j m k _ _
    rw [decide_eq_false (by omega), Bool.or_false]; rfl
  | succ d ih =>
    intro j m k hj hk
    unfold pm_cm
    rw [ih (j + 1) _ k (by omega) hk]
    by_cases h : S j = 3
    · rw [if_pos h, b_or, sb_one j (by omega) k hk, Bool.or_assoc]
      congr 1
      by_cases e : j = k
      · subst e
        rw [decide_eq_true rfl, Bool.true_or, decide_eq_true ⟨by omega, by omega, h⟩]
      · rw [decide_eq_false e, Bool.false_or]
        congr 1
        apply propext
        constructor
        · rintro ⟨a, b, c⟩; exact ⟨by omega, by omega, c⟩
        · rintro ⟨a, b, c⟩; exact ⟨by omega, by omega, c⟩
    · rw [if_neg h]
      congr 2
      apply propext
      constructor
      · rintro ⟨a, b, c⟩; exact ⟨by omega, by omega, c⟩
      · rintro ⟨a, b, c⟩
        have : j ≠ k := fun e => h (e ▸ c)
        exact ⟨by omega, by omega, c⟩
theorem sn_cm0 (S : Nat → Int32) {k : Nat} (hk : k < 32) : bt (pm_cm S 16 0 0) k = decide (k < 16 ∧ S k = 3) := by
  rw [sn_cm S 16 0 0 k (by omega) hk, b_0, Bool.false_or]
  congr 1
  apply propext
  constructor
  · rintro ⟨a, b, c⟩; exact ⟨by omega, c⟩
  · rintro ⟨b, c⟩; exact ⟨by omega, by omega, c⟩
theorem sn_cond (hw : pm_wf O F G i) : (pm_nd O F G S V i &&& pm_cm S 16 0 0) = 0 ↔ ∀ j, j < 16 → bt (pm_nd O F G S V i) j = true → ¬ S j = 3 := by
  rw [sb_dis]
  constructor
  · intro h j hj hb e
    have := h j (by omega) hb
    rw [sn_cm0 S (by omega), decide_eq_true ⟨hj, e⟩] at this
    cases this
  · intro h j hj hb
    rw [sn_cm0 S hj]
    apply decide_eq_false
    rintro ⟨a, b⟩
    exact h j a hb b
/-- the mask of the settled cells -/
def pm_dn (S : Nat → Int32) (x : Int32) : Prop := ∀ k, k < 32 → bt x k = decide (k < 16 ∧ ¬ S k = 3)
theorem sn_condY {x : Int32} (hx : pm_dn S x) (hw : pm_wf O F G i) : (pm_nd O F G S V i &&& (x ^^^ (-1))) = 0 ↔ (pm_nd O F G S V i &&& pm_cm S 16 0 0) = 0 := by
  rw [sn_cond hw, sb_dis]
  constructor
  · intro h j hj hb e
    have := h j (by omega) hb
    rw [sb_inv x (by omega), hx j (by omega), decide_eq_false (fun z => z.2 e)] at this
    cases this
  · intro h j hj hb
    have h16 := sn_hi hw j hj hb
    rw [sb_inv x hj, hx j hj, decide_eq_true ⟨h16, h j h16 hb⟩]
    rfl
theorem sn_dnu {x s : Int32} (hx : pm_dn S x) (hi : i < 16) (hs : ¬ s = 3) : pm_dn (upd S i s) (x ||| ((1 : Int32) <<< (nI i &&& 31))) := by
  intro k hk
  rw [b_or, hx k hk, sb_one i hi k hk]
  by_cases e : i = k
  · subst e
    rw [decide_eq_true rfl, Bool.or_true, pk_us]
    exact (decide_eq_true ⟨hi, hs⟩).symm
  · rw [decide_eq_false e, Bool.or_false, pk_un (fun z => e z.symm)]
theorem sn_er (hw : pm_wf O F G i) (h1 : ¬ O i = -1) (hd : ∀ j, j < 16 → bt (pm_nd O F G S V i) j = true → ¬ S j = 3) : ¬ pm_er O F G S V i = 3 := by
  unfold pm_er
  by_cases h6 : O i = 6
  · rw [if_pos h6]; decide
  · rw [if_neg h6]
    by_cases h8 : O i = 8
    · rw [if_pos h8]; decide
    · rw [if_neg h8]
      by_cases h5 : O i = 5
      · rw [if_pos h5]
        rcases sn_sc S (pm_nd O F G S V i) 16 0 rfl with e | ⟨e, eb, _⟩
        · rw [if_pos e]; decide
        · rw [if_neg (by omega)]
          exact hd _ e eb
      · rw [if_neg h5]
        obtain ⟨hF, hb⟩ := sn_F (S := S) (V := V) hw h1 h8 h5
        by_cases hz : S (F i).toNatClampNeg = 0
        · rw [if_pos hz]
          by_cases h4 : O i = 4
          · rw [if_pos h4]
            rcases sq_tg F G S V i with ht | ⟨_, ht, hn⟩
            · rw [if_pos ht]; decide
            · rw [if_neg hn]
              exact hd _ (sn_lt ht) (sn_T h4 ht hn)
          · rw [if_neg h4]
            rcases hw with h | h | ⟨hF, h | h | ⟨hG, h | h⟩⟩
            · exact absurd h h1
            · exact absurd h h8
            · exact absurd h h6
            · exact absurd h h4
            · exact absurd h h5
            · exact hd _ (sn_lt hG) (sn_G hG h)
        · rw [if_neg hz]
          exact hd _ (sn_lt hF) hb
theorem sn_os (V : Nat → Int32) (op oth : Int32) : ¬ pm_os V op oth = 3 := by
  unfold pm_os
  repeat' split
  all_goals decide
theorem sn_st (hw : pm_wf O F G i) (h1 : ¬ O i = -1) (hd : ∀ j, j < 16 → bt (pm_nd O F G S V i) j = true → ¬ S j = 3) : ¬ pm_st O F G S V i = 3 := by
  unfold pm_st
  by_cases h : pm_er O F G S V i = 0
  · rw [if_pos h]; exact sn_os _ _ _
  · rw [if_neg h]; exact sn_er hw h1 hd
end
end
section
section
variable {O F G : Nat → Int32}
def pm_iv (O : Nat → Int32) (s : (Nat → Int32) × (Nat → Int32)) : Prop :=
  (∀ j, j < 16 → ¬ s.1 j = 0 → s.2 j = 0) ∧ (∀ j, j < 16 → O j = -1 → ¬ s.1 j = 3) ∧ (∀ j, 16 ≤ j → s.1 j = 0 ∧ s.2 j = 0)
theorem sv_step {i : Nat} {s : (Nat → Int32) × (Nat → Int32)} (hw : pm_wf O F G i) (hi : i < 16) (h : pm_iv O s) : pm_iv O (pm_step O F G i s) := by
  obtain ⟨S, V⟩ := s
  obtain ⟨ha, hb, hc⟩ := h
  unfold pm_step
  by_cases hq : S i = 3 ∧ (pm_nd O F G S V i &&& pm_cm S 16 0 0) = 0
  · rw [if_pos hq]
    have h1 : ¬ O i = -1 := fun z => hb i hi z hq.1
    have hs := sn_st hw h1 ((sn_cond hw).mp hq.2)
    refine ⟨?_, ?_, ?_⟩
    · intro j hj
      show ¬ upd S i _ j = 0 → upd V i _ j = 0
      by_cases e : j = i
      · subst e
        rw [pk_us, pk_us]
        intro z
        unfold pm_vl
        rw [if_neg z]
      · rw [pk_un e, pk_un e]; exact ha j hj
    · intro j hj ho
      show ¬ upd S i _ j = 3
      by_cases e : j = i
      · subst e; exact absurd ho h1
      · rw [pk_un e]; exact hb j hj ho
    · intro j hj
      show upd S i _ j = 0 ∧ upd V i _ j = 0
      rw [pk_un (by omega), pk_un (by omega)]
      exact hc j hj
  · rw [if_neg hq]
    exact ⟨ha, hb, hc⟩
theorem sv_row (hw : ∀ i, i < 16 → pm_wf O F G i) : ∀ (d j : Nat) (s : (Nat → Int32) × (Nat → Int32)), j + d = 16 → pm_iv O s → pm_iv O (pm_row O F G d j s) := by
  intro d
  induction d with
  | zero => intro j s _ h; exact h
  | succ d ih =>
    intro j s hj h
    exact ih (j + 1) _ (by omega) (sv_step (hw j (by omega)) (by omega) h)
theorem sv_run (hw : ∀ i, i < 16 → pm_wf O F G i) : ∀ (d : Nat) (s : (Nat → Int32) × (Nat → Int32)), pm_iv O s → pm_iv O (pm_run O F G d s) := by
  intro d
  induction d with
  | zero => intro s h; exact h
  | succ d ih =>
    intro s h
    exact ih _ (sv_row hw 16 0 s rfl h)
theorem sv_0 : pm_iv O (pm_s0 O, pm_v0 O F) := by
  refine ⟨?_, ?_, ?_⟩
  · intro j hj
    show ¬ pm_s0 O j = 0 → pm_v0 O F j = 0
    unfold pm_s0 pm_v0
    rw [if_pos hj, if_pos hj]
    by_cases h : O j = -1
    · rw [if_pos h]; intro z; exact absurd rfl z
    · intro _; rw [if_neg h]
  · intro j hj ho
    show ¬ pm_s0 O j = 3
    unfold pm_s0
    rw [if_pos hj, if_pos ho]; decide
  · intro j hj
    show pm_s0 O j = 0 ∧ pm_v0 O F j = 0
    unfold pm_s0 pm_v0
    rw [if_neg (by omega), if_neg (by omega)]
    exact ⟨rfl, rfl⟩
theorem sv_all (hw : ∀ i, i < 16 → pm_wf O F G i) : pm_iv O (pm_all O F G) := sv_run hw 16 _ sv_0
theorem sv_idrow {s : (Nat → Int32) × (Nat → Int32)} (h : ∀ j, j < 16 → ¬ s.1 j = 3) : ∀ d j : Nat, j + d = 16 → pm_row O F G d j s = s := by
  intro d
  induction d with
  | zero => intro j _; rfl
  | succ d ih =>
    intro j hj
    unfold pm_row pm_step
    rw [if_neg (fun z => h j (by omega) z.1)]
    exact ih (j + 1) (by omega)
theorem sv_idrun {s : (Nat → Int32) × (Nat → Int32)} (h : ∀ j, j < 16 → ¬ s.1 j = 3) : ∀ d : Nat, pm_run O F G d s = s := by
  intro d
  induction d with
  | zero => rfl
  | succ d ih =>
    unfold pm_run
    rw [sv_idrow h 16 0 rfl]
    exact ih
theorem sv_scn (S : Nat → Int32) (m : Int32) : ∀ d j, j + d = 16 → pm_sc S m d j = 16 → ∀ k, j ≤ k → k < 16 → bt m k = true → S k = 0 := by
  intro d
  induction d with
  | zero => intro j _ _ k _ _; omega
  | succ d ih =>
    intro j hj h k hk hk2 hb
    unfold pm_sc at h
    by_cases z : bt m j = true ∧ ¬ S j = 0
    · rw [if_pos z] at h; omega
    · rw [if_neg z] at h
      by_cases e : j = k
      · subst e
        by_cases y : S j = 0
        · exact y
        · exact absurd ⟨hb, y⟩ z
      · exact ih (j + 1) (by omega) h k (by omega) hk2 hb
theorem sv_one {S : Nat → Int32} {m : Int32} {g : Nat} (hall : ∀ k, k < 16 → bt m k = true → k = g ∨ S k = 0) (hg : g < 16) (hb : bt m g = true) : (if pm_sc S m 16 0 = 16 then 0 else S (pm_sc S m 16 0)) = S g := by
  rcases sn_sc S m 16 0 rfl with e | ⟨e, eb, ez⟩
  · rw [if_pos e]
    exact (sv_scn S m 16 0 rfl e g (by omega) hg hb).symm
  · rw [if_neg (by omega)]
    rcases hall _ e eb with y | y
    · rw [y]
    · exact absurd y ez
theorem sv_non {S : Nat → Int32} {m : Int32} (hall : ∀ k, k < 16 → bt m k = true → S k = 0) : (if pm_sc S m 16 0 = 16 then 0 else S (pm_sc S m 16 0)) = 0 := by
  rcases sn_sc S m 16 0 rfl with e | ⟨e, eb, ez⟩
  · rw [if_pos e]
  · exact absurd (hall _ e eb) ez
end
end
section
section
variable {post : Int32 → Prop} {c : Int32} {O F G S V SB VB : Nat → Int32} {p0 : Int32}
theorem xa_tt (hi : vp_in p0 16) (hF : vp_in (F p0.toNatClampNeg) 16) (hp : post (pm_tg F G S V p0.toNatClampNeg)) : wpX_throughTarget post (c, O, F, G, S, V, SB, VB) p0 := by
  unfold wpX_throughTarget; dsimp only
  unfold pm_tg at hp
  refine ⟨hi, nm_e ⟨hF, br_c (fun h => ?_) (fun h => ?_)⟩⟩
  · rw [if_pos h] at hp
    refine ⟨hF, hi, nm_e (br_c (fun h0 => ?_) (fun h0 => br_c (fun h1 => ?_) (fun h1 => ?_)))⟩
    · rw [if_pos h0] at hp; exact hp
    · rw [if_neg h0, if_pos h1] at hp; exact hp
    · rw [if_neg h0, if_neg h1] at hp; exact hp
  · rw [if_neg h] at hp; exact hp
theorem xa_nd (hi : vp_in p0 16) (hw : pm_wf O F G p0.toNatClampNeg) (hp : post (pm_nd O F G S V p0.toNatClampNeg)) : wpX_neededCells post (c, O, F, G, S, V, SB, VB) p0 := by
  unfold wpX_neededCells; dsimp only
  refine ⟨hi, nm_e ⟨hi, nm_e ⟨hi, ?_⟩⟩⟩
  rcases hw with h | h | ⟨hF, h | h | ⟨hG, h | h | h | h | h | h⟩⟩
  · rw [sn_m1 h] at hp
    exact nm_r h (br_t (by decide) hp)
  · rw [sn_8 h] at hp
    exact nm_r h (br_f (by decide) (br_t (by decide) hp))
  · rw [sn_6 h] at hp
    exact nm_r h (br_f (by decide) (br_f (by decide) (br_f (by decide) (br_f (by decide) (br_f (by decide) (br_f (by decide) (br_f (by decide) (br_f (by decide) (br_t (by decide) hp)))))))))
  · rw [sn_4 h] at hp
    refine nm_r h (br_f (by decide) (br_f (by decide) (br_f (by decide) (br_f (by decide) (br_f (by decide) (br_f (by decide) (br_t (by decide) ?_)))))))
    refine xa_tt hi hF (br_c (fun ht => ?_) (fun ht => ?_))
    · rw [if_pos ht] at hp; exact hp
    · rw [if_neg ht] at hp; exact hp
  · rw [sn_5 h] at hp
    refine nm_r h (br_f (by decide) (br_f (by decide) (br_f (by decide) (br_f (by decide) (br_f (by decide) (br_f (by decide) (br_f (by decide) (br_t (by decide) ?_))))))))
    refine br_c (fun ht => ?_) (fun ht => ?_)
    · rw [if_pos ht] at hp; exact hp
    · rw [if_neg ht] at hp; exact hp
  · rw [sn_e (Or.inl h)] at hp
    exact nm_r h (br_f (by decide) (br_f (by decide) (br_t (by decide) hp)))
  · rw [sn_e (Or.inr (Or.inl h))] at hp
    exact nm_r h (br_f (by decide) (br_f (by decide) (br_f (by decide) (br_t (by decide) hp))))
  · rw [sn_e (Or.inr (Or.inr (Or.inl h)))] at hp
    exact nm_r h (br_f (by decide) (br_f (by decide) (br_f (by decide) (br_f (by decide) (br_t (by decide) hp)))))
  · rw [sn_e (Or.inr (Or.inr (Or.inr (Or.inl h))))] at hp
    exact nm_r h (br_f (by decide) (br_f (by decide) (br_f (by decide) (br_f (by decide) (br_f (by decide) (br_t (by decide) hp))))))
  · rw [sn_e (Or.inr (Or.inr (Or.inr (Or.inr h))))] at hp
    exact nm_r h (br_f (by decide) (br_f (by decide) (br_f (by decide) (br_f (by decide) (br_f (by decide) (br_f (by decide) (br_f (by decide) (br_f (by decide) (br_f (by decide) (br_t (by decide) hp))))))))))
theorem xa_cm (post : Int32 → Prop) : ∀ (d j : Nat) (m : Int32), j + d = 16 → post (pm_cm S d j m) → wX_circular_4 post c O F G S V SB VB (d + 1) m (nI j) := by
  intro d
  induction d with
  | zero => intro j m hj hp; exact br_t (sb_g16 (by omega) (by omega)) hp
  | succ d ih =>
    intro j m hj hp
    have hin : vp_in (nI j) 16 := vp_in_nI (by omega) (by decide)
    have ec : (nI j).toNatClampNeg = j := nI_clamp (by omega)
    unfold pm_cm at hp
    by_cases z : S j = 3
    · rw [if_pos z] at hp
      exact br_f (sb_n16 (by omega)) ⟨hin, br_t (by rw [ec]; exact z) (nm_e (nm_r (nI_1 j) (ih (j + 1) _ (by omega) hp)))⟩
    · rw [if_neg z] at hp
      exact br_f (sb_n16 (by omega)) ⟨hin, br_f (by rw [ec]; exact z) (nm_r (nI_1 j) (ih (j + 1) _ (by omega) hp))⟩
theorem xa_circ (hp : post (pm_cm S 16 0 0)) : wpX_circular post (c, O, F, G, S, V, SB, VB) := ⟨17, xa_cm post 16 0 0 rfl hp⟩
theorem xa_sc (post : Int32 → Prop) (m : Int32) : ∀ (d j : Nat), j + d = 16 → post (if pm_sc S m d j = 16 then 0 else S (pm_sc S m d j)) → wX_firstError_55 post m c O F G S V SB VB (d + 1) (nI j) := by
  intro d
  induction d with
  | zero =>
    intro j hj hp
    have e : pm_sc S m 0 j = 16 := by show j = 16; omega
    rw [if_pos e] at hp
    exact br_t (sb_g16 (by omega) (by omega)) hp
  | succ d ih =>
    intro j hj hp
    have hin : vp_in (nI j) 16 := vp_in_nI (by omega) (by decide)
    have ec : (nI j).toNatClampNeg = j := nI_clamp (by omega)
    have hn := sb_n16 (j := j) (by omega)
    by_cases hb : bt m j = true
    · have h2 : ¬ (m &&& ((1 : Int32) <<< (nI j &&& 31))) = 0 := fun z => by
        rw [sb_and0 m (by omega), hb] at z; cases z
      by_cases z : S j = 0
      · have e : pm_sc S m (d + 1) j = pm_sc S m d (j + 1) := if_neg (fun y => y.2 z)
        rw [e] at hp
        exact br_f hn (br_f h2 ⟨hin, br_t (by rw [ec]; exact z) (nm_r (nI_1 j) (ih (j + 1) (by omega) hp))⟩)
      · have e : pm_sc S m (d + 1) j = j := if_pos ⟨hb, z⟩
        rw [e, if_neg (by omega)] at hp
        exact br_f hn (br_f h2 ⟨hin, br_f (by rw [ec]; exact z) ⟨hin, by rw [ec]; exact hp⟩⟩)
    · have h2 : (m &&& ((1 : Int32) <<< (nI j &&& 31))) = 0 := (sb_and0 m (by omega)).mpr (by cases h : bt m j; rfl; exact absurd h hb)
      have e : pm_sc S m (d + 1) j = pm_sc S m d (j + 1) := if_neg (fun y => hb y.1)
      rw [e] at hp
      exact br_f hn (br_t h2 (nm_r (nI_1 j) (ih (j + 1) (by omega) hp)))
theorem xa_sm (post : Int32 → Prop) (m : Int32) : ∀ (d j : Nat) (s : Int32), j + d = 16 → post (pm_sm V m d j s) → wX_sumOf_4 post m c O F G S V SB VB (d + 1) s (nI j) := by
  intro d
  induction d with
  | zero => intro j s hj hp; exact br_t (sb_g16 (by omega) (by omega)) hp
  | succ d ih =>
    intro j s hj hp
    have hin : vp_in (nI j) 16 := vp_in_nI (by omega) (by decide)
    have ec : (nI j).toNatClampNeg = j := nI_clamp (by omega)
    have hn := sb_n16 (j := j) (by omega)
    unfold pm_sm at hp
    by_cases hb : bt m j = true
    · have h2 : ¬ (m &&& ((1 : Int32) <<< (nI j &&& 31))) = 0 := fun z => by
        rw [sb_and0 m (by omega), hb] at z; cases z
      rw [if_pos hb] at hp
      exact br_f hn (br_f h2 ⟨hin, nm_r (by rw [ec]) (nm_r (nI_1 j) (ih (j + 1) _ (by omega) hp))⟩)
    · have h2 : (m &&& ((1 : Int32) <<< (nI j &&& 31))) = 0 := (sb_and0 m (by omega)).mpr (by cases h : bt m j; rfl; exact absurd h hb)
      rw [if_neg hb] at hp
      exact br_f hn (br_t h2 (nm_r (nI_1 j) (ih (j + 1) _ (by omega) hp)))
theorem xa_os {op oth : Int32} (hv : op = 3 → vp_in oth 16) (hp : post (pm_os V op oth)) : wpX_ownState post (c, O, F, G, S, V, SB, VB) op oth := by
  unfold pm_os at hp
  unfold wpX_ownState; dsimp only
  refine br_c (fun h8 => ?_) (fun h8 => br_c (fun h4 => br_c (fun ht => ?_) (fun ht => ?_)) (fun h4 => ?_))
  · rw [if_pos h8] at hp; exact hp
  · rw [if_neg h8, if_pos h4, if_pos ht] at hp; exact hp
  · rw [if_neg h8, if_pos h4, if_neg ht] at hp
    exact br_f (by rw [h4]; decide) hp
  · rw [if_neg h8, if_neg h4] at hp
    refine br_c (fun h3 => ⟨hv h3, br_c (fun hz => ?_) (fun hz => ?_)⟩) (fun h3 => ?_)
    · rw [if_pos h3, if_pos hz] at hp; exact hp
    · rw [if_pos h3, if_neg hz] at hp; exact hp
    · rw [if_neg h3] at hp; exact hp
end
end
section
section
variable {post : Int32 → Prop} {c : Int32} {O F G S V SB VB : Nat → Int32} {p0 : Int32}
theorem xb_e0 {i : Nat} (h : O i = 0 ∨ O i = 1 ∨ O i = 2 ∨ O i = 3 ∨ O i = 7) : pm_er O F G S V i = if S (F i).toNatClampNeg = 0 then S (G i).toNatClampNeg else S (F i).toNatClampNeg := by
  rcases h with h | h | h | h | h <;> simp [pm_er, h]
theorem xb_e4 {i : Nat} (h : O i = 4) : pm_er O F G S V i = if S (F i).toNatClampNeg = 0 then (if pm_tg F G S V i = -1 then 0 else S (pm_tg F G S V i).toNatClampNeg) else S (F i).toNatClampNeg := by
  simp [pm_er, h]
theorem xb_e5 {i : Nat} (h : O i = 5) : pm_er O F G S V i = if pm_sc S (pm_nd O F G S V i) 16 0 = 16 then 0 else S (pm_sc S (pm_nd O F G S V i) 16 0) := by
  simp [pm_er, h]
theorem xb_e6 {i : Nat} (h : O i = 6) : pm_er O F G S V i = 0 := by simp [pm_er, h]
theorem xb_e8 {i : Nat} (h : O i = 8) : pm_er O F G S V i = 0 := by simp [pm_er, h]
theorem xb_sE {i : Nat} (hF : vp_in (F i) 16) (hG : vp_in (G i) 16) (h : O i = 0 ∨ O i = 1 ∨ O i = 2 ∨ O i = 3 ∨ O i = 7) (hz : S (F i).toNatClampNeg = 0) :
    (if pm_sc S (pm_nd O F G S V i) 16 0 = 16 then 0 else S (pm_sc S (pm_nd O F G S V i) 16 0)) = S (G i).toNatClampNeg := by
  refine sv_one ?_ (sn_lt hG) (sn_G hG h)
  intro k hk hb
  rw [sn_e h, b_or, sn_b1 hF k (by omega), sn_b1 hG k (by omega)] at hb
  rcases Bool.or_eq_true _ _ ▸ hb with z | z
  · have e := of_decide_eq_true z
    subst e
    exact Or.inr hz
  · exact Or.inl (of_decide_eq_true z).symm
theorem xb_s4 {i : Nat} (hF : vp_in (F i) 16) (h : O i = 4) (hz : S (F i).toNatClampNeg = 0) :
    (if pm_sc S (pm_nd O F G S V i) 16 0 = 16 then 0 else S (pm_sc S (pm_nd O F G S V i) 16 0)) = if pm_tg F G S V i = -1 then 0 else S (pm_tg F G S V i).toNatClampNeg := by
  rcases sq_tg F G S V i with ht | ⟨_, ht, hn⟩
  · rw [if_pos ht]
    apply sv_non
    intro k hk hb
    rw [sn_4 h, if_pos ht, sn_b1 hF k (by omega)] at hb
    have e := of_decide_eq_true hb
    subst e
    exact hz
  · rw [if_neg hn]
    refine sv_one ?_ (sn_lt ht) (sn_T h ht hn)
    intro k hk hb
    rw [sn_4 h, if_neg hn, b_or, sn_b1 hF k (by omega), sn_b1 ht k (by omega)] at hb
    rcases Bool.or_eq_true _ _ ▸ hb with z | z
    · have e := of_decide_eq_true z
      subst e
      exact Or.inr hz
    · exact Or.inl (of_decide_eq_true z).symm
theorem xb_fe (hi : vp_in p0 16) (hw : pm_wf O F G p0.toNatClampNeg) (h1 : ¬ O p0.toNatClampNeg = -1) (hp : post (pm_er O F G S V p0.toNatClampNeg)) : wpX_firstError post (c, O, F, G, S, V, SB, VB) p0 (pm_nd O F G S V p0.toNatClampNeg) := by
  unfold wpX_firstError; dsimp only
  refine ⟨hi, nm_e ?_⟩
  rcases hw with h | h | ⟨hF, h | h | ⟨hG, h | h⟩⟩
  · exact absurd h h1
  · rw [xb_e8 h] at hp
    exact br_f (by rw [h]; decide) (br_t h hp)
  · rw [xb_e6 h] at hp
    exact br_t h hp
  · rw [xb_e4 h] at hp
    refine br_f (by rw [h]; decide) (br_f (by rw [h]; decide) (br_f (by rw [h]; decide) ⟨hi, hF, br_c (fun hz => ?_) (fun hz => ⟨hi, hF, ?_⟩)⟩))
    · rw [if_pos hz, ← xb_s4 hF h hz] at hp
      exact ⟨17, xa_sc post _ 16 0 rfl hp⟩
    · rw [if_neg hz] at hp; exact hp
  · rw [xb_e5 h] at hp
    exact br_f (by rw [h]; decide) (br_f (by rw [h]; decide) (br_t h ⟨17, xa_sc post _ 16 0 rfl hp⟩))
  · rw [xb_e0 h] at hp
    have n6 : ¬ O p0.toNatClampNeg = 6 := by rcases h with h | h | h | h | h <;> rw [h] <;> decide
    have n8 : ¬ O p0.toNatClampNeg = 8 := by rcases h with h | h | h | h | h <;> rw [h] <;> decide
    have n5 : ¬ O p0.toNatClampNeg = 5 := by rcases h with h | h | h | h | h <;> rw [h] <;> decide
    refine br_f n6 (br_f n8 (br_f n5 ⟨hi, hF, br_c (fun hz => ?_) (fun hz => ⟨hi, hF, ?_⟩)⟩))
    · rw [if_pos hz, ← xb_sE hF hG h hz] at hp
      exact ⟨17, xa_sc post _ 16 0 rfl hp⟩
    · rw [if_neg hz] at hp; exact hp
theorem xb_qu {a b : Int32} (hp : post (if b = 0 then 0 else a / b)) : wpX_quotient post a b := by
  refine br_c (fun h => ?_) (fun h => ⟨h, ?_⟩)
  · rw [if_pos h] at hp; exact hp
  · rw [if_neg h] at hp; exact hp
theorem xb_ov {oth nd : Int32} (hi : vp_in p0 16) (hw : pm_wf O F G p0.toNatClampNeg) (h1 : ¬ O p0.toNatClampNeg = -1) (h8 : ¬ O p0.toNatClampNeg = 8)
    (hv : ¬ O p0.toNatClampNeg = 5 → ¬ O p0.toNatClampNeg = 6 → vp_in oth 16) (hp : post (pm_ov O F S V p0.toNatClampNeg oth nd)) : wpX_ownValue post (c, O, F, G, S, V, SB, VB) p0 oth nd := by
  unfold wpX_ownValue; dsimp only
  unfold pm_ov at hp
  refine ⟨hi, nm_e ⟨hi, ?_⟩⟩
  rcases hw with h | h | ⟨hF, h | h | ⟨hG, h | h | h | h | h | h⟩⟩
  · exact absurd h h1
  · exact absurd h h8
  · rw [if_neg (by rw [h]; decide), if_neg (by rw [h]; decide), if_neg (by rw [h]; decide), if_neg (by rw [h]; decide), if_neg (by rw [h]; decide), if_neg (by rw [h]; decide), if_pos h] at hp
    refine nm_r h (br_f (by decide) (br_f (by decide) (br_f (by decide) (br_f (by decide) (br_f (by decide) (br_f (by decide) (br_f (by decide) (br_f (by decide) (br_t (by decide) ⟨hF, br_c (fun hz => ?_) (fun hz => ?_)⟩)))))))))
    · rw [if_pos hz] at hp; exact hp
    · rw [if_neg hz] at hp; exact hp
  · rw [if_neg (by rw [h]; decide), if_neg (by rw [h]; decide), if_neg (by rw [h]; decide), if_neg (by rw [h]; decide), if_pos h] at hp
    have ho := hv (by rw [h]; decide) (by rw [h]; decide)
    exact nm_r h (br_f (by decide) (br_f (by decide) (br_f (by decide) (br_f (by decide) (br_f (by decide) (br_f (by decide) (br_t (by decide) ⟨ho, hp⟩)))))))
  · rw [if_neg (by rw [h]; decide), if_neg (by rw [h]; decide), if_neg (by rw [h]; decide), if_neg (by rw [h]; decide), if_neg (by rw [h]; decide), if_pos h] at hp
    exact nm_r h (br_f (by decide) (br_f (by decide) (br_f (by decide) (br_f (by decide) (br_f (by decide) (br_f (by decide) (br_f (by decide) (br_t (by decide) ⟨17, xa_sm post nd 16 0 0 rfl hp⟩))))))))
  · rw [if_pos h] at hp
    have ho := hv (by rw [h]; decide) (by rw [h]; decide)
    exact nm_r h (br_f (by decide) (br_f (by decide) (br_t (by decide) ⟨hF, ho, hp⟩)))
  · rw [if_neg (by rw [h]; decide), if_pos h] at hp
    have ho := hv (by rw [h]; decide) (by rw [h]; decide)
    exact nm_r h (br_f (by decide) (br_f (by decide) (br_f (by decide) (br_t (by decide) ⟨hF, ho, hp⟩))))
  · rw [if_neg (by rw [h]; decide), if_neg (by rw [h]; decide), if_pos h] at hp
    have ho := hv (by rw [h]; decide) (by rw [h]; decide)
    exact nm_r h (br_f (by decide) (br_f (by decide) (br_f (by decide) (br_f (by decide) (br_t (by decide) ⟨hF, ho, hp⟩)))))
  · rw [if_neg (by rw [h]; decide), if_neg (by rw [h]; decide), if_neg (by rw [h]; decide), if_pos h] at hp
    have ho := hv (by rw [h]; decide) (by rw [h]; decide)
    exact nm_r h (br_f (by decide) (br_f (by decide) (br_f (by decide) (br_f (by decide) (br_f (by decide) (br_t (by decide) ⟨hF, ho, xb_qu hp⟩))))))
  · rw [if_neg (by rw [h]; decide), if_neg (by rw [h]; decide), if_neg (by rw [h]; decide), if_neg (by rw [h]; decide), if_neg (by rw [h]; decide), if_neg (by rw [h]; decide), if_neg (by rw [h]; decide)] at hp
    have ho := hv (by rw [h]; decide) (by rw [h]; decide)
    refine nm_r h (br_f (by decide) (br_f (by decide) (br_f (by decide) (br_f (by decide) (br_f (by decide) (br_f (by decide) (br_f (by decide) (br_f (by decide) (br_f (by decide) (br_t (by decide) ⟨hF, br_c (fun hz => ?_) (fun hz => ⟨ho, ?_⟩)⟩))))))))))
    · rw [if_pos hz] at hp; exact hp
    · rw [if_neg hz] at hp; exact hp
end
section
variable {post : SX → Prop} {c : Int32} {O F G S V SB VB : Nat → Int32} {p0 : Int32}
theorem xb_54 {z0 oth nd : Int32} (hi : vp_in p0 16) (hw : pm_wf O F G p0.toNatClampNeg) (h1 : ¬ O p0.toNatClampNeg = -1)
    (hv : z0 = 0 → ¬ O p0.toNatClampNeg = 8 ∧ (¬ O p0.toNatClampNeg = 5 → ¬ O p0.toNatClampNeg = 6 → vp_in oth 16))
    (hp : post (c, O, F, G, upd S p0.toNatClampNeg z0, upd V p0.toNatClampNeg (if z0 = 0 then pm_ov O F (upd S p0.toNatClampNeg z0) V p0.toNatClampNeg oth nd else 0), SB, VB)) :
    wX_settle_54 post p0 nd oth z0 c O F G S V SB VB := by
  unfold wX_settle_54
  refine ⟨hi, nm_e (br_c (fun hz => ?_) (fun hz => ⟨hi, nm_e ?_⟩))⟩
  · rw [if_pos hz] at hp
    exact xb_ov hi hw h1 (hv hz).1 (hv hz).2 ⟨hi, nm_e hp⟩
  · rw [if_neg hz] at hp; exact hp
theorem xb_os0 {V : Nat → Int32} {op oth : Int32} (h : pm_os V op oth = 0) : ¬ op = 8 ∧ (op = 4 → ¬ oth = -1) := by
  unfold pm_os at h
  constructor
  · intro z; rw [if_pos z] at h; exact absurd h (by decide)
  · intro z y
    rw [if_neg (by rw [z]; decide), if_pos z, if_pos y] at h
    exact absurd h (by decide)
theorem xb_ovu {i : Nat} {z oth nd : Int32} (h : O i = 6 → (F i).toNatClampNeg ≠ i) : pm_ov O F (upd S i z) V i oth nd = pm_ov O F S V i oth nd := by
  unfold pm_ov
  by_cases h6 : O i = 6
  · rw [pk_un (h h6)]
  · simp only [if_neg h6]
theorem xb_24 (hi : vp_in p0 16) (hw : pm_wf O F G p0.toNatClampNeg) (h1 : ¬ O p0.toNatClampNeg = -1)
    (hS : S p0.toNatClampNeg = 3) (hd : ∀ j, j < 16 → bt (pm_nd O F G S V p0.toNatClampNeg) j = true → ¬ S j = 3)
    (hp : post (c, O, F, G, upd S p0.toNatClampNeg (pm_st O F G S V p0.toNatClampNeg), upd V p0.toNatClampNeg (pm_vl O F G S V p0.toNatClampNeg), SB, VB)) :
    wX_settle_24 post p0 (pm_nd O F G S V p0.toNatClampNeg) (pm_oth O F G S V p0.toNatClampNeg) c O F G S V SB VB := by
  have hu : ∀ z, pm_ov O F (upd S p0.toNatClampNeg z) V p0.toNatClampNeg (pm_oth O F G S V p0.toNatClampNeg) (pm_nd O F G S V p0.toNatClampNeg) = pm_ov O F S V p0.toNatClampNeg (pm_oth O F G S V p0.toNatClampNeg) (pm_nd O F G S V p0.toNatClampNeg) := by
    intro z
    apply xb_ovu
    intro h6 e
    obtain ⟨hF, hb⟩ := sn_F (S := S) (V := V) hw h1 (by rw [h6]; decide) (by rw [h6]; decide)
    have := hd _ (sn_lt hF) hb
    rw [e] at this
    exact this hS
  unfold wX_settle_24
  refine xb_fe hi hw h1 (br_c (fun he => ⟨hi, ?_⟩) (fun he => ?_))
  · have est : pm_st O F G S V p0.toNatClampNeg = pm_os V (O p0.toNatClampNeg) (pm_oth O F G S V p0.toNatClampNeg) := if_pos he
    refine xa_os ?_ ?_
    · intro h3
      rcases hw with h | h | ⟨hF, h | h | ⟨hG, h⟩⟩
      · exact absurd h h1
      · rw [h] at h3; exact absurd h3 (by decide)
      · rw [h] at h3; exact absurd h3 (by decide)
      · rw [h] at h3; exact absurd h3 (by decide)
      · unfold pm_oth
        rw [if_neg (by rw [h3]; decide)]; exact hG
    · rw [← est]
      refine xb_54 hi hw h1 ?_ ?_
      · intro hz
        rw [est] at hz
        obtain ⟨h8, h4⟩ := xb_os0 hz
        refine ⟨h8, fun n5 n6 => ?_⟩
        rcases hw with h | h | ⟨hF, h | h | ⟨hG, h | h⟩⟩
        · exact absurd h h1
        · exact absurd h h8
        · exact absurd h n6
        · have ht := h4 h
          have eo : pm_oth O F G S V p0.toNatClampNeg = pm_tg F G S V p0.toNatClampNeg := if_pos h
          rw [eo] at ht ⊢
          rcases sq_tg F G S V p0.toNatClampNeg with y | ⟨_, y, _⟩
          · exact absurd y ht
          · exact y
        · exact absurd h n5
        · have eo : pm_oth O F G S V p0.toNatClampNeg = G p0.toNatClampNeg := if_neg (by rcases h with h | h | h | h | h <;> rw [h] <;> decide)
          rw [eo]; exact hG
      · rw [hu]; exact hp
  · have est : pm_st O F G S V p0.toNatClampNeg = pm_er O F G S V p0.toNatClampNeg := if_neg he
    rw [← est]
    rw [← est] at he
    refine xb_54 hi hw h1 (fun z => absurd z he) ?_
    rw [hu]; exact hp
theorem xb_settle (hi : vp_in p0 16) (hw : pm_wf O F G p0.toNatClampNeg) (h1 : ¬ O p0.toNatClampNeg = -1)
    (hS : S p0.toNatClampNeg = 3) (hd : ∀ j, j < 16 → bt (pm_nd O F G S V p0.toNatClampNeg) j = true → ¬ S j = 3)
    (hp : post (c, O, F, G, upd S p0.toNatClampNeg (pm_st O F G S V p0.toNatClampNeg), upd V p0.toNatClampNeg (pm_vl O F G S V p0.toNatClampNeg), SB, VB)) :
    wpX_settle post (c, O, F, G, S, V, SB, VB) p0 (pm_nd O F G S V p0.toNatClampNeg) := by
  have hx := xb_24 (post := post) (c := c) (SB := SB) (VB := VB) hi hw h1 hS hd hp
  unfold wpX_settle; dsimp only
  refine ⟨hi, br_c (fun h4 => ?_) (fun h4 => ⟨hi, ?_⟩)⟩
  · have eo : pm_oth O F G S V p0.toNatClampNeg = pm_tg F G S V p0.toNatClampNeg := if_pos h4
    rw [eo] at hx
    refine xa_tt hi ?_ hx
    rcases hw with h | h | ⟨hF, _⟩
    · rw [h] at h4; exact absurd h4 (by decide)
    · rw [h] at h4; exact absurd h4 (by decide)
    · exact hF
  · have eo : pm_oth O F G S V p0.toNatClampNeg = G p0.toNatClampNeg := if_neg h4
    rw [eo] at hx
    exact hx
end
end
section
section
variable {c : Int32} {O F G SB VB : Nat → Int32}
theorem xc_row (post : SX → Prop) (J2 : Int32 → Int32 → (Nat → Int32) → (Nat → Int32) → (Nat → Int32) → (Nat → Int32) → (Nat → Int32) → (Nat → Int32) → (Nat → Int32) → Prop) (x1 : Int32) (hw : ∀ i, i < 16 → pm_wf O F G i) :
    ∀ (d j : Nat) (S V : Nat → Int32), j + d = 16 → pm_iv O (S, V) → J2 (x1 + 1) c O F G (pm_row O F G d j (S, V)).1 (pm_row O F G d j (S, V)).2 SB VB → wX_settleAll_10 post J2 x1 (d + 1) (nI j) c O F G S V SB VB := by
  intro d
  induction d with
  | zero => intro j S V hj _ hJ; exact br_t (sb_g16 (by omega) (by omega)) (nm_e hJ)
  | succ d ih =>
    intro j S V hj hiv hJ
    have hin : vp_in (nI j) 16 := vp_in_nI (by omega) (by decide)
    have ec : (nI j).toNatClampNeg = j := nI_clamp (by omega)
    have hn := sb_n16 (j := j) (by omega)
    have hwj := hw j (by omega)
    have hiv2 := sv_step hwj (by omega) hiv
    have er : pm_row O F G (d + 1) j (S, V) = pm_row O F G d (j + 1) (pm_step O F G j (S, V)) := rfl
    rw [er] at hJ
    refine br_f hn (xa_nd hin (by rw [ec]; exact hwj) (xa_circ ⟨hin, br_c (fun h3 => br_c (fun hm => ?_) (fun hm => ?_)) (fun h3 => ?_)⟩))
    · rw [ec] at h3 hm
      have e : pm_step O F G j (S, V) = (upd S j (pm_st O F G S V j), upd V j (pm_vl O F G S V j)) := if_pos ⟨h3, hm⟩
      rw [e] at hJ hiv2
      refine xb_settle hin (by rw [ec]; exact hwj) (by rw [ec]; exact fun z => hiv.2.1 j (by omega) z h3) (by rw [ec]; exact h3) (by rw [ec]; exact (sn_cond hwj).mp hm) ?_
      refine nm_r (nI_1 j) ?_
      rw [ec]
      exact ih (j + 1) _ _ (by omega) hiv2 hJ
    · rw [ec] at h3 hm
      have e : pm_step O F G j (S, V) = (S, V) := if_neg (fun z => hm z.2)
      rw [e] at hJ
      exact nm_r (nI_1 j) (ih (j + 1) S V (by omega) hiv hJ)
    · rw [ec] at h3
      have e : pm_step O F G j (S, V) = (S, V) := if_neg (fun z => h3 z.1)
      rw [e] at hJ
      exact nm_r (nI_1 j) (ih (j + 1) S V (by omega) hiv hJ)
theorem xc_run (post : SX → Prop) (hw : ∀ i, i < 16 → pm_wf O F G i) :
    ∀ (d j : Nat) (S V : Nat → Int32), j + d = 16 → pm_iv O (S, V) → post (c, O, F, G, (pm_run O F G d (S, V)).1, (pm_run O F G d (S, V)).2, SB, VB) → wX_settleAll_2 post (d + 1) (nI j) c O F G S V SB VB := by
  intro d
  induction d with
  | zero => intro j S V hj _ hp; exact br_t (sb_g16 (by omega) (by omega)) hp
  | succ d ih =>
    intro j S V hj hiv hp
    have hn := sb_n16 (j := j) (by omega)
    refine br_f hn ⟨17, xc_row post _ (nI j) hw 16 0 S V rfl hiv ?_⟩
    rw [nI_1]
    have er : pm_run O F G (d + 1) (S, V) = pm_run O F G d (pm_row O F G 16 0 (S, V)) := rfl
    rw [er] at hp
    have hiv2 := sv_row hw 16 0 (S, V) rfl hiv
    generalize pm_row O F G 16 0 (S, V) = s at hp hiv2 ⊢
    obtain ⟨S2, V2⟩ := s
    exact ih (j + 1) S2 V2 (by omega) hiv2 hp
theorem xc_all {post : SX → Prop} (hw : ∀ i, i < 16 → pm_wf O F G i) (hp : post (c, O, F, G, (pm_all O F G).1, (pm_all O F G).2, SB, VB)) : wpX_settleAll post (c, O, F, G, pm_s0 O, pm_v0 O F, SB, VB) := by
  unfold pm_all at hp
  exact ⟨17, xc_run post hw 16 0 _ _ rfl sv_0 hp⟩
/-- f below j, g from j on -/
def pm_ua (f g : Nat → Int32) (j : Nat) : Nat → Int32 := fun k => if k < j then f k else g k
theorem xc_ua0 (f g : Nat → Int32) : pm_ua f g 0 = g := by
  funext k
  exact if_neg (by omega)
theorem xc_uaj (f g : Nat → Int32) (j : Nat) : pm_ua f g j j = g j := if_neg (by omega)
theorem xc_ual (f g : Nat → Int32) {j k : Nat} (h : k < j) : pm_ua f g j k = f k := if_pos h
theorem xc_uas (f g : Nat → Int32) (j : Nat) : upd (pm_ua f g j) j (f j) = pm_ua f g (j + 1) := by
  funext k
  by_cases e : k = j
  · subst e
    rw [pk_us, xc_ual f g (by omega)]
  · rw [pk_un e]
    unfold pm_ua
    by_cases h : k < j
    · rw [if_pos h, if_pos (by omega)]
    · rw [if_neg h, if_neg (by omega)]
theorem xc_un (post : SX → Prop) (S V : Nat → Int32) (hp : post (c, O, F, G, pm_ua (pm_s0 O) S 16, pm_ua (pm_v0 O F) V 16, pm_ua S SB 16, pm_ua V VB 16)) :
    ∀ d j : Nat, j + d = 16 → wX_unsettleAll_2 post c (d + 1) (nI j) O F G (pm_ua (pm_s0 O) S j) (pm_ua (pm_v0 O F) V j) (pm_ua S SB j) (pm_ua V VB j) := by
  intro d
  induction d with
  | zero =>
    intro j hj
    obtain rfl : j = 16 := by omega
    exact br_t (sb_g16 (by omega) (by omega)) hp
  | succ d ih =>
    intro j hj
    have hin : vp_in (nI j) 16 := vp_in_nI (by omega) (by decide)
    have ec : (nI j).toNatClampNeg = j := nI_clamp (by omega)
    have hn := sb_n16 (j := j) (by omega)
    have e1 : upd (pm_ua S SB j) (nI j).toNatClampNeg (pm_ua (pm_s0 O) S j (nI j).toNatClampNeg) = pm_ua S SB (j + 1) := by
      rw [ec, xc_uaj, xc_uas]
    have e2 : upd (pm_ua V VB j) (nI j).toNatClampNeg (pm_ua (pm_v0 O F) V j (nI j).toNatClampNeg) = pm_ua V VB (j + 1) := by
      rw [ec, xc_uaj, xc_uas]
    refine br_f hn ⟨hin, hin, nm_r e1 ⟨hin, hin, nm_r e2 ⟨hin, br_c (fun ho => ?_) (fun ho => ?_)⟩⟩⟩
    · rw [ec] at ho
      have s0 : pm_s0 O j = 0 := by unfold pm_s0; rw [if_pos (by omega), if_pos ho]
      have v0 : pm_v0 O F j = F j := by unfold pm_v0; rw [if_pos (by omega), if_pos ho]
      have e3 : upd (pm_ua (pm_s0 O) S j) (nI j).toNatClampNeg 0 = pm_ua (pm_s0 O) S (j + 1) := by
        rw [ec, ← s0, xc_uas]
      have e4 : upd (pm_ua (pm_v0 O F) V j) (nI j).toNatClampNeg (F (nI j).toNatClampNeg) = pm_ua (pm_v0 O F) V (j + 1) := by
        rw [ec, ← v0, xc_uas]
      exact br_f (by decide) ⟨hin, nm_r e3 (br_f (by decide) ⟨hin, hin, nm_r e4 (nm_r (nI_1 j) (ih (j + 1) (by omega)))⟩)⟩
    · rw [ec] at ho
      have s0 : pm_s0 O j = 3 := by unfold pm_s0; rw [if_pos (by omega), if_neg ho]
      have v0 : pm_v0 O F j = 0 := by unfold pm_v0; rw [if_pos (by omega), if_neg ho]
      have e3 : upd (pm_ua (pm_s0 O) S j) (nI j).toNatClampNeg 3 = pm_ua (pm_s0 O) S (j + 1) := by
        rw [ec, ← s0, xc_uas]
      have e4 : upd (pm_ua (pm_v0 O F) V j) (nI j).toNatClampNeg 0 = pm_ua (pm_v0 O F) V (j + 1) := by
        rw [ec, ← v0, xc_uas]
      exact br_t rfl ⟨hin, nm_r e3 (br_t rfl ⟨hin, nm_r e4 (nm_r (nI_1 j) (ih (j + 1) (by omega)))⟩)⟩
theorem xc_uaz {f g : Nat → Int32} (hf : ∀ k, 16 ≤ k → f k = 0) (hg : ∀ k, 16 ≤ k → g k = 0) : pm_ua f g 16 = f := by
  funext k
  unfold pm_ua
  by_cases h : k < 16
  · rw [if_pos h]
  · rw [if_neg h, hf k (by omega), hg k (by omega)]
theorem xc_s0z (O : Nat → Int32) : ∀ k, 16 ≤ k → pm_s0 O k = 0 := fun k h => if_neg (by omega)
theorem xc_v0z (O F : Nat → Int32) : ∀ k, 16 ≤ k → pm_v0 O F k = 0 := fun k h => if_neg (by omega)
theorem xc_unset {post : SX → Prop} {S V : Nat → Int32} (hS : ∀ k, 16 ≤ k → S k = 0) (hV : ∀ k, 16 ≤ k → V k = 0)
    (hp : post (c, O, F, G, pm_s0 O, pm_v0 O F, pm_ua S SB 16, pm_ua V VB 16)) : wpX_unsettleAll post (c, O, F, G, S, V, SB, VB) := by
  refine ⟨17, ?_⟩
  have h := xc_un (c := c) (O := O) (F := F) (G := G) (SB := SB) (VB := VB) post S V (by
    rw [xc_uaz (xc_s0z O) hS, xc_uaz (xc_v0z O F) hV]; exact hp) 16 0 rfl
  rw [xc_ua0, xc_ua0, xc_ua0, xc_ua0] at h
  exact h
theorem xc_nc (post : SX → Prop) (S V S2 V2 : Nat → Int32) : ∀ (d j : Nat) (m : Int32), j + d = 16 → post (pm_ch S V S2 V2 d j m, O, F, G, S, V, S2, V2) → wX_noteChanges_7 post O F G S V S2 V2 (d + 1) (nI j) m := by
  intro d
  induction d with
  | zero => intro j m hj hp; exact br_t (sb_g16 (by omega) (by omega)) hp
  | succ d ih =>
    intro j m hj hp
    have hin : vp_in (nI j) 16 := vp_in_nI (by omega) (by decide)
    have ec : (nI j).toNatClampNeg = j := nI_clamp (by omega)
    have hn := sb_n16 (j := j) (by omega)
    unfold pm_ch at hp
    refine br_f hn ⟨hin, hin, br_c (fun hs => ⟨hin, hin, br_c (fun hv => ?_) (fun hv => ?_)⟩) (fun hs => ?_)⟩
    · rw [ec] at hs hv
      rw [if_pos ⟨hs, hv⟩] at hp
      exact nm_r (nI_1 j) (ih (j + 1) _ (by omega) hp)
    · rw [ec] at hs hv
      rw [if_neg (fun z => hv z.2)] at hp
      exact nm_e (nm_r (nI_1 j) (ih (j + 1) _ (by omega) hp))
    · rw [ec] at hs
      rw [if_neg (fun z => hs z.1)] at hp
      exact nm_e (nm_r (nI_1 j) (ih (j + 1) _ (by omega) hp))
theorem xc_note {post : SX → Prop} {S V S2 V2 : Nat → Int32} (hp : post (pm_ch S V S2 V2 16 0 0, O, F, G, S, V, S2, V2)) : wpX_noteChanges post (c, O, F, G, S, V, S2, V2) :=
  ⟨17, xc_nc post S V S2 V2 16 0 0 rfl hp⟩
theorem xc_chu (S V S2 V2 A B : Nat → Int32) : ∀ (d j : Nat) (m : Int32), j + d = 16 → pm_ch S V (pm_ua S2 A 16) (pm_ua V2 B 16) d j m = pm_ch S V S2 V2 d j m := by
  intro d
  induction d with
  | zero => intro j m _; rfl
  | succ d ih =>
    intro j m hj
    unfold pm_ch
    rw [ih (j + 1) _ (by omega), xc_ual S2 A (by omega), xc_ual V2 B (by omega)]
theorem xc_hold {post : SX → Prop} {S V : Nat → Int32} {p0 p1 p2 p3 : Int32} (hi : vp_in p0 16) (hS : ∀ k, 16 ≤ k → S k = 0) (hV : ∀ k, 16 ≤ k → V k = 0)
    (hw : ∀ i, i < 16 → pm_wf (upd O p0.toNatClampNeg p1) (upd F p0.toNatClampNeg p2) (upd G p0.toNatClampNeg p3) i)
    (hp : ∀ A B : Nat → Int32, post (pm_ch (pm_all (upd O p0.toNatClampNeg p1) (upd F p0.toNatClampNeg p2) (upd G p0.toNatClampNeg p3)).1 (pm_all (upd O p0.toNatClampNeg p1) (upd F p0.toNatClampNeg p2) (upd G p0.toNatClampNeg p3)).2 S V 16 0 0,
      upd O p0.toNatClampNeg p1, upd F p0.toNatClampNeg p2, upd G p0.toNatClampNeg p3, (pm_all (upd O p0.toNatClampNeg p1) (upd F p0.toNatClampNeg p2) (upd G p0.toNatClampNeg p3)).1, (pm_all (upd O p0.toNatClampNeg p1) (upd F p0.toNatClampNeg p2) (upd G p0.toNatClampNeg p3)).2, A, B)) :
    wpX_hold post (c, O, F, G, S, V, SB, VB) p0 p1 p2 p3 := by
  unfold wpX_hold; dsimp only
  refine ⟨hi, nm_e ⟨hi, nm_e ⟨hi, nm_e ?_⟩⟩⟩
  refine xc_unset hS hV ?_
  refine xc_all hw ?_
  have h := hp (pm_ua S SB 16) (pm_ua V VB 16)
  rw [← xc_chu _ _ S V SB VB 16 0 0 rfl] at h
  generalize pm_all (upd O p0.toNatClampNeg p1) (upd F p0.toNatClampNeg p2) (upd G p0.toNatClampNeg p3) = s at h ⊢
  exact xc_note h
end
end
section
section
variable {post : Int32 → Prop} {f : Int32} {O A B C S V oS oV : Nat → Int32} {p0 : Int32}
theorem ya_or0 (x : Int32) : x ||| 0 = x := by
  apply b_ext
  intro i _
  rw [b_or, b_0, Bool.or_false]
theorem ya_sec (hi : vp_in p0 16) (hF : vp_in (A p0.toNatClampNeg) 16) (hz : S (A p0.toNatClampNeg).toNatClampNeg = 0) (hp : post (pm_tg A B S V p0.toNatClampNeg)) : wpY_second post (f, O, A, B, C, S, V, oS, oV) p0 := by
  unfold wpY_second; dsimp only
  unfold pm_tg at hp
  rw [if_pos hz] at hp
  refine ⟨hi, hF, hi, nm_e (br_c (fun h0 => ?_) (fun h0 => ?_))⟩
  · rw [if_pos h0] at hp; exact hp
  · rw [if_neg h0] at hp
    by_cases h1 : 16 ≤ (V (A p0.toNatClampNeg).toNatClampNeg).toInt64 + (B p0.toNatClampNeg).toInt64
    · rw [if_pos h1] at hp
      exact br_f (sq_y h0 h1) hp
    · rw [if_neg h1] at hp
      exact br_t (sq_x h0 h1).1 hp
theorem ya_sec2 (hi : vp_in p0 16) (hF : vp_in (A p0.toNatClampNeg) 16) (hp : ∀ r, (r = -1 ∨ vp_in r 16) → post r) : wpY_second post (f, O, A, B, C, S, V, oS, oV) p0 := by
  unfold wpY_second; dsimp only
  refine ⟨hi, hF, hi, nm_e (br_c (fun h0 => hp _ (Or.inl rfl)) (fun h0 => ?_))⟩
  by_cases h1 : 16 ≤ (V (A p0.toNatClampNeg).toNatClampNeg).toInt64 + (B p0.toNatClampNeg).toInt64
  · exact br_f (sq_y h0 h1) (hp _ (Or.inl rfl))
  · obtain ⟨h2, k, hk, e⟩ := sq_x h0 h1
    refine br_t h2 (hp _ (Or.inr ?_))
    rw [e]
    exact vp_in_nI hk (by decide)
def pm_wl (a b : Int32) : Nat → Nat → Int32 → Int32
  | 0, _, m => m
  | d + 1, j, m => pm_wl a b d (j + 1) (if (¬ nI j < a ∧ nI j ≤ b) ∨ (¬ nI j < b ∧ ¬ a < nI j) then m ||| ((1 : Int32) <<< (nI j &&& 31)) else m)
theorem ya_wl5 : ∀ a, a < 16 → ∀ b, b < 16 → pm_wl (nI a) (nI b) 16 0 0 = (if nI b ≤ nI a then ((2 : Int32) <<< (nI a &&& 31)) - ((1 : Int32) <<< (nI b &&& 31)) else ((2 : Int32) <<< (nI b &&& 31)) - ((1 : Int32) <<< (nI a &&& 31))) := by decide +kernel
theorem ya_wl (post : Int32 → Prop) (hi : vp_in p0 16) : ∀ (d j : Nat) (m : Int32), j + d = 16 → post (pm_wl (A p0.toNatClampNeg) (B p0.toNatClampNeg) d j m) → wY_wants_112 post p0 f O A B C S V oS oV (d + 1) m (nI j) := by
  intro d
  induction d with
  | zero => intro j m hj hp; exact br_t (sb_g16 (by omega) (by omega)) hp
  | succ d ih =>
    intro j m hj hp
    have hn := sb_n16 (j := j) (by omega)
    unfold pm_wl at hp
    have h163 : (if (¬ nI j < A p0.toNatClampNeg ∧ nI j ≤ B p0.toNatClampNeg) ∨ (¬ nI j < B p0.toNatClampNeg ∧ ¬ A p0.toNatClampNeg < nI j) then m ||| ((1 : Int32) <<< (nI j &&& 31)) else m) = m ||| ((1 : Int32) <<< (nI j &&& 31)) →
        wY_wants_163 post (wY_wants_112 post p0 f O A B C S V oS oV (d + 1)) p0 m (nI j) f O A B C S V oS oV := by
      intro e
      rw [e] at hp
      exact nm_e (nm_r (nI_1 j) (ih (j + 1) _ (by omega) hp))
    have h141 : ¬ (¬ nI j < A p0.toNatClampNeg ∧ nI j ≤ B p0.toNatClampNeg) → wY_wants_141 post (wY_wants_112 post p0 f O A B C S V oS oV (d + 1)) p0 m (nI j) f O A B C S V oS oV := by
      intro e
      refine ⟨hi, br_c (fun hb => ?_) (fun hb => ⟨hi, br_c (fun ha => ?_) (fun ha => ?_)⟩)⟩
      · rw [if_neg (fun z => z.elim e (fun y => y.1 hb))] at hp
        exact nm_r (nI_1 j) (ih (j + 1) _ (by omega) hp)
      · rw [if_neg (fun z => z.elim e (fun y => y.2 ha))] at hp
        exact nm_r (nI_1 j) (ih (j + 1) _ (by omega) hp)
      · exact h163 (if_pos (Or.inr ⟨hb, ha⟩))
    refine br_f hn ⟨hi, br_c (fun ha => ?_) (fun ha => ⟨hi, br_c (fun hb => ?_) (fun hb => ?_)⟩)⟩
    · exact h141 (fun z => z.1 ha)
    · exact h163 (if_pos (Or.inl ⟨ha, hb⟩))
    · exact h141 (fun z => hb z.2)
theorem ya_62 {z : Int32} (hi : vp_in p0 16) (h4 : O p0.toNatClampNeg = 4) (hz : z = pm_tg A B S V p0.toNatClampNeg) (hp : post (pm_nd O A B S V p0.toNatClampNeg)) : wY_wants_62 post p0 z f O A B C S V oS oV := by
  subst hz
  rw [sn_4 h4] at hp
  rcases sq_tg A B S V p0.toNatClampNeg with ht | ⟨_, ht, hn⟩
  · rw [if_pos ht] at hp
    refine ⟨hi, br_t (by rw [ht]; decide) ?_⟩
    rw [ya_or0]; exact hp
  · rw [if_neg hn] at hp
    obtain ⟨k, hk, e, _⟩ := sq_in ht
    exact ⟨hi, br_f (by rw [e]; exact (sq_k k hk).2.1) hp⟩
theorem ya_nd (hi : vp_in p0 16) (hw : pm_wf O A B p0.toNatClampNeg) (hp : post (pm_nd O A B S V p0.toNatClampNeg)) : wpY_wants post (f, O, A, B, C, S, V, oS, oV) p0 := by
  unfold wpY_wants; dsimp only
  refine ⟨hi, ?_⟩
  rcases hw with h | h | ⟨hF, h | h | ⟨hG, h | h⟩⟩
  · rw [sn_m1 h] at hp
    exact nm_r h (br_t (by decide) hp)
  · rw [sn_8 h] at hp
    exact nm_r h (br_f (by decide) (br_t (by decide) hp))
  · rw [sn_6 h] at hp
    exact nm_r h (br_f (by decide) (br_f (by decide) (br_t (by decide) ⟨hi, hp⟩)))
  · refine nm_r h (br_f (by decide) (br_f (by decide) (br_f (by decide) (br_t (by decide) ⟨hi, hF, br_c (fun hz => ?_) (fun hz => ?_)⟩))))
    · exact ya_sec hi hF hz (ya_62 hi h rfl hp)
    · exact ya_62 hi h (by unfold pm_tg; rw [if_neg hz]) hp
  · rw [sn_5 h] at hp
    refine nm_r h (br_f (by decide) (br_f (by decide) (br_f (by decide) (br_f (by decide) (br_t (by decide) ⟨17, ya_wl post hi 16 0 0 rfl ?_⟩)))))
    obtain ⟨a, ha, ea, _⟩ := sq_in hF
    obtain ⟨b, hb, eb, _⟩ := sq_in hG
    rw [ea, eb] at hp ⊢
    rw [ya_wl5 a ha b hb]
    exact hp
  · rw [sn_e h] at hp
    rcases h with h | h | h | h | h
    all_goals exact nm_r h (br_f (by decide) (br_f (by decide) (br_f (by decide) (br_f (by decide) (br_f (by decide) ⟨hi, hi, hp⟩)))))
/-- the cell whose error is taken over, or -1 -/
def pm_ix (O A B S V : Nat → Int32) (i : Nat) : Int32 :=
  if O i = 8 then -1
  else if O i = 6 then (if S (A i).toNatClampNeg = 0 then -1 else A i)
  else if O i = 5 then (if pm_sc S (pm_nd O A B S V i) 16 0 = 16 then -1 else nI (pm_sc S (pm_nd O A B S V i) 16 0))
  else if S (A i).toNatClampNeg = 0 then
    if O i = 4 then (if pm_tg A B S V i = -1 then -1 else if S (pm_tg A B S V i).toNatClampNeg = 0 then -1 else pm_tg A B S V i)
    else (if S (B i).toNatClampNeg = 0 then -1 else B i)
  else A i
theorem ya_sc (post : Int32 → Prop) (m : Int32) : ∀ (d j : Nat), j + d = 16 → post (if pm_sc S m d j = 16 then -1 else nI (pm_sc S m d j)) → wY_firstError_156 post m f O A B C S V oS oV (d + 1) (nI j) := by
  intro d
  induction d with
  | zero =>
    intro j hj hp
    have e : pm_sc S m 0 j = 16 := by show j = 16; omega
    rw [if_pos e] at hp
    exact br_t (sb_g16 (by omega) (by omega)) hp
  | succ d ih =>
    intro j hj hp
    have hin : vp_in (nI j) 16 := vp_in_nI (by omega) (by decide)
    have ec : (nI j).toNatClampNeg = j := nI_clamp (by omega)
    have hn := sb_n16 (j := j) (by omega)
    by_cases hb : bt m j = true
    · have h2 := (sb_shr1 m (j := j) (by omega)).mpr hb
      by_cases z : S j = 0
      · have e : pm_sc S m (d + 1) j = pm_sc S m d (j + 1) := if_neg (fun y => y.2 z)
        rw [e] at hp
        exact br_f hn (br_t h2 ⟨hin, br_t (by rw [ec]; exact z) (nm_r (nI_1 j) (ih (j + 1) (by omega) hp))⟩)
      · have e : pm_sc S m (d + 1) j = j := if_pos ⟨hb, z⟩
        rw [e, if_neg (by omega)] at hp
        exact br_f hn (br_t h2 ⟨hin, br_f (by rw [ec]; exact z) hp⟩)
    · have h2 : ¬ ((m >>> (nI j &&& 31)) &&& 1) = 1 := fun z => hb ((sb_shr1 m (j := j) (by omega)).mp z)
      have e : pm_sc S m (d + 1) j = pm_sc S m d (j + 1) := if_neg (fun y => hb y.1)
      rw [e] at hp
      exact br_f hn (br_f h2 (nm_r (nI_1 j) (ih (j + 1) (by omega) hp)))
theorem ya_131n {x3 x5 z0 : Int32} (hp : post x3) : wY_firstError_131 post x3 1 x5 z0 f O A B C S V oS oV := br_f (by decide) hp
theorem ya_77n {m x3 z0 : Int32} (hi : vp_in p0 16) (hz : z0 = -1 ∨ vp_in z0 16) (hp : post x3) : wY_firstError_77 post p0 m x3 1 z0 f O A B C S V oS oV := by
  refine ⟨hi, br_c (fun _ => ya_131n hp) (fun _ => ⟨hi, br_c (fun _ => ya_131n hp) (fun _ => br_c (fun _ => ya_131n hp) (fun hn => br_c (fun _ => ⟨?_, br_c (fun _ => ya_131n hp) (fun _ => ya_131n hp)⟩) (fun _ => ya_131n hp)))⟩)⟩
  rcases hz with h | h
  · rw [h] at hn; exact absurd (by decide) hn
  · exact h
theorem ya_77b {m x3 z0 : Int32} (hi : vp_in p0 16) (h8 : ¬ O p0.toNatClampNeg = 8) (h6 : ¬ O p0.toNatClampNeg = 6) (hz : vp_in z0 16) (hb : bt m z0.toNatClampNeg = true) (hp : post (if S z0.toNatClampNeg = 0 then -1 else z0)) : wY_firstError_77 post p0 m x3 0 z0 f O A B C S V oS oV := by
  obtain ⟨k, hk, e, ec⟩ := sq_in hz
  have h2 : ((m >>> (z0 &&& 31)) &&& 1) = 1 := by
    rw [e]; exact (sb_shr1 m hk).mpr (ec ▸ hb)
  refine ⟨hi, br_f h8 ⟨hi, br_f h6 (br_f (by rw [e]; exact (sq_k k hk).2.1) (br_t h2 ⟨hz, br_c (fun y => ?_) (fun y => ?_)⟩))⟩⟩
  · rw [if_pos y] at hp
    exact br_t rfl (br_t rfl hp)
  · rw [if_neg y] at hp
    exact br_t rfl (br_f (by decide) hp)
theorem ya_fe (hi : vp_in p0 16) (hw : pm_wf O A B p0.toNatClampNeg) (h1 : ¬ O p0.toNatClampNeg = -1) (hp : post (pm_ix O A B S V p0.toNatClampNeg)) : wpY_firstError post (f, O, A, B, C, S, V, oS, oV) p0 := by
  unfold wpY_firstError; dsimp only
  refine ya_nd hi hw ⟨hi, ?_⟩
  unfold pm_ix at hp
  rcases hw with h | h | ⟨hF, h | h | ⟨hG, h | h⟩⟩
  · exact absurd h h1
  · rw [if_pos h] at hp
    exact br_f (by rw [h]; decide) ⟨hi, nm_e ⟨hi, br_t h ⟨hi, br_f (by rw [h]; decide) ⟨hi, ⟨hi, br_t h (br_t rfl (br_t rfl hp))⟩⟩⟩⟩⟩
  · have h8 : ¬ O p0.toNatClampNeg = 8 := by rw [h]; decide
    rw [if_neg h8, if_pos h] at hp
    refine br_f (by rw [h]; decide) ⟨hi, nm_e ⟨hi, br_f h8 ⟨hF, br_c (fun hz => ?_) (fun hz => ?_)⟩⟩⟩
    · rw [if_pos hz] at hp
      exact ⟨hi, br_f (by rw [h]; decide) ⟨hi, ⟨hi, br_f h8 ⟨hi, br_t h (br_t rfl (br_t rfl hp))⟩⟩⟩⟩
    · rw [if_neg hz] at hp
      exact ⟨hi, br_f (by rw [h]; decide) ⟨hi, ⟨hi, br_f h8 ⟨hi, br_t h (ya_131n hp)⟩⟩⟩⟩
  · have h8 : ¬ O p0.toNatClampNeg = 8 := by rw [h]; decide
    have h6 : ¬ O p0.toNatClampNeg = 6 := by rw [h]; decide
    have h5 : ¬ O p0.toNatClampNeg = 5 := by rw [h]; decide
    rw [if_neg h8, if_neg h6, if_neg h5] at hp
    refine br_f h5 ⟨hi, nm_e ⟨hi, br_f h8 ⟨hF, br_c (fun hz => ?_) (fun hz => ?_)⟩⟩⟩
    · rw [if_pos hz, if_pos h] at hp
      refine ⟨hi, br_t h (ya_sec hi hF hz ?_)⟩
      rcases sq_tg A B S V p0.toNatClampNeg with ht | ⟨_, ht, hn⟩
      · rw [if_pos ht] at hp
        rw [ht]
        exact ⟨hi, br_f h8 ⟨hi, br_f h6 (br_t (by decide) (br_t rfl (br_t rfl hp)))⟩⟩
      · rw [if_neg hn] at hp
        exact ya_77b hi h8 h6 ht (sn_T h ht hn) hp
    · rw [if_neg hz] at hp
      exact ⟨hi, br_t h (ya_sec2 hi hF (fun r hr => ya_77n hi hr hp))⟩
  · have h8 : ¬ O p0.toNatClampNeg = 8 := by rw [h]; decide
    have h6 : ¬ O p0.toNatClampNeg = 6 := by rw [h]; decide
    rw [if_neg h8, if_neg h6, if_pos h] at hp
    exact br_t h ⟨17, ya_sc post _ 16 0 rfl hp⟩
  · have h8 : ¬ O p0.toNatClampNeg = 8 := by rcases h with h | h | h | h | h <;> rw [h] <;> decide
    have h6 : ¬ O p0.toNatClampNeg = 6 := by rcases h with h | h | h | h | h <;> rw [h] <;> decide
    have h5 : ¬ O p0.toNatClampNeg = 5 := by rcases h with h | h | h | h | h <;> rw [h] <;> decide
    have h4 : ¬ O p0.toNatClampNeg = 4 := by rcases h with h | h | h | h | h <;> rw [h] <;> decide
    have e15 : B p0.toNatClampNeg &&& 15 = B p0.toNatClampNeg := by
      obtain ⟨k, hk, e, _⟩ := sq_in hG
      rw [e]; exact (sq_k k hk).2.2.2
    rw [if_neg h8, if_neg h6, if_neg h5] at hp
    refine br_f h5 ⟨hi, nm_e ⟨hi, br_f h8 ⟨hF, br_c (fun hz => ?_) (fun hz => ?_)⟩⟩⟩
    · rw [if_pos hz, if_neg h4] at hp
      refine ⟨hi, br_f h4 ⟨hi, ?_⟩⟩
      rw [e15]
      exact ya_77b hi h8 h6 hG (sn_G hG h) hp
    · rw [if_neg hz] at hp
      refine ⟨hi, br_f h4 ⟨hi, ?_⟩⟩
      rw [e15]
      exact ya_77n hi (Or.inr hG) hp
theorem ya_sm (post : Int32 → Prop) (m : Int32) : ∀ (d j : Nat) (s : Int32), j + d = 16 → post (pm_sm V m d j s) → wY_sum_11 post m f O A B C S V oS oV (d + 1) s (nI j) := by
  intro d
  induction d with
  | zero => intro j s hj hp; exact br_t (sb_g16 (by omega) (by omega)) hp
  | succ d ih =>
    intro j s hj hp
    have hin : vp_in (nI j) 16 := vp_in_nI (by omega) (by decide)
    have ec : (nI j).toNatClampNeg = j := nI_clamp (by omega)
    have hn := sb_n16 (j := j) (by omega)
    unfold pm_sm at hp
    by_cases hb : bt m j = true
    · rw [if_pos hb] at hp
      exact br_f hn (br_t ((sb_shr1 m (by omega)).mpr hb) ⟨hin, nm_r (by rw [ec]) (nm_r (nI_1 j) (ih (j + 1) _ (by omega) hp))⟩)
    · rw [if_neg hb] at hp
      exact br_f hn (br_f (fun z => hb ((sb_shr1 m (j := j) (by omega)).mp z)) (nm_r (nI_1 j) (ih (j + 1) _ (by omega) hp)))
theorem ya_sum (hi : vp_in p0 16) (hw : pm_wf O A B p0.toNatClampNeg) (hp : post (pm_sm V (pm_nd O A B S V p0.toNatClampNeg) 16 0 0)) : wpY_sum post (f, O, A, B, C, S, V, oS, oV) p0 := by
  unfold wpY_sum; dsimp only
  exact ya_nd hi hw ⟨17, ya_sm post _ 16 0 0 rfl hp⟩
end
end
section
section
variable {f : Int32} {O A B C S V oS oV : Nat → Int32} {p0 : Int32}
theorem yb_ixer {i : Nat} (hw : pm_wf O A B i) (h1 : ¬ O i = -1) (h6 : ¬ O i = 6) (h8 : ¬ O i = 8) :
    (pm_ix O A B S V i = -1 ∧ pm_er O A B S V i = 0) ∨ (vp_in (pm_ix O A B S V i) 16 ∧ ¬ S (pm_ix O A B S V i).toNatClampNeg = 0 ∧ pm_er O A B S V i = S (pm_ix O A B S V i).toNatClampNeg) := by
  unfold pm_ix
  rw [if_neg h8, if_neg h6]
  rcases hw with h | h | ⟨hF, h | h | ⟨hG, h | h⟩⟩
  · exact absurd h h1
  · exact absurd h h8
  · exact absurd h h6
  · have h5 : ¬ O i = 5 := by rw [h]; decide
    rw [if_neg h5, if_pos h, xb_e4 h]
    by_cases hz : S (A i).toNatClampNeg = 0
    · rw [if_pos hz, if_pos hz]
      rcases sq_tg A B S V i with ht | ⟨_, ht, hn⟩
      · rw [if_pos ht, if_pos ht]; exact Or.inl ⟨rfl, rfl⟩
      · rw [if_neg hn, if_neg hn]
        by_cases hy : S (pm_tg A B S V i).toNatClampNeg = 0
        · rw [if_pos hy]; exact Or.inl ⟨rfl, hy⟩
        · rw [if_neg hy]; exact Or.inr ⟨ht, hy, rfl⟩
    · rw [if_neg hz, if_neg hz]; exact Or.inr ⟨hF, hz, rfl⟩
  · rw [if_pos h, xb_e5 h]
    rcases sn_sc S (pm_nd O A B S V i) 16 0 rfl with e | ⟨e, _, ez⟩
    · rw [if_pos e, if_pos e]; exact Or.inl ⟨rfl, rfl⟩
    · rw [if_neg (by omega), if_neg (by omega), nI_clamp (by omega)]
      exact Or.inr ⟨vp_in_nI e (by decide), ez, rfl⟩
  · have h5 : ¬ O i = 5 := by rcases h with h | h | h | h | h <;> rw [h] <;> decide
    have h4 : ¬ O i = 4 := by rcases h with h | h | h | h | h <;> rw [h] <;> decide
    rw [if_neg h5, if_neg h4, xb_e0 h]
    by_cases hz : S (A i).toNatClampNeg = 0
    · rw [if_pos hz, if_pos hz]
      by_cases hy : S (B i).toNatClampNeg = 0
      · rw [if_pos hy]; exact Or.inl ⟨rfl, hy⟩
      · rw [if_neg hy]; exact Or.inr ⟨hG, hy, rfl⟩
    · rw [if_neg hz, if_neg hz]; exact Or.inr ⟨hF, hz, rfl⟩
theorem yb_upd0 {V : Nat → Int32} {i : Nat} (h : V i = 0) : upd V i 0 = V := by
  funext k
  by_cases e : k = i
  · subst e; rw [pk_us, h]
  · rw [pk_un e]
theorem yb_num {post : SY → Prop} {x : Int32} (hi : vp_in p0 16) (hp : post (f, O, A, B, C, upd S p0.toNatClampNeg 0, upd V p0.toNatClampNeg x, oS, oV)) : wpY_number post (f, O, A, B, C, S, V, oS, oV) p0 x := by
  unfold wpY_number; dsimp only
  exact ⟨hi, nm_e ⟨hi, nm_e hp⟩⟩
variable {post : SY → Prop}
theorem yb_v0 (h : O p0.toNatClampNeg = 0) (he : pm_er O A B S V p0.toNatClampNeg = 0) : pm_st O A B S V p0.toNatClampNeg = 0 ∧ pm_vl O A B S V p0.toNatClampNeg = V (A p0.toNatClampNeg).toNatClampNeg + V (B p0.toNatClampNeg).toNatClampNeg := by
  have est : pm_st O A B S V p0.toNatClampNeg = 0 := by
    unfold pm_st pm_os
    rw [if_pos he, if_neg (by rw [h]; decide), if_neg (by rw [h]; decide), if_neg (by rw [h]; decide)]
  refine ⟨est, ?_⟩
  have eo : pm_oth O A B S V p0.toNatClampNeg = B p0.toNatClampNeg := if_neg (by rw [h]; decide)
  unfold pm_vl
  rw [if_pos est, eo]
  unfold pm_ov
  rw [if_pos h]
theorem yb_v1 (h : O p0.toNatClampNeg = 1) (he : pm_er O A B S V p0.toNatClampNeg = 0) : pm_st O A B S V p0.toNatClampNeg = 0 ∧ pm_vl O A B S V p0.toNatClampNeg = V (A p0.toNatClampNeg).toNatClampNeg - V (B p0.toNatClampNeg).toNatClampNeg := by
  have est : pm_st O A B S V p0.toNatClampNeg = 0 := by
    unfold pm_st pm_os
    rw [if_pos he, if_neg (by rw [h]; decide), if_neg (by rw [h]; decide), if_neg (by rw [h]; decide)]
  refine ⟨est, ?_⟩
  have eo : pm_oth O A B S V p0.toNatClampNeg = B p0.toNatClampNeg := if_neg (by rw [h]; decide)
  unfold pm_vl
  rw [if_pos est, eo]
  unfold pm_ov
  rw [if_neg (by rw [h]; decide), if_pos h]
theorem yb_v2 (h : O p0.toNatClampNeg = 2) (he : pm_er O A B S V p0.toNatClampNeg = 0) : pm_st O A B S V p0.toNatClampNeg = 0 ∧ pm_vl O A B S V p0.toNatClampNeg = V (A p0.toNatClampNeg).toNatClampNeg * V (B p0.toNatClampNeg).toNatClampNeg := by
  have est : pm_st O A B S V p0.toNatClampNeg = 0 := by
    unfold pm_st pm_os
    rw [if_pos he, if_neg (by rw [h]; decide), if_neg (by rw [h]; decide), if_neg (by rw [h]; decide)]
  refine ⟨est, ?_⟩
  have eo : pm_oth O A B S V p0.toNatClampNeg = B p0.toNatClampNeg := if_neg (by rw [h]; decide)
  unfold pm_vl
  rw [if_pos est, eo]
  unfold pm_ov
  rw [if_neg (by rw [h]; decide), if_neg (by rw [h]; decide), if_pos h]
theorem yb_v7 (h : O p0.toNatClampNeg = 7) (he : pm_er O A B S V p0.toNatClampNeg = 0) : pm_st O A B S V p0.toNatClampNeg = 0 ∧ pm_vl O A B S V p0.toNatClampNeg = (if V (A p0.toNatClampNeg).toNatClampNeg = 0 then 0 else V (B p0.toNatClampNeg).toNatClampNeg) := by
  have est : pm_st O A B S V p0.toNatClampNeg = 0 := by
    unfold pm_st pm_os
    rw [if_pos he, if_neg (by rw [h]; decide), if_neg (by rw [h]; decide), if_neg (by rw [h]; decide)]
  refine ⟨est, ?_⟩
  have eo : pm_oth O A B S V p0.toNatClampNeg = B p0.toNatClampNeg := if_neg (by rw [h]; decide)
  unfold pm_vl
  rw [if_pos est, eo]
  unfold pm_ov
  rw [if_neg (by rw [h]; decide), if_neg (by rw [h]; decide), if_neg (by rw [h]; decide), if_neg (by rw [h]; decide), if_neg (by rw [h]; decide), if_neg (by rw [h]; decide), if_neg (by rw [h]; decide)]
theorem yb_v3 (h : O p0.toNatClampNeg = 3) (he : pm_er O A B S V p0.toNatClampNeg = 0) (hy : ¬ V (B p0.toNatClampNeg).toNatClampNeg = 0) : pm_st O A B S V p0.toNatClampNeg = 0 ∧ pm_vl O A B S V p0.toNatClampNeg = V (A p0.toNatClampNeg).toNatClampNeg / V (B p0.toNatClampNeg).toNatClampNeg := by
  have eo : pm_oth O A B S V p0.toNatClampNeg = B p0.toNatClampNeg := if_neg (by rw [h]; decide)
  have est : pm_st O A B S V p0.toNatClampNeg = 0 := by
    unfold pm_st pm_os
    rw [if_pos he, if_neg (by rw [h]; decide), if_neg (by rw [h]; decide), if_pos h, eo, if_neg hy]
  refine ⟨est, ?_⟩
  unfold pm_vl
  rw [if_pos est, eo]
  unfold pm_ov
  rw [if_neg (by rw [h]; decide), if_neg (by rw [h]; decide), if_neg (by rw [h]; decide), if_pos h, if_neg hy]
theorem yb_w3 (h : O p0.toNatClampNeg = 3) (he : pm_er O A B S V p0.toNatClampNeg = 0) (hy : V (B p0.toNatClampNeg).toNatClampNeg = 0) : pm_st O A B S V p0.toNatClampNeg = 1 ∧ pm_vl O A B S V p0.toNatClampNeg = 0 := by
  have eo : pm_oth O A B S V p0.toNatClampNeg = B p0.toNatClampNeg := if_neg (by rw [h]; decide)
  have est : pm_st O A B S V p0.toNatClampNeg = 1 := by
    unfold pm_st pm_os
    rw [if_pos he, if_neg (by rw [h]; decide), if_neg (by rw [h]; decide), if_pos h, eo, if_pos hy]
  refine ⟨est, ?_⟩
  unfold pm_vl
  rw [est]; exact if_neg (by decide)
theorem yb_v5 (h : O p0.toNatClampNeg = 5) (he : pm_er O A B S V p0.toNatClampNeg = 0) : pm_st O A B S V p0.toNatClampNeg = 0 ∧ pm_vl O A B S V p0.toNatClampNeg = pm_sm V (pm_nd O A B S V p0.toNatClampNeg) 16 0 0 := by
  have est : pm_st O A B S V p0.toNatClampNeg = 0 := by
    unfold pm_st pm_os
    rw [if_pos he, if_neg (by rw [h]; decide), if_neg (by rw [h]; decide), if_neg (by rw [h]; decide)]
  refine ⟨est, ?_⟩
  unfold pm_vl
  rw [if_pos est]
  unfold pm_ov
  rw [if_neg (by rw [h]; decide), if_neg (by rw [h]; decide), if_neg (by rw [h]; decide), if_neg (by rw [h]; decide), if_neg (by rw [h]; decide), if_pos h]
theorem yb_v6 (h : O p0.toNatClampNeg = 6) : pm_st O A B S V p0.toNatClampNeg = 0 ∧ pm_vl O A B S V p0.toNatClampNeg = if S (A p0.toNatClampNeg).toNatClampNeg = 0 then 0 else 1 := by
  have est : pm_st O A B S V p0.toNatClampNeg = 0 := by
    unfold pm_st pm_os
    rw [if_pos (xb_e6 h), if_neg (by rw [h]; decide), if_neg (by rw [h]; decide), if_neg (by rw [h]; decide)]
  refine ⟨est, ?_⟩
  unfold pm_vl
  rw [if_pos est]
  unfold pm_ov
  rw [if_neg (by rw [h]; decide), if_neg (by rw [h]; decide), if_neg (by rw [h]; decide), if_neg (by rw [h]; decide), if_neg (by rw [h]; decide), if_neg (by rw [h]; decide), if_pos h]
theorem yb_v8 (h : O p0.toNatClampNeg = 8) : pm_st O A B S V p0.toNatClampNeg = 2 ∧ pm_vl O A B S V p0.toNatClampNeg = 0 := by
  have est : pm_st O A B S V p0.toNatClampNeg = 2 := by
    unfold pm_st pm_os
    rw [if_pos (xb_e8 h), if_pos h]
  refine ⟨est, ?_⟩
  unfold pm_vl
  rw [est]; exact if_neg (by decide)
theorem yb_v4 (h : O p0.toNatClampNeg = 4) (he : pm_er O A B S V p0.toNatClampNeg = 0) (ht : ¬ pm_tg A B S V p0.toNatClampNeg = -1) : pm_st O A B S V p0.toNatClampNeg = 0 ∧ pm_vl O A B S V p0.toNatClampNeg = V (pm_tg A B S V p0.toNatClampNeg).toNatClampNeg := by
  have eo : pm_oth O A B S V p0.toNatClampNeg = pm_tg A B S V p0.toNatClampNeg := if_pos h
  have est : pm_st O A B S V p0.toNatClampNeg = 0 := by
    unfold pm_st pm_os
    rw [if_pos he, if_neg (by rw [h]; decide), if_pos h, eo, if_neg ht]
  refine ⟨est, ?_⟩
  unfold pm_vl
  rw [if_pos est, eo]
  unfold pm_ov
  rw [if_neg (by rw [h]; decide), if_neg (by rw [h]; decide), if_neg (by rw [h]; decide), if_neg (by rw [h]; decide), if_pos h]
theorem yb_w4 (h : O p0.toNatClampNeg = 4) (he : pm_er O A B S V p0.toNatClampNeg = 0) (ht : pm_tg A B S V p0.toNatClampNeg = -1) : pm_st O A B S V p0.toNatClampNeg = 2 ∧ pm_vl O A B S V p0.toNatClampNeg = 0 := by
  have eo : pm_oth O A B S V p0.toNatClampNeg = pm_tg A B S V p0.toNatClampNeg := if_pos h
  have est : pm_st O A B S V p0.toNatClampNeg = 2 := by
    unfold pm_st pm_os
    rw [if_pos he, if_neg (by rw [h]; decide), if_pos h, eo, if_pos ht]
  refine ⟨est, ?_⟩
  unfold pm_vl
  rw [est]; exact if_neg (by decide)
theorem yb_ve (he : ¬ pm_er O A B S V p0.toNatClampNeg = 0) : pm_st O A B S V p0.toNatClampNeg = pm_er O A B S V p0.toNatClampNeg ∧ pm_vl O A B S V p0.toNatClampNeg = 0 := by
  have est : pm_st O A B S V p0.toNatClampNeg = pm_er O A B S V p0.toNatClampNeg := if_neg he
  refine ⟨est, ?_⟩
  unfold pm_vl
  rw [est]; exact if_neg he
theorem yb_ev (hi : vp_in p0 16) (hw : pm_wf O A B p0.toNatClampNeg) (h1 : ¬ O p0.toNatClampNeg = -1) (hV : V p0.toNatClampNeg = 0)
    (hp : post (f, O, A, B, C, upd S p0.toNatClampNeg (pm_st O A B S V p0.toNatClampNeg), upd V p0.toNatClampNeg (pm_vl O A B S V p0.toNatClampNeg), oS, oV)) :
    wpY_evaluate post (f, O, A, B, C, S, V, oS, oV) p0 := by
  unfold wpY_evaluate; dsimp only
  refine ⟨hi, nm_e ⟨hi, nm_e ⟨hi, nm_e (ya_fe hi hw h1 ?_)⟩⟩⟩
  have hv0 : upd V p0.toNatClampNeg 0 = V := yb_upd0 hV
  by_cases h6 : O p0.toNatClampNeg = 6
  · obtain ⟨est, evl⟩ := yb_v6 (A := A) (B := B) (S := S) (V := V) h6
    have eix : pm_ix O A B S V p0.toNatClampNeg = if S (A p0.toNatClampNeg).toNatClampNeg = 0 then -1 else A p0.toNatClampNeg := by
      unfold pm_ix
      rw [if_neg (by rw [h6]; decide), if_pos h6]
    obtain ⟨hF, _⟩ := sn_F (S := S) (V := V) hw h1 (by rw [h6]; decide) (by rw [h6]; decide)
    rw [est, evl] at hp
    rw [eix]
    by_cases hz : S (A p0.toNatClampNeg).toNatClampNeg = 0
    · rw [if_pos hz] at hp ⊢
      exact br_t h6 (br_f (by decide) (yb_num hi hp))
    · rw [if_neg hz] at hp ⊢
      obtain ⟨k, hk, e, _⟩ := sq_in hF
      exact br_t h6 (br_t (by rw [e]; exact (sq_k k hk).2.2.1) (yb_num hi hp))
  · refine br_f h6 ?_
    by_cases h8 : O p0.toNatClampNeg = 8
    · obtain ⟨est, evl⟩ := yb_v8 (A := A) (B := B) (S := S) (V := V) h8
      rw [est, evl, hv0] at hp
      exact br_t h8 ⟨hi, nm_e hp⟩
    · refine br_f h8 ?_
      rcases yb_ixer (S := S) (V := V) hw h1 h6 h8 with ⟨eix, he⟩ | ⟨hix, hnz, eer⟩
      · rw [eix]
        refine br_t (by decide) ?_
        rcases hw with h | h | ⟨hF, h | h | ⟨hG, h | h⟩⟩
        · exact absurd h h1
        · exact absurd h h8
        · exact absurd h h6
        · have hz : S (A p0.toNatClampNeg).toNatClampNeg = 0 := by
            by_cases hz : S (A p0.toNatClampNeg).toNatClampNeg = 0
            · exact hz
            · have e := he
              rw [xb_e4 h, if_neg hz] at e
              exact e
          refine br_t h (ya_sec hi hF hz ?_)
          rcases sq_tg A B S V p0.toNatClampNeg with ht | ⟨_, ht, hn⟩
          · obtain ⟨est, evl⟩ := yb_w4 h he ht
            rw [est, evl] at hp
            rw [ht]
            exact br_f (by decide) ⟨hi, nm_e (br_f (by decide) ⟨hi, nm_e hp⟩)⟩
          · obtain ⟨est, evl⟩ := yb_v4 h he hn
            rw [est, evl] at hp
            obtain ⟨k, hk, e, _⟩ := sq_in ht
            have h0 : 0 ≤ pm_tg A B S V p0.toNatClampNeg := by rw [e]; exact (sq_k k hk).2.2.1
            exact br_t h0 ⟨hi, nm_e (br_t h0 ⟨ht, hi, nm_e hp⟩)⟩
        · obtain ⟨est, evl⟩ := yb_v5 h he
          rw [est, evl] at hp
          exact br_f (by rw [h]; decide) (br_f (by rw [h]; decide) (br_t h (ya_sum hi (Or.inr (Or.inr ⟨hF, Or.inr (Or.inr ⟨hG, Or.inl h⟩)⟩)) (yb_num hi hp))))
        · rcases h with h | h | h | h | h
          · obtain ⟨est, evl⟩ := yb_v0 h he
            rw [est, evl] at hp
            exact br_f (by rw [h]; decide) (br_f (by rw [h]; decide) (br_f (by rw [h]; decide) ⟨hF, nm_e ⟨hG, nm_e (br_f (by rw [h]; decide) (br_t h (yb_num hi hp)))⟩⟩))
          · obtain ⟨est, evl⟩ := yb_v1 h he
            rw [est, evl] at hp
            exact br_f (by rw [h]; decide) (br_f (by rw [h]; decide) (br_f (by rw [h]; decide) ⟨hF, nm_e ⟨hG, nm_e (br_f (by rw [h]; decide) (br_f (by rw [h]; decide) (br_t h (yb_num hi hp))))⟩⟩))
          · obtain ⟨est, evl⟩ := yb_v2 h he
            rw [est, evl] at hp
            exact br_f (by rw [h]; decide) (br_f (by rw [h]; decide) (br_f (by rw [h]; decide) ⟨hF, nm_e ⟨hG, nm_e (br_f (by rw [h]; decide) (br_f (by rw [h]; decide) (br_f (by rw [h]; decide) (br_t h (yb_num hi hp)))))⟩⟩))
          · by_cases hy : V (B p0.toNatClampNeg).toNatClampNeg = 0
            · obtain ⟨est, evl⟩ := yb_w3 h he hy
              rw [est, evl, hv0] at hp
              exact br_f (by rw [h]; decide) (br_t h ⟨hG, br_t hy ⟨hi, nm_e hp⟩⟩)
            · obtain ⟨est, evl⟩ := yb_v3 h he hy
              rw [est, evl] at hp
              exact br_f (by rw [h]; decide) (br_t h ⟨hG, br_f hy (br_f (by rw [h]; decide) ⟨hF, nm_e ⟨hG, nm_e (br_t h (br_f hy ⟨hy, br_f (by rw [h]; decide) (br_f (by rw [h]; decide) (br_f (by rw [h]; decide) (br_t h (yb_num hi hp))))⟩))⟩⟩)⟩)
          · obtain ⟨est, evl⟩ := yb_v7 h he
            rw [est, evl] at hp
            refine br_f (by rw [h]; decide) (br_f (by rw [h]; decide) (br_f (by rw [h]; decide) ⟨hF, nm_e ⟨hG, nm_e (br_f (by rw [h]; decide) (br_f (by rw [h]; decide) (br_f (by rw [h]; decide) (br_f (by rw [h]; decide) (br_f (by rw [h]; decide) (br_c (fun hy => ?_) (fun hy => ?_)))))))⟩⟩))
            · rw [if_pos hy] at hp
              exact yb_num hi hp
            · rw [if_neg hy] at hp
              exact yb_num hi hp
      · obtain ⟨est, evl⟩ := yb_ve (A := A) (B := B) (O := O) (V := V) (S := S) (p0 := p0) (by rw [eer]; exact hnz)
        rw [est, evl, hv0, eer] at hp
        obtain ⟨k, hk, e, _⟩ := sq_in hix
        exact br_f (by rw [e]; exact (sq_k k hk).2.1) ⟨hix, hi, nm_e hp⟩
end
end
section
section
variable {f : Int32} {O A B C oS oV : Nat → Int32}
theorem yc_row (post : SY → Prop) (J58 : Int32 → Int32 → Int32 → (Nat → Int32) → (Nat → Int32) → (Nat → Int32) → (Nat → Int32) → (Nat → Int32) → (Nat → Int32) → (Nat → Int32) → (Nat → Int32) → Prop) (x2 : Int32) (hw : ∀ i, i < 16 → pm_wf O A B i) :
    ∀ (d j : Nat) (x1 : Int32) (S V : Nat → Int32), j + d = 16 → pm_iv O (S, V) → pm_dn S x1 →
      (∀ y : Int32, pm_dn (pm_row O A B d j (S, V)).1 y → J58 y (x2 + 1) f O A B C (pm_row O A B d j (S, V)).1 (pm_row O A B d j (S, V)).2 oS oV) →
      wY_settle_66 post J58 x2 (d + 1) x1 (nI j) f O A B C S V oS oV := by
  intro d
  induction d with
  | zero => intro j x1 S V hj _ hx hJ; exact br_t (sb_g16 (by omega) (by omega)) (nm_e (hJ x1 hx))
  | succ d ih =>
    intro j x1 S V hj hiv hx hJ
    have hin : vp_in (nI j) 16 := vp_in_nI (by omega) (by decide)
    have ec : (nI j).toNatClampNeg = j := nI_clamp (by omega)
    have hn := sb_n16 (j := j) (by omega)
    have hwj := hw j (by omega)
    have hiv2 := sv_step hwj (by omega) hiv
    have er : pm_row O A B (d + 1) j (S, V) = pm_row O A B d (j + 1) (pm_step O A B j (S, V)) := rfl
    rw [er] at hJ
    by_cases h3 : S j = 3
    · have hb : ((x1 >>> (nI j &&& 31)) &&& 1) = 0 := by
        rw [sb_shr0 x1 (by omega), hx j (by omega)]
        exact decide_eq_false (fun z => z.2 h3)
      refine br_f hn (br_t hb (ya_nd hin (by rw [ec]; exact hwj) (br_c (fun hm => ?_) (fun hm => ?_))))
      · rw [ec, sn_condY hx hwj] at hm
        have e : pm_step O A B j (S, V) = (upd S j (pm_st O A B S V j), upd V j (pm_vl O A B S V j)) := if_pos ⟨h3, hm⟩
        rw [e] at hJ hiv2
        have h1 : ¬ O j = -1 := fun z => hiv.2.1 j (by omega) z h3
        have hv0 : V j = 0 := hiv.1 j (by omega) (by show ¬ S j = 0; rw [h3]; decide)
        have hst := sn_st hwj h1 ((sn_cond hwj).mp hm)
        refine yb_ev hin (by rw [ec]; exact hwj) (by rw [ec]; exact h1) (by rw [ec]; exact hv0) ?_
        refine nm_e (nm_r (nI_1 j) ?_)
        rw [ec]
        exact ih (j + 1) _ _ _ (by omega) hiv2 (sn_dnu hx (by omega) hst) hJ
      · rw [ec, sn_condY hx hwj] at hm
        have e : pm_step O A B j (S, V) = (S, V) := if_neg (fun z => hm z.2)
        rw [e] at hJ
        exact nm_r (nI_1 j) (ih (j + 1) x1 S V (by omega) hiv hx hJ)
    · have hb : ¬ ((x1 >>> (nI j &&& 31)) &&& 1) = 0 := by
        rw [sb_shr0 x1 (by omega), hx j (by omega), decide_eq_true ⟨by omega, h3⟩]
        decide
      have e : pm_step O A B j (S, V) = (S, V) := if_neg (fun z => h3 z.1)
      rw [e] at hJ
      exact br_f hn (br_f hb (nm_r (nI_1 j) (ih (j + 1) x1 S V (by omega) hiv hx hJ)))
theorem yc_run (post : SY → Prop) (hw : ∀ i, i < 16 → pm_wf O A B i) :
    ∀ (d j : Nat) (x1 : Int32) (S V : Nat → Int32), j + d = 16 → pm_iv O (S, V) → pm_dn S x1 →
      post (f, O, A, B, C, (pm_run O A B d (S, V)).1, (pm_run O A B d (S, V)).2, oS, oV) → wY_settle_58 post (d + 1) x1 (nI j) f O A B C S V oS oV := by
  intro d
  induction d with
  | zero => intro j x1 S V hj _ _ hp; exact br_t (sb_g16 (by omega) (by omega)) hp
  | succ d ih =>
    intro j x1 S V hj hiv hx hp
    have hn := sb_n16 (j := j) (by omega)
    refine br_f hn ⟨17, yc_row post _ (nI j) hw 16 0 x1 S V rfl hiv hx ?_⟩
    rw [nI_1]
    have er : pm_run O A B (d + 1) (S, V) = pm_run O A B d (pm_row O A B 16 0 (S, V)) := rfl
    rw [er] at hp
    have hiv2 := sv_row hw 16 0 (S, V) rfl hiv
    generalize pm_row O A B 16 0 (S, V) = s at hp hiv2 ⊢
    obtain ⟨S2, V2⟩ := s
    intro y hy
    exact ih (j + 1) y S2 V2 (by omega) hiv2 hy hp
theorem yc_uu (g : Nat → Int32) (k : Nat) (a b : Int32) : upd (upd g k a) k b = upd g k b := by
  funext j
  by_cases e : j = k
  · subst e; rw [pk_us, pk_us]
  · rw [pk_un e, pk_un e, pk_un e]
theorem yc_op {i : Nat} (hw : pm_wf O A B i) : (O i = -1 ∧ ¬ 0 ≤ O i) ∨ (¬ O i = -1 ∧ 0 ≤ O i) := by
  rcases hw with h | h | ⟨hF, h | h | ⟨hG, h | h | h | h | h | h⟩⟩ <;> rw [h] <;> decide
theorem yc_4 (post : SY → Prop) (S V : Nat → Int32) (hw : ∀ i, i < 16 → pm_wf O A B i)
    (hp : ∀ x1 : Int32, pm_dn (pm_s0 O) x1 → ∃ n : Nat, wY_settle_58 post n x1 0 f O A B C (pm_ua (pm_s0 O) S 16) (pm_ua (pm_v0 O C) V 16) oS oV) :
    ∀ (d j : Nat) (x1 : Int32), j + d = 16 → (∀ k, k < 32 → bt x1 k = decide (k < j ∧ O k = -1)) →
      wY_settle_4 post (d + 1) x1 (nI j) f O A B C (pm_ua (pm_s0 O) S j) (pm_ua (pm_v0 O C) V j) oS oV := by
  intro d
  induction d with
  | zero =>
    intro j x1 hj hx
    obtain rfl : j = 16 := by omega
    refine br_t (sb_g16 (by omega) (by omega)) (hp x1 ?_)
    intro k hk
    rw [hx k hk]
    congr 1
    apply propext
    constructor
    · rintro ⟨a, b⟩
      refine ⟨a, ?_⟩
      unfold pm_s0
      rw [if_pos a, if_pos b]; decide
    · rintro ⟨a, b⟩
      refine ⟨a, ?_⟩
      by_cases h : O k = -1
      · exact h
      · exfalso
        apply b
        unfold pm_s0
        rw [if_pos a, if_neg h]
  | succ d ih =>
    intro j x1 hj hx
    have hin : vp_in (nI j) 16 := vp_in_nI (by omega) (by decide)
    have ec : (nI j).toNatClampNeg = j := nI_clamp (by omega)
    have hn := sb_n16 (j := j) (by omega)
    rcases yc_op (hw j (by omega)) with ⟨ho, h0⟩ | ⟨ho, h0⟩
    · have s0 : pm_s0 O j = 0 := by unfold pm_s0; rw [if_pos (by omega), if_pos ho]
      have v0 : pm_v0 O C j = C j := by unfold pm_v0; rw [if_pos (by omega), if_pos ho]
      have e3 : upd (upd (pm_ua (pm_s0 O) S j) (nI j).toNatClampNeg 3) (nI j).toNatClampNeg 0 = pm_ua (pm_s0 O) S (j + 1) := by
        rw [yc_uu, ec, ← s0, xc_uas]
      have e4 : upd (upd (pm_ua (pm_v0 O C) V j) (nI j).toNatClampNeg 0) (nI j).toNatClampNeg (C (nI j).toNatClampNeg) = pm_ua (pm_v0 O C) V (j + 1) := by
        rw [yc_uu, ec, ← v0, xc_uas]
      refine br_f hn ⟨hin, nm_e ⟨hin, nm_e ⟨hin, br_f (by rw [ec]; exact h0) ⟨hin, yb_num hin ?_⟩⟩⟩⟩
      rw [e3, e4]
      refine nm_e (nm_r (nI_1 j) (ih (j + 1) _ (by omega) ?_))
      intro k hk
      rw [b_or, hx k hk, sb_one j (by omega) k hk]
      by_cases e : j = k
      · subst e
        rw [decide_eq_true rfl, Bool.or_true]
        exact (decide_eq_true ⟨by omega, ho⟩).symm
      · rw [decide_eq_false e, Bool.or_false]
        congr 1
        apply propext
        constructor
        · rintro ⟨a, b⟩; exact ⟨by omega, b⟩
        · rintro ⟨a, b⟩; exact ⟨by omega, b⟩
    · have s0 : pm_s0 O j = 3 := by unfold pm_s0; rw [if_pos (by omega), if_neg ho]
      have v0 : pm_v0 O C j = 0 := by unfold pm_v0; rw [if_pos (by omega), if_neg ho]
      have e3 : upd (pm_ua (pm_s0 O) S j) (nI j).toNatClampNeg 3 = pm_ua (pm_s0 O) S (j + 1) := by
        rw [ec, ← s0, xc_uas]
      have e4 : upd (pm_ua (pm_v0 O C) V j) (nI j).toNatClampNeg 0 = pm_ua (pm_v0 O C) V (j + 1) := by
        rw [ec, ← v0, xc_uas]
      refine br_f hn ⟨hin, nm_r e3 ⟨hin, nm_r e4 ⟨hin, br_t (by rw [ec]; exact h0) (nm_r (nI_1 j) (ih (j + 1) x1 (by omega) ?_))⟩⟩⟩
      intro k hk
      rw [hx k hk]
      congr 1
      apply propext
      constructor
      · rintro ⟨a, b⟩; exact ⟨by omega, b⟩
      · rintro ⟨a, b⟩
        have : j ≠ k := fun e => ho (e ▸ b)
        exact ⟨by omega, b⟩
/-- Y's settled picture -/
def pm_yall (O A B C : Nat → Int32) : (Nat → Int32) × (Nat → Int32) := pm_run O A B 16 (pm_s0 O, pm_v0 O C)
theorem yc_settle {post : SY → Prop} {S V : Nat → Int32} (hw : ∀ i, i < 16 → pm_wf O A B i) (hS : ∀ k, 16 ≤ k → S k = 0) (hV : ∀ k, 16 ≤ k → V k = 0)
    (hp : post (f, O, A, B, C, (pm_yall O A B C).1, (pm_yall O A B C).2, oS, oV)) : wpY_settle post (f, O, A, B, C, S, V, oS, oV) := by
  refine ⟨17, ?_⟩
  have h := yc_4 (f := f) (C := C) (oS := oS) (oV := oV) post S V hw (fun x1 hx => ⟨17, by
    rw [xc_uaz (xc_s0z O) hS, xc_uaz (xc_v0z O C) hV]
    unfold pm_yall at hp
    exact yc_run post hw 16 0 x1 _ _ rfl sv_0 hx hp⟩) 16 0 0 rfl (fun k hk => by rw [b_0]; exact (decide_eq_false (by omega)).symm)
  rw [xc_ua0, xc_ua0] at h
  exact h
theorem yc_b6 (post : SY → Prop) (S V : Nat → Int32) (hp : post (f, O, A, B, C, S, V, pm_ua S oS 16, pm_ua V oV 16)) :
    ∀ d j : Nat, j + d = 16 → wY_before_6 post f (d + 1) (nI j) O A B C S V (pm_ua S oS j) (pm_ua V oV j) := by
  intro d
  induction d with
  | zero =>
    intro j hj
    obtain rfl : j = 16 := by omega
    exact br_t (sb_g16 (by omega) (by omega)) hp
  | succ d ih =>
    intro j hj
    have hin : vp_in (nI j) 16 := vp_in_nI (by omega) (by decide)
    have ec : (nI j).toNatClampNeg = j := nI_clamp (by omega)
    have hn := sb_n16 (j := j) (by omega)
    exact br_f hn ⟨hin, hin, nm_r (by rw [ec, xc_uas]) ⟨hin, hin, nm_r (by rw [ec, xc_uas]) (nm_r (nI_1 j) (ih (j + 1) (by omega)))⟩⟩
theorem yc_before {post : SY → Prop} {S V : Nat → Int32} (hw : ∀ i, i < 16 → pm_wf O A B i) (hS : ∀ k, 16 ≤ k → S k = 0) (hV : ∀ k, 16 ≤ k → V k = 0)
    (hp : post (f, O, A, B, C, (pm_yall O A B C).1, (pm_yall O A B C).2, pm_ua (pm_yall O A B C).1 oS 16, pm_ua (pm_yall O A B C).2 oV 16)) : wpY_before post (f, O, A, B, C, S, V, oS, oV) := by
  unfold wpY_before; dsimp only
  refine yc_settle hw hS hV ?_
  generalize pm_yall O A B C = s at hp ⊢
  refine ⟨17, ?_⟩
  have h := yc_b6 (f := f) post s.1 s.2 hp 16 0 rfl
  rw [xc_ua0, xc_ua0] at h
  exact h
theorem yc_cp (post : SY → Prop) (S V S2 V2 : Nat → Int32) (hq : ∀ j, j < 16 → S j = S2 j → ¬ S j = 0 → V j = V2 j) :
    ∀ (d j : Nat) (m : Int32), j + d = 16 → post (pm_ch S V S2 V2 d j m, O, A, B, C, S, V, S2, V2) → wY_compare_11 post O A B C S V S2 V2 (d + 1) (nI j) m := by
  intro d
  induction d with
  | zero => intro j m hj hp; exact br_t (sb_g16 (by omega) (by omega)) hp
  | succ d ih =>
    intro j m hj hp
    have hin : vp_in (nI j) 16 := vp_in_nI (by omega) (by decide)
    have ec : (nI j).toNatClampNeg = j := nI_clamp (by omega)
    have hn := sb_n16 (j := j) (by omega)
    unfold pm_ch at hp
    refine br_f hn ⟨hin, hin, br_c (fun hs => ⟨hin, br_c (fun hz => ⟨hin, hin, br_c (fun hv => ?_) (fun hv => ?_)⟩) (fun hz => ?_)⟩) (fun hs => ?_)⟩
    · rw [ec] at hs hv
      rw [if_pos ⟨hs, hv⟩] at hp
      exact br_f (by decide) (nm_r (nI_1 j) (ih (j + 1) _ (by omega) hp))
    · rw [ec] at hs hv
      rw [if_neg (fun z => hv z.2)] at hp
      exact br_t rfl (nm_e (nm_r (nI_1 j) (ih (j + 1) _ (by omega) hp)))
    · rw [ec] at hs hz
      rw [if_pos ⟨hs, hq j (by omega) hs hz⟩] at hp
      exact br_f (by decide) (nm_r (nI_1 j) (ih (j + 1) _ (by omega) hp))
    · rw [ec] at hs
      rw [if_neg (fun z => hs z.1)] at hp
      exact br_t rfl (nm_e (nm_r (nI_1 j) (ih (j + 1) _ (by omega) hp)))
theorem yc_compare {post : SY → Prop} {S V S2 V2 : Nat → Int32} (hw : ∀ i, i < 16 → pm_wf O A B i) (hS : ∀ k, 16 ≤ k → S k = 0) (hV : ∀ k, 16 ≤ k → V k = 0)
    (h2 : ∀ j, j < 16 → ¬ S2 j = 0 → V2 j = 0)
    (hp : ∀ a b : Nat → Int32, post (pm_ch (pm_yall O A B C).1 (pm_yall O A B C).2 S2 V2 16 0 0, O, A, B, C, (pm_yall O A B C).1, (pm_yall O A B C).2, a, b)) :
    wpY_compare post (f, O, A, B, C, S, V, pm_ua S2 oS 16, pm_ua V2 oV 16) := by
  unfold wpY_compare; dsimp only
  refine yc_settle hw hS hV ?_
  have hiv : pm_iv O (pm_yall O A B C) := sv_run hw 16 _ sv_0
  generalize pm_yall O A B C = s at hp hiv ⊢
  refine ⟨17, yc_cp post s.1 s.2 (pm_ua S2 oS 16) (pm_ua V2 oV 16) ?_ 16 0 0 rfl ?_⟩
  · intro j hj
    rw [xc_ual S2 oS hj, xc_ual V2 oV hj]
    intro e hz
    rw [hiv.1 j hj hz, h2 j hj (e ▸ hz)]
  · rw [xc_chu _ _ S2 V2 oS oV 16 0 0 rfl]
    exact hp _ _
theorem yc_hold {post : SY → Prop} {S V : Nat → Int32} {p0 p1 p2 p3 : Int32} (hi : vp_in p0 16)
    (hp : post (f, upd O p0.toNatClampNeg p1, upd A p0.toNatClampNeg (if p1 < 0 ∨ p1 = 8 then 0 else p2), upd B p0.toNatClampNeg (if p1 < 0 ∨ p1 = 8 ∨ p1 = 6 then 0 else p3), C, S, V, oS, oV)) :
    wpY_hold post (f, O, A, B, C, S, V, oS, oV) p0 p1 p2 p3 := by
  unfold wpY_hold; dsimp only
  refine ⟨hi, nm_e (br_c (fun h => ?_) (fun h => br_c (fun h8 => ?_) (fun h8 => ?_)))⟩
  · rw [if_pos (Or.inl h), if_pos (Or.inl h)] at hp
    exact ⟨hi, nm_e (br_t h ⟨hi, nm_e hp⟩)⟩
  · rw [if_pos (Or.inr h8), if_pos (Or.inr (Or.inl h8))] at hp
    exact ⟨hi, nm_e (br_f h (br_t h8 ⟨hi, nm_e hp⟩))⟩
  · rw [if_neg (fun z => z.elim h h8)] at hp
    refine ⟨hi, nm_e (br_f h (br_f h8 (br_c (fun h6 => ⟨hi, nm_e ?_⟩) (fun h6 => ⟨hi, nm_e ?_⟩))))⟩
    · rw [if_pos (Or.inr (Or.inr h6))] at hp; exact hp
    · rw [if_neg (fun z => z.elim h (fun y => y.elim h8 h6))] at hp; exact hp
end
end
section
section
variable {O F G A B C : Nat → Int32}
/-- a cell that holds the same on both sides -/
def pm_cl (O F G A B C : Nat → Int32) (i : Nat) : Prop :=
  (O i = -1 ∧ C i = F i) ∨ (¬ O i = -1 ∧ A i = F i ∧ B i = G i ∧ (O i = 8 → F i = 0 ∧ G i = 0) ∧ (O i = 6 → G i = 0))
theorem zr_wf {i : Nat} (hw : pm_wf O F G i) (hc : pm_cl O F G A B C i) : pm_wf O A B i := by
  rcases hc with ⟨h, _⟩ | ⟨_, ea, eb, _, _⟩
  · exact Or.inl h
  · unfold pm_wf at hw ⊢
    rw [ea, eb]; exact hw
theorem zr_tg {S V : Nat → Int32} {i : Nat} (ea : A i = F i) (eb : B i = G i) : pm_tg A B S V i = pm_tg F G S V i := by
  unfold pm_tg; rw [ea, eb]
theorem zr_nd {S V : Nat → Int32} {i : Nat} (hc : pm_cl O F G A B C i) : pm_nd O A B S V i = pm_nd O F G S V i := by
  rcases hc with ⟨h, _⟩ | ⟨_, ea, eb, _, _⟩
  · rw [sn_m1 h, sn_m1 h]
  · unfold pm_nd; rw [zr_tg ea eb, ea, eb]
theorem zr_st {S V : Nat → Int32} {i : Nat} (hn : pm_nd O A B S V i = pm_nd O F G S V i) (ea : A i = F i) (eb : B i = G i) : pm_st O A B S V i = pm_st O F G S V i ∧ pm_vl O A B S V i = pm_vl O F G S V i := by
  have e1 : pm_er O A B S V i = pm_er O F G S V i := by
    unfold pm_er; rw [hn, zr_tg ea eb, ea, eb]
  have e2 : pm_oth O A B S V i = pm_oth O F G S V i := by
    unfold pm_oth; rw [zr_tg ea eb, eb]
  have e3 : pm_st O A B S V i = pm_st O F G S V i := by
    unfold pm_st; rw [e1, e2]
  refine ⟨e3, ?_⟩
  unfold pm_vl
  rw [e3, e2, hn]
  unfold pm_ov
  rw [ea]
theorem zr_step {i : Nat} {s : (Nat → Int32) × (Nat → Int32)} (hc : pm_cl O F G A B C i) (hi : i < 16) (hiv : pm_iv O s) : pm_step O A B i s = pm_step O F G i s := by
  have hn := zr_nd (S := s.1) (V := s.2) hc
  rcases hc with ⟨h, _⟩ | ⟨_, ea, eb, _, _⟩
  · have h3 := hiv.2.1 i hi h
    unfold pm_step
    rw [if_neg (fun z => h3 z.1), if_neg (fun z => h3 z.1)]
  · obtain ⟨e1, e2⟩ := zr_st hn ea eb
    unfold pm_step
    rw [hn, e1, e2]
theorem zr_row (hw : ∀ i, i < 16 → pm_wf O F G i) (hc : ∀ i, i < 16 → pm_cl O F G A B C i) : ∀ (d j : Nat) (s : (Nat → Int32) × (Nat → Int32)), j + d = 16 → pm_iv O s → pm_row O A B d j s = pm_row O F G d j s := by
  intro d
  induction d with
  | zero => intro j s _ _; rfl
  | succ d ih =>
    intro j s hj hiv
    unfold pm_row
    rw [zr_step (hc j (by omega)) (by omega) hiv]
    exact ih (j + 1) _ (by omega) (sv_step (hw j (by omega)) (by omega) hiv)
theorem zr_run (hw : ∀ i, i < 16 → pm_wf O F G i) (hc : ∀ i, i < 16 → pm_cl O F G A B C i) : ∀ (d : Nat) (s : (Nat → Int32) × (Nat → Int32)), pm_iv O s → pm_run O A B d s = pm_run O F G d s := by
  intro d
  induction d with
  | zero => intro s _; rfl
  | succ d ih =>
    intro s hiv
    unfold pm_run
    rw [zr_row hw hc 16 0 s rfl hiv]
    exact ih _ (sv_row hw 16 0 s rfl hiv)
theorem zr_v0 (hc : ∀ i, i < 16 → pm_cl O F G A B C i) : pm_v0 O C = pm_v0 O F := by
  funext j
  unfold pm_v0
  by_cases h : j < 16
  · rw [if_pos h, if_pos h]
    rcases hc j h with ⟨_, e⟩ | ⟨e, _⟩
    · rw [e]
    · rw [if_neg e, if_neg e]
  · rw [if_neg h, if_neg h]
theorem zr_all (hw : ∀ i, i < 16 → pm_wf O F G i) (hc : ∀ i, i < 16 → pm_cl O F G A B C i) : pm_yall O A B C = pm_all O F G := by
  unfold pm_yall pm_all
  rw [zr_v0 hc]
  exact zr_run hw hc 16 _ sv_0
end
/-- both sheets hold the same cells; X's states and values are the settled ones -/
def i_Rel (_ : Nat) (u : SX) (v : SY) : Prop :=
  ∃ (c : Int32) (O F G SB VB A B C S V oS oV : Nat → Int32),
    u = (c, O, F, G, (pm_all O F G).1, (pm_all O F G).2, SB, VB) ∧ v = (c, O, A, B, C, S, V, oS, oV) ∧
    (∀ i, i < 16 → pm_wf O F G i) ∧ (∀ i, i < 16 → pm_cl O F G A B C i) ∧ (∀ k, 16 ≤ k → S k = 0) ∧ (∀ k, 16 ≤ k → V k = 0)
theorem i_up {k : Nat} {u : SX} {v : SY} (h : i_Rel k u v) : i_Rel (k + 5) u v := h
theorem zr_set {O F G A B C : Nat → Int32} (k : Nat) (c : Int32) (SB VB oS oV : Nat → Int32) (hw : ∀ i, i < 16 → pm_wf O F G i) (hc : ∀ i, i < 16 → pm_cl O F G A B C i) :
    i_Rel k (c, O, F, G, (pm_all O F G).1, (pm_all O F G).2, SB, VB) (c, O, A, B, C, (pm_all O F G).1, (pm_all O F G).2, oS, oV) :=
  ⟨c, O, F, G, SB, VB, A, B, C, _, _, oS, oV, rfl, rfl, hw, hc, fun k h => ((sv_all hw).2.2 k h).1, fun k h => ((sv_all hw).2.2 k h).2⟩
theorem ic_xy {post : Int32 → Prop} {p0 : Int32} (h : vp_in p0 16) (hp : post 1) : wpX_isCell post p0 := by
  obtain ⟨k, hk, rfl, _⟩ := sq_in h
  exact br_f (sq_k k hk).2.1 (br_f (sb_n16 hk) hp)
theorem ic_15 {j : Nat} (h : j < 2 ^ 31) (h2 : 16 ≤ j) : (15 : Int32) < nI j := nI_lt (a := 15) (by omega) h
theorem ic_n15 : ∀ k, k < 16 → ¬ (15 : Int32) < nI k := by decide +kernel
theorem ic_xn {post : Int32 → Prop} {p0 : Int32} (h : ¬ vp_in p0 16) (hp : post 0) : wpX_isCell post p0 := by
  by_cases h0 : p0 < 0
  · exact br_t h0 hp
  · obtain ⟨j, hj, rfl⟩ := nI_of h0
    have h2 : 16 ≤ j := by
      rcases Nat.lt_or_ge j 16 with y | y
      · exact absurd (vp_in_nI y (by decide)) h
      · exact y
    exact br_f h0 (br_t (sb_g16 h2 hj) hp)
theorem ic_yy {post : Int32 → Prop} {u : SY} {p0 : Int32} (h : vp_in p0 16) (hp : post 1) : wpY_is post u p0 := by
  obtain ⟨_, _, _, _, _, _, _, _, _⟩ := u
  obtain ⟨k, hk, rfl, _⟩ := sq_in h
  exact br_f (sq_k k hk).2.1 (br_f (ic_n15 k hk) hp)
theorem ic_yn {post : Int32 → Prop} {u : SY} {p0 : Int32} (h : ¬ vp_in p0 16) (hp : post 0) : wpY_is post u p0 := by
  obtain ⟨_, _, _, _, _, _, _, _, _⟩ := u
  by_cases h0 : p0 < 0
  · exact br_t h0 hp
  · obtain ⟨j, hj, rfl⟩ := nI_of h0
    have h2 : 16 ≤ j := by
      rcases Nat.lt_or_ge j 16 with y | y
      · exact absurd (vp_in_nI y (by decide)) h
      · exact y
    exact br_f h0 (br_t (ic_15 hj h2) hp)
theorem zr_xi (post : SX → Prop) (hp : post (0, pm_ua (fun _ => -1) (fun _ => 0) 16, fun _ => 0, fun _ => 0, fun _ => 0, fun _ => 0, fun _ => 0, fun _ => 0)) :
    ∀ d j : Nat, j + d = 16 → wX_init_67 post 0 (d + 1) (nI j) (pm_ua (fun _ => -1) (fun _ => 0) j) (fun _ => 0) (fun _ => 0) (fun _ => 0) (fun _ => 0) (fun _ => 0) (fun _ => 0) := by
  intro d
  induction d with
  | zero =>
    intro j hj
    obtain rfl : j = 16 := by omega
    exact br_t (sb_g16 (by omega) (by omega)) hp
  | succ d ih =>
    intro j hj
    have hin : vp_in (nI j) 16 := vp_in_nI (by omega) (by decide)
    have ec : (nI j).toNatClampNeg = j := nI_clamp (by omega)
    have hn := sb_n16 (j := j) (by omega)
    have e := xc_uas (fun _ => -1) (fun _ => 0) j
    exact br_f hn ⟨hin, nm_r (by rw [ec]; exact e) (nm_r (nI_1 j) (ih (j + 1) (by omega)))⟩
theorem zr_yi (post : SY → Prop) (hp : post (0, pm_ua (fun _ => -1) (fun _ => 0) 16, fun _ => 0, fun _ => 0, fun _ => 0, fun _ => 0, fun _ => 0, fun _ => 0, fun _ => 0)) :
    ∀ d j : Nat, j + d = 16 → wY_init_70 post 0 (d + 1) (nI j) (pm_ua (fun _ => -1) (fun _ => 0) j) (fun _ => 0) (fun _ => 0) (fun _ => 0) (fun _ => 0) (fun _ => 0) (fun _ => 0) (fun _ => 0) := by
  intro d
  induction d with
  | zero =>
    intro j hj
    obtain rfl : j = 16 := by omega
    exact br_t (sb_g16 (by omega) (by omega)) hp
  | succ d ih =>
    intro j hj
    have hin : vp_in (nI j) 16 := vp_in_nI (by omega) (by decide)
    have ec : (nI j).toNatClampNeg = j := nI_clamp (by omega)
    have hn := sb_n16 (j := j) (by omega)
    have e := xc_uas (fun _ => -1) (fun _ => 0) j
    exact br_f hn ⟨hin, nm_r (by rw [ec]; exact e) (nm_r (nI_1 j) (ih (j + 1) (by omega)))⟩
theorem zr_0 : pm_all (pm_ua (fun _ => -1) (fun _ => 0) 16) (fun _ => 0) (fun _ => 0) = (fun _ => 0, fun _ => 0) := by
  have es : pm_s0 (pm_ua (fun _ => -1) (fun _ => 0) 16) = fun _ => 0 := by
    funext j
    unfold pm_s0
    by_cases h : j < 16
    · rw [if_pos h, xc_ual _ _ h, if_pos rfl]
    · rw [if_neg h]
  have ev : pm_v0 (pm_ua (fun _ => -1) (fun _ => 0) 16) (fun _ => 0) = fun _ => 0 := by
    funext j
    unfold pm_v0
    by_cases h : j < 16
    · rw [if_pos h, xc_ual _ _ h, if_pos rfl]
    · rw [if_neg h]
  unfold pm_all
  rw [es, ev]
  exact sv_idrun (fun j _ => by show ¬ (0 : Int32) = 3; decide) 16
theorem i_vc0 : wpX_init (fun u => wpY_init (fun v => i_Rel 0 u v)) := by
  refine ⟨17, ?_⟩
  have hx := zr_xi (fun u => wpY_init (fun v => i_Rel 0 u v)) ?_ 16 0 rfl
  · rw [xc_ua0] at hx
    exact hx
  · refine ⟨17, ?_⟩
    have hy := zr_yi (fun v => i_Rel 0 (0, pm_ua (fun _ => -1) (fun _ => 0) 16, fun _ => 0, fun _ => 0, fun _ => 0, fun _ => 0, fun _ => 0, fun _ => 0) v) ?_ 16 0 rfl
    · rw [xc_ua0] at hy
      exact hy
    · refine ⟨0, pm_ua (fun _ => -1) (fun _ => 0) 16, fun _ => 0, fun _ => 0, fun _ => 0, fun _ => 0, fun _ => 0, fun _ => 0, fun _ => 0, fun _ => 0, fun _ => 0, fun _ => 0, fun _ => 0, ?_, rfl, ?_, ?_, fun _ _ => rfl, fun _ _ => rfl⟩
      · rw [zr_0]
      · intro i hi
        exact Or.inl (xc_ual _ _ hi)
      · intro i hi
        exact Or.inl ⟨xc_ual _ _ hi, rfl⟩
end
section
section
variable {c f : Int32} {O F G S V SB VB A B C oS oV : Nat → Int32}
theorem zs_yc (post : Int32 → SY → Prop) : ∀ (d j : Nat) (m : Int32), j + d = 16 → post (pm_cm S d j m) (f, O, A, B, C, S, V, oS, oV) → wY_circular_8 post f O A B C S V oS oV (d + 1) m (nI j) := by
  intro d
  induction d with
  | zero => intro j m hj hp; exact br_t (sb_g16 (by omega) (by omega)) hp
  | succ d ih =>
    intro j m hj hp
    have hin : vp_in (nI j) 16 := vp_in_nI (by omega) (by decide)
    have ec : (nI j).toNatClampNeg = j := nI_clamp (by omega)
    unfold pm_cm at hp
    by_cases z : S j = 3
    · rw [if_pos z] at hp
      exact br_f (sb_n16 (by omega)) ⟨hin, br_t (by rw [ec]; exact z) (nm_e (nm_r (nI_1 j) (ih (j + 1) _ (by omega) hp)))⟩
    · rw [if_neg z] at hp
      exact br_f (sb_n16 (by omega)) ⟨hin, br_f (by rw [ec]; exact z) (nm_r (nI_1 j) (ih (j + 1) _ (by omega) hp))⟩
theorem zs_xt (post : Int32 → Prop) (x : Int32) : ∀ (d j : Nat) (m : Int32), j + d = 16 → post (pm_ct S x d j m) → wX_count_4 post x c O F G S V SB VB (d + 1) m (nI j) := by
  intro d
  induction d with
  | zero => intro j m hj hp; exact br_t (sb_g16 (by omega) (by omega)) hp
  | succ d ih =>
    intro j m hj hp
    have hin : vp_in (nI j) 16 := vp_in_nI (by omega) (by decide)
    have ec : (nI j).toNatClampNeg = j := nI_clamp (by omega)
    unfold pm_ct at hp
    by_cases z : S j = x
    · rw [if_pos z] at hp
      exact br_f (sb_n16 (by omega)) ⟨hin, br_t (by rw [ec]; exact z) (nm_e (nm_r (nI_1 j) (ih (j + 1) _ (by omega) hp)))⟩
    · rw [if_neg z] at hp
      exact br_f (sb_n16 (by omega)) ⟨hin, br_f (by rw [ec]; exact z) (nm_r (nI_1 j) (ih (j + 1) _ (by omega) hp))⟩
theorem zs_yt (post : Int32 → SY → Prop) (x : Int32) : ∀ (d j : Nat) (m : Int32), j + d = 16 → post (pm_ct S x d j m) (f, O, A, B, C, S, V, oS, oV) → wY_count_8 post x f O A B C S V oS oV (d + 1) m (nI j) := by
  intro d
  induction d with
  | zero => intro j m hj hp; exact br_t (sb_g16 (by omega) (by omega)) hp
  | succ d ih =>
    intro j m hj hp
    have hin : vp_in (nI j) 16 := vp_in_nI (by omega) (by decide)
    have ec : (nI j).toNatClampNeg = j := nI_clamp (by omega)
    unfold pm_ct at hp
    by_cases z : S j = x
    · rw [if_pos z] at hp
      exact br_f (sb_n16 (by omega)) ⟨hin, br_t (by rw [ec]; exact z) (nm_e (nm_r (nI_1 j) (ih (j + 1) _ (by omega) hp)))⟩
    · rw [if_neg z] at hp
      exact br_f (sb_n16 (by omega)) ⟨hin, br_f (by rw [ec]; exact z) (nm_r (nI_1 j) (ih (j + 1) _ (by omega) hp))⟩
theorem zs_xr (post : Int32 → Prop) (J : Int32 → Int32 → Prop) (x x3 : Int32) (hw : ∀ i, i < 16 → pm_wf O F G i) : ∀ (d j : Nat) (m : Int32), j + d = 16 → J (pm_rr O F G S V x d j m) (x3 + 1) → wX_reached_22 post J x x3 c O F G S V SB VB (d + 1) m (nI j) := by
  intro d
  induction d with
  | zero => intro j m hj hp; exact br_t (sb_g16 (by omega) (by omega)) (nm_e hp)
  | succ d ih =>
    intro j m hj hp
    have hin : vp_in (nI j) 16 := vp_in_nI (by omega) (by decide)
    have ec : (nI j).toNatClampNeg = j := nI_clamp (by omega)
    unfold pm_rr at hp
    refine br_f (sb_n16 (by omega)) (xa_nd hin (by rw [ec]; exact hw j (by omega)) (br_c (fun z => ?_) (fun z => ?_)))
    · rw [ec] at z
      rw [if_pos z] at hp
      exact nm_r (nI_1 j) (ih (j + 1) _ (by omega) hp)
    · rw [ec] at z
      rw [if_neg z] at hp
      exact nm_e (nm_r (nI_1 j) (ih (j + 1) _ (by omega) hp))
theorem zs_xrc (post : Int32 → Prop) (x : Int32) (hw : ∀ i, i < 16 → pm_wf O F G i) : ∀ (d j : Nat) (m : Int32), j + d = 16 → post (pm_rc O F G S V x d m) → wX_reached_13 post x c O F G S V SB VB (d + 1) m (nI j) := by
  intro d
  induction d with
  | zero => intro j m hj hp; exact br_t (sb_g16 (by omega) (by omega)) hp
  | succ d ih =>
    intro j m hj hp
    refine br_f (sb_n16 (by omega)) ⟨17, zs_xr post _ x (nI j) hw 16 0 m rfl ?_⟩
    rw [nI_1]
    have er : pm_rc O F G S V x (d + 1) m = pm_rc O F G S V x d (pm_rr O F G S V x 16 0 m) := rfl
    rw [er] at hp
    generalize pm_rr O F G S V x 16 0 m = y at hp ⊢
    exact ih (j + 1) y (by omega) hp
theorem zs_yr (post : Int32 → SY → Prop) (J : Int32 → Int32 → Prop) (x x3 : Int32) (hw : ∀ i, i < 16 → pm_wf O A B i) : ∀ (d j : Nat) (m : Int32), j + d = 16 → J (pm_rr O A B S V x d j m) (x3 + 1) → wY_reached_27 post J x x3 f O A B C S V oS oV (d + 1) m (nI j) := by
  intro d
  induction d with
  | zero => intro j m hj hp; exact br_t (sb_g16 (by omega) (by omega)) (nm_e hp)
  | succ d ih =>
    intro j m hj hp
    have hin : vp_in (nI j) 16 := vp_in_nI (by omega) (by decide)
    have ec : (nI j).toNatClampNeg = j := nI_clamp (by omega)
    unfold pm_rr at hp
    refine br_f (sb_n16 (by omega)) (ya_nd hin (by rw [ec]; exact hw j (by omega)) (br_c (fun z => ?_) (fun z => ?_)))
    · rw [ec] at z
      rw [if_pos z] at hp
      exact nm_r (nI_1 j) (ih (j + 1) _ (by omega) hp)
    · rw [ec] at z
      rw [if_neg z] at hp
      exact nm_e (nm_r (nI_1 j) (ih (j + 1) _ (by omega) hp))
theorem zs_yrc (post : Int32 → SY → Prop) (x : Int32) (hw : ∀ i, i < 16 → pm_wf O A B i) : ∀ (d j : Nat) (m : Int32), j + d = 16 → post (pm_rc O A B S V x d m) (f, O, A, B, C, S, V, oS, oV) → wY_reached_18 post x f O A B C S V oS oV (d + 1) m (nI j) := by
  intro d
  induction d with
  | zero => intro j m hj hp; exact br_t (sb_g16 (by omega) (by omega)) hp
  | succ d ih =>
    intro j m hj hp
    refine br_f (sb_n16 (by omega)) ⟨17, zs_yr post _ x (nI j) hw 16 0 m rfl ?_⟩
    rw [nI_1]
    have er : pm_rc O A B S V x (d + 1) m = pm_rc O A B S V x d (pm_rr O A B S V x 16 0 m) := rfl
    rw [er] at hp
    generalize pm_rr O A B S V x 16 0 m = y at hp ⊢
    exact ih (j + 1) y (by omega) hp
theorem zs_rr (x : Int32) (hc : ∀ i, i < 16 → pm_cl O F G A B C i) : ∀ (d j : Nat) (m : Int32), j + d = 16 → pm_rr O A B S V x d j m = pm_rr O F G S V x d j m := by
  intro d
  induction d with
  | zero => intro j m _; rfl
  | succ d ih =>
    intro j m hj
    unfold pm_rr
    rw [zr_nd (hc j (by omega)), ih (j + 1) _ (by omega)]
theorem zs_rc (x : Int32) (hc : ∀ i, i < 16 → pm_cl O F G A B C i) : ∀ (d : Nat) (m : Int32), pm_rc O A B S V x d m = pm_rc O F G S V x d m := by
  intro d
  induction d with
  | zero => intro m; rfl
  | succ d ih =>
    intro m
    unfold pm_rc
    rw [zs_rr x hc 16 0 m rfl]
    exact ih _
end
theorem i_vc_operation {k : Nat} {u : SX} {v : SY} (I : i_Rel k u v) (hk : k + 5 ≤ 2560) (v1 : Int32) : wpX_operation (fun r => wpY_operation (fun r' => r' = r ∧ i_Rel (k + 5) u v) v v1) u v1 := by
  have I2 := i_up I
  obtain ⟨c, O, F, G, SB, VB, A, B, C, S, V, oS, oV, rfl, rfl, hw, hc, hS, hV⟩ := I
  unfold wpX_operation wpY_operation; dsimp only
  by_cases hi : vp_in v1 16
  · exact ic_xy hi (br_f (by decide) ⟨hi, ic_yy hi (br_f (by decide) ⟨hi, rfl, I2⟩)⟩)
  · exact ic_xn hi (br_t rfl (ic_yn hi (br_t rfl ⟨rfl, I2⟩)))
theorem i_vc_operand {k : Nat} {u : SX} {v : SY} (I : i_Rel k u v) (hk : k + 5 ≤ 2560) (v1 : Int32) (v2 : Int32) : wpX_operand (fun r => wpY_operand (fun r' => r' = r ∧ i_Rel (k + 5) u v) v v1 v2) u v1 v2 := by
  have I2 := i_up I
  obtain ⟨c, O, F, G, SB, VB, A, B, C, S, V, oS, oV, rfl, rfl, hw, hc, hS, hV⟩ := I
  unfold wpX_operand wpY_operand; dsimp only
  by_cases hi : vp_in v1 16
  · have hlt := sn_lt hi
    refine ic_xy hi (br_f (by decide) ⟨hi, ?_⟩)
    rcases hc _ hlt with ⟨ho, _⟩ | ⟨ho, ea, eb, _, _⟩
    · exact br_t ho (ic_yy hi (br_f (by decide) ⟨hi, br_t (by rw [ho]; decide) ⟨rfl, I2⟩⟩))
    · have h0 : ¬ O v1.toNatClampNeg < 0 := by
        rcases hw _ hlt with h | h | ⟨hF, h | h | ⟨hG, h | h | h | h | h | h⟩⟩
        · exact absurd h ho
        all_goals rw [h]; decide
      refine br_f ho (br_c (fun h => ⟨hi, ?_⟩) (fun h => br_c (fun h1 => ⟨hi, ?_⟩) (fun h1 => ?_)))
      · exact ic_yy hi (br_f (by decide) ⟨hi, br_f h0 (br_t h (br_t h ⟨hi, ea, I2⟩))⟩)
      · exact ic_yy hi (br_f (by decide) ⟨hi, br_f h0 (br_f h (br_t h1 (br_f h ⟨hi, eb, I2⟩)))⟩)
      · exact ic_yy hi (br_f (by decide) ⟨hi, br_f h0 (br_f h (br_f h1 ⟨rfl, I2⟩))⟩)
  · exact ic_xn hi (br_t rfl (ic_yn hi (br_t rfl ⟨rfl, I2⟩)))
theorem i_vc_state {k : Nat} {u : SX} {v : SY} (I : i_Rel k u v) (hk : k + 5 ≤ 2560) (v1 : Int32) : wpX_state (fun r => wpY_state (fun r' v' => r' = r ∧ i_Rel (k + 5) u v') v v1) u v1 := by
  obtain ⟨c, O, F, G, SB, VB, A, B, C, S, V, oS, oV, rfl, rfl, hw, hc, hS, hV⟩ := I
  have hR := zr_set (k + 5) c SB VB oS oV hw hc
  have hwY : ∀ i, i < 16 → pm_wf O A B i := fun i hi => zr_wf (hw i hi) (hc i hi)
  have hA := zr_all hw hc
  unfold wpX_state wpY_state; dsimp only
  generalize pm_all O F G = s at hR hA ⊢
  by_cases hi : vp_in v1 16
  · refine ic_xy hi (br_f (by decide) ⟨hi, yc_settle hwY hS hV ?_⟩)
    rw [hA]
    exact ic_yy hi (br_f (by decide) ⟨hi, rfl, hR⟩)
  · refine ic_xn hi (br_t rfl (yc_settle hwY hS hV ?_))
    rw [hA]
    exact ic_yn hi (br_t rfl ⟨rfl, hR⟩)
theorem i_vc_value {k : Nat} {u : SX} {v : SY} (I : i_Rel k u v) (hk : k + 5 ≤ 2560) (v1 : Int32) : wpX_value (fun r => wpY_value (fun r' v' => r' = r ∧ i_Rel (k + 5) u v') v v1) u v1 := by
  obtain ⟨c, O, F, G, SB, VB, A, B, C, S, V, oS, oV, rfl, rfl, hw, hc, hS, hV⟩ := I
  have hR := zr_set (k + 5) c SB VB oS oV hw hc
  have hwY : ∀ i, i < 16 → pm_wf O A B i := fun i hi => zr_wf (hw i hi) (hc i hi)
  have hA := zr_all hw hc
  have hiv := sv_all hw
  unfold wpX_value wpY_value; dsimp only
  generalize pm_all O F G = s at hR hA hiv ⊢
  by_cases hi : vp_in v1 16
  · refine ic_xy hi (br_f (by decide) ⟨hi, yc_settle hwY hS hV ?_⟩)
    rw [hA]
    refine ic_yy hi (br_f (by decide) ⟨hi, br_c (fun hz => ⟨hi, rfl, hR⟩) (fun hz => ⟨?_, hR⟩)⟩)
    exact (hiv.1 _ (sn_lt hi) hz).symm
  · refine ic_xn hi (br_t rfl (yc_settle hwY hS hV ?_))
    rw [hA]
    exact ic_yn hi (br_t rfl ⟨rfl, hR⟩)
theorem i_vc_circular {k : Nat} {u : SX} {v : SY} (I : i_Rel k u v) (hk : k + 5 ≤ 2560) : wpX_circular (fun r => wpY_circular (fun r' v' => r' = r ∧ i_Rel (k + 5) u v') v) u := by
  obtain ⟨c, O, F, G, SB, VB, A, B, C, S, V, oS, oV, rfl, rfl, hw, hc, hS, hV⟩ := I
  have hR := zr_set (k + 5) c SB VB oS oV hw hc
  have hwY : ∀ i, i < 16 → pm_wf O A B i := fun i hi => zr_wf (hw i hi) (hc i hi)
  have hA := zr_all hw hc
  generalize pm_all O F G = s at hR hA ⊢
  refine xa_circ ?_
  unfold wpY_circular; dsimp only
  refine yc_settle hwY hS hV ?_
  rw [hA]
  exact ⟨17, zs_yc _ 16 0 0 rfl ⟨rfl, hR⟩⟩
theorem i_vc_needs {k : Nat} {u : SX} {v : SY} (I : i_Rel k u v) (hk : k + 5 ≤ 2560) (v1 : Int32) : wpX_needs (fun r => wpY_needs (fun r' v' => r' = r ∧ i_Rel (k + 5) u v') v v1) u v1 := by
  obtain ⟨c, O, F, G, SB, VB, A, B, C, S, V, oS, oV, rfl, rfl, hw, hc, hS, hV⟩ := I
  have hR := zr_set (k + 5) c SB VB oS oV hw hc
  have hwY : ∀ i, i < 16 → pm_wf O A B i := fun i hi => zr_wf (hw i hi) (hc i hi)
  have hA := zr_all hw hc
  unfold wpX_needs wpY_needs; dsimp only
  generalize pm_all O F G = s at hR hA ⊢
  by_cases hi : vp_in v1 16
  · have hlt := sn_lt hi
    refine ic_xy hi (br_f (by decide) (xa_nd hi (hw _ hlt) (yc_settle hwY hS hV ?_)))
    rw [hA]
    exact ic_yy hi (br_f (by decide) (ya_nd hi (hwY _ hlt) ⟨zr_nd (hc _ hlt), hR⟩))
  · refine ic_xn hi (br_t rfl (yc_settle hwY hS hV ?_))
    rw [hA]
    exact ic_yn hi (br_t rfl ⟨rfl, hR⟩)
theorem i_vc_reached {k : Nat} {u : SX} {v : SY} (I : i_Rel k u v) (hk : k + 5 ≤ 2560) (v1 : Int32) : wpX_reached (fun r => wpY_reached (fun r' v' => r' = r ∧ i_Rel (k + 5) u v') v v1) u v1 := by
  have I2 := i_up I
  obtain ⟨c, O, F, G, SB, VB, A, B, C, S, V, oS, oV, rfl, rfl, hw, hc, hS, hV⟩ := I
  have hR := zr_set (k + 5) c SB VB oS oV hw hc
  have hwY : ∀ i, i < 16 → pm_wf O A B i := fun i hi => zr_wf (hw i hi) (hc i hi)
  have hA := zr_all hw hc
  unfold wpX_reached wpY_reached; dsimp only
  generalize pm_all O F G = s at hR hA I2 ⊢
  by_cases hi : vp_in v1 16
  · refine ic_xy hi (br_f (by decide) ⟨17, zs_xrc _ v1 hw 16 0 0 rfl (ic_yy hi (br_f (by decide) (yc_settle hwY hS hV ?_)))⟩)
    rw [hA]
    exact ⟨17, zs_yrc _ v1 hwY 16 0 0 rfl ⟨zs_rc v1 hc 16 0, hR⟩⟩
  · exact ic_xn hi (br_t rfl (ic_yn hi (br_t rfl ⟨rfl, I2⟩)))
theorem i_vc_changed {k : Nat} {u : SX} {v : SY} (I : i_Rel k u v) (hk : k + 5 ≤ 2560) : wpX_changed (fun r => wpY_changed (fun r' => r' = r ∧ i_Rel (k + 5) u v) v) u := by
  have I2 := i_up I
  obtain ⟨c, O, F, G, SB, VB, A, B, C, S, V, oS, oV, rfl, rfl, hw, hc, hS, hV⟩ := I
  exact ⟨rfl, I2⟩
theorem i_vc_count {k : Nat} {u : SX} {v : SY} (I : i_Rel k u v) (hk : k + 5 ≤ 2560) (v1 : Int32) : wpX_count (fun r => wpY_count (fun r' v' => r' = r ∧ i_Rel (k + 5) u v') v v1) u v1 := by
  obtain ⟨c, O, F, G, SB, VB, A, B, C, S, V, oS, oV, rfl, rfl, hw, hc, hS, hV⟩ := I
  have hR := zr_set (k + 5) c SB VB oS oV hw hc
  have hwY : ∀ i, i < 16 → pm_wf O A B i := fun i hi => zr_wf (hw i hi) (hc i hi)
  have hA := zr_all hw hc
  unfold wpX_count wpY_count; dsimp only
  generalize pm_all O F G = s at hR hA ⊢
  refine ⟨17, zs_xt _ v1 16 0 0 rfl (yc_settle hwY hS hV ?_)⟩
  rw [hA]
  exact ⟨17, zs_yt _ v1 16 0 0 rfl ⟨rfl, hR⟩⟩
end
section
section
variable {O F G A B C : Nat → Int32}
def zw_E (op : Int32) : Prop := op = 5 ∨ op = 0 ∨ op = 1 ∨ op = 2 ∨ op = 3 ∨ op = 7
theorem zw_Ef {op : Int32} (h : zw_E op) : ¬ op = -1 ∧ ¬ op = 8 ∧ ¬ op = 6 ∧ ¬ op = 4 ∧ ¬ op < 0 ∧ ¬ 8 ≤ op ∧ ¬ 8 < op := by
  rcases h with rfl | rfl | rfl | rfl | rfl | rfl <;> decide
theorem zw_n1 {post : Int32 → Prop} {op : Int32} (h : zw_E op) (hp : post 1) : wpX_namesSecond post op := by
  rcases h with rfl | rfl | rfl | rfl | rfl | rfl
  · exact (br_f (by decide) (br_f (by decide) (br_f (by decide) (br_f (by decide) (br_f (by decide) (br_f (by decide) (br_f (by decide) (br_t (by decide) hp))))))))
  · exact (br_f (by decide) (br_f (by decide) (br_t (by decide) hp)))
  · exact (br_f (by decide) (br_f (by decide) (br_f (by decide) (br_t (by decide) hp))))
  · exact (br_f (by decide) (br_f (by decide) (br_f (by decide) (br_f (by decide) (br_t (by decide) hp)))))
  · exact (br_f (by decide) (br_f (by decide) (br_f (by decide) (br_f (by decide) (br_f (by decide) (br_t (by decide) hp))))))
  · exact (br_f (by decide) (br_f (by decide) (br_f (by decide) (br_f (by decide) (br_f (by decide) (br_f (by decide) (br_f (by decide) (br_f (by decide) (br_f (by decide) (br_t (by decide) hp))))))))))
theorem zw_n0 {post : Int32 → Prop} {op : Int32} (h : op = -1 ∨ op = 8 ∨ op = 6 ∨ op = 4) (hp : post 0) : wpX_namesSecond post op := by
  rcases h with rfl | rfl | rfl | rfl
  · exact br_t (by decide) hp
  · exact br_f (by decide) (br_t (by decide) hp)
  · exact (br_f (by decide) (br_f (by decide) (br_f (by decide) (br_f (by decide) (br_f (by decide) (br_f (by decide) (br_f (by decide) (br_f (by decide) (br_t (by decide) hp)))))))))
  · exact (br_f (by decide) (br_f (by decide) (br_f (by decide) (br_f (by decide) (br_f (by decide) (br_f (by decide) (br_t (by decide) hp)))))))
theorem zw_f1 {post : Int32 → Prop} {op : Int32} (h : ¬ op = -1) (h8 : ¬ op = 8) (hp : post 1) : wpX_namesFirst post op := br_f h (br_f h8 hp)
theorem zw_f0 {post : Int32 → Prop} {op : Int32} (h : op = -1 ∨ op = 8) (hp : post 0) : wpX_namesFirst post op := by
  rcases h with rfl | rfl
  · exact br_t rfl hp
  · exact br_f (by decide) (br_t rfl hp)
theorem zw_rng {x : Int32} (h0 : ¬ x < 0) (h8 : ¬ 8 < x) : zw_E x ∨ x = 4 ∨ x = 6 ∨ x = 8 := by
  obtain ⟨k, hk, rfl⟩ := nI_of2 (M := 8) (n := 8) (by decide) h0 (Int32.not_lt.mp h8)
  unfold zw_E
  have : k = 0 ∨ k = 1 ∨ k = 2 ∨ k = 3 ∨ k = 4 ∨ k = 5 ∨ k = 6 ∨ k = 7 ∨ k = 8 := by omega
  rcases this with rfl | rfl | rfl | rfl | rfl | rfl | rfl | rfl | rfl <;> decide
theorem zw_wf (hw : ∀ i, i < 16 → pm_wf O F G i) (n : Nat) {op a b : Int32} (hn : pm_wf (fun _ => op) (fun _ => a) (fun _ => b) 0) : ∀ i, i < 16 → pm_wf (upd O n op) (upd F n a) (upd G n b) i := by
  intro i hi
  unfold pm_wf
  by_cases e : i = n
  · subst e
    rw [pk_us, pk_us, pk_us]; exact hn
  · rw [pk_un e, pk_un e, pk_un e]; exact hw i hi
theorem zw_cl (hc : ∀ i, i < 16 → pm_cl O F G A B C i) (n : Nat) {op a b a2 b2 : Int32} {C2 : Nat → Int32} (hC : ∀ i, i ≠ n → C2 i = C i)
    (hn : (op = -1 ∧ C2 n = a) ∨ (¬ op = -1 ∧ a2 = a ∧ b2 = b ∧ (op = 8 → a = 0 ∧ b = 0) ∧ (op = 6 → b = 0))) :
    ∀ i, i < 16 → pm_cl (upd O n op) (upd F n a) (upd G n b) (upd A n a2) (upd B n b2) C2 i := by
  intro i hi
  unfold pm_cl
  by_cases e : i = n
  · subst e
    rw [pk_us, pk_us, pk_us, pk_us, pk_us]; exact hn
  · rw [pk_un e, pk_un e, pk_un e, pk_un e, pk_un e, hC i e]; exact hc i hi
theorem zw_cmp {P : SY → Prop} {f : Int32} {O2 A2 B2 C2 oS oV : Nat → Int32} {s s2 : (Nat → Int32) × (Nat → Int32)} (hiv : pm_iv O s) (hw2 : ∀ i, i < 16 → pm_wf O2 A2 B2 i) (hA2 : pm_yall O2 A2 B2 C2 = s2)
    (hP : ∀ a b : Nat → Int32, P (pm_ch s2.1 s2.2 s.1 s.2 16 0 0, O2, A2, B2, C2, s2.1, s2.2, a, b)) :
    wpY_compare P (f, O2, A2, B2, C2, s.1, s.2, pm_ua s.1 oS 16, pm_ua s.2 oV 16) := by
  refine yc_compare hw2 (fun k h => (hiv.2.2 k h).1) (fun k h => (hiv.2.2 k h).2) (fun j hj hz => hiv.1 j hj hz) ?_
  rw [hA2]
  exact hP
end
theorem i_vc_put {k : Nat} {u : SX} {v : SY} (I : i_Rel k u v) (hk : k + 5 ≤ 2560) (v1 : Int32) (v2 : Int32) : wpX_put (fun r u' => wpY_put (fun r' v' => r' = r ∧ i_Rel (k + 5) u' v') v v1 v2) u v1 v2 := by
  have I2 := i_up I
  obtain ⟨c, O, F, G, SB, VB, A, B, C, S, V, oS, oV, rfl, rfl, hw, hc, hS, hV⟩ := I
  have hwY : ∀ i, i < 16 → pm_wf O A B i := fun i hi => zr_wf (hw i hi) (hc i hi)
  have hA := zr_all hw hc
  have hiv := sv_all hw
  unfold wpX_put wpY_put; dsimp only
  by_cases hi : vp_in v1 16
  · have hw2 := zw_wf hw v1.toNatClampNeg (op := -1) (a := v2) (b := 0) (Or.inl rfl)
    have hc2 := zw_cl (A := A) (B := B) hc v1.toNatClampNeg (op := -1) (a := v2) (b := 0) (a2 := 0) (b2 := 0) (C2 := upd C v1.toNatClampNeg v2) (fun i e => pk_un e) (Or.inl ⟨rfl, pk_us⟩)
    have hR : ∀ SB2 VB2 a b : Nat → Int32, _ := fun SB2 VB2 a b => zr_set (k + 5) (pm_ch (pm_all (upd O v1.toNatClampNeg (-1)) (upd F v1.toNatClampNeg v2) (upd G v1.toNatClampNeg 0)).1 (pm_all (upd O v1.toNatClampNeg (-1)) (upd F v1.toNatClampNeg v2) (upd G v1.toNatClampNeg 0)).2 (pm_all O F G).1 (pm_all O F G).2 16 0 0) SB2 VB2 a b hw2 hc2
    have hA2 := zr_all hw2 hc2
    have hwY2 : ∀ i, i < 16 → pm_wf _ _ _ i := fun i hi => zr_wf (hw2 i hi) (hc2 i hi)
    refine ic_xy hi (br_f (by decide) (xc_hold hi (fun k h => (hiv.2.2 k h).1) (fun k h => (hiv.2.2 k h).2) hw2 (fun SB2 VB2 => ?_)))
    generalize pm_all (upd O v1.toNatClampNeg (-1)) (upd F v1.toNatClampNeg v2) (upd G v1.toNatClampNeg 0) = s2 at hR hA2 ⊢
    generalize pm_all O F G = s at hR hA hiv ⊢
    refine ic_yy hi (br_f (by decide) (yc_before hwY hS hV ?_))
    rw [hA]
    refine yc_hold hi ?_
    rw [if_pos (Or.inl (by decide)), if_pos (Or.inl (by decide))]
    exact ⟨hi, nm_e (zw_cmp hiv hwY2 hA2 (fun a b => ⟨rfl, hR SB2 VB2 a b⟩))⟩
  · exact ic_xn hi (br_t rfl (ic_yn hi (br_t rfl ⟨rfl, I2⟩)))
end
section
theorem zw_pair {k : Nat} {c p0 op a b a2 b2 : Int32} {O F G A B C C2 SB VB : Nat → Int32} {s : (Nat → Int32) × (Nat → Int32)} (hs : pm_all O F G = s) (hi : vp_in p0 16)
    (hw : ∀ i, i < 16 → pm_wf O F G i) (hc : ∀ i, i < 16 → pm_cl O F G A B C i)
    (hn : pm_wf (fun _ => op) (fun _ => a) (fun _ => b) 0) (hC : ∀ i, i ≠ p0.toNatClampNeg → C2 i = C i)
    (hcn : (op = -1 ∧ C2 p0.toNatClampNeg = a) ∨ (¬ op = -1 ∧ a2 = a ∧ b2 = b ∧ (op = 8 → a = 0 ∧ b = 0) ∧ (op = 6 → b = 0)))
    {post : SX → Prop}
    (hpost : ∀ (q0 : Int32) (q1 q2 q3 q4 q5 q6 q7 : Nat → Int32),
      (∀ (P : SY → Prop) (f : Int32) (oS oV : Nat → Int32), (∀ v, i_Rel (k + 5) (q0, q1, q2, q3, q4, q5, q6, q7) v → P v) →
        wpY_compare P (f, upd O p0.toNatClampNeg op, upd A p0.toNatClampNeg a2, upd B p0.toNatClampNeg b2, C2, s.1, s.2, pm_ua s.1 oS 16, pm_ua s.2 oV 16)) →
      post (q0, q1, q2, q3, q4, q5, q6, q7)) :
    wpX_hold post (c, O, F, G, s.1, s.2, SB, VB) p0 op a b := by
  have hiv := sv_all hw
  have hw2 := zw_wf hw p0.toNatClampNeg hn
  have hc2 := zw_cl (A := A) (B := B) hc p0.toNatClampNeg hC hcn
  have hA2 := zr_all hw2 hc2
  have hwY2 : ∀ i, i < 16 → pm_wf _ _ _ i := fun i hi => zr_wf (hw2 i hi) (hc2 i hi)
  have hR : ∀ SB2 VB2 x y : Nat → Int32, _ := fun SB2 VB2 x y => zr_set (k + 5) (pm_ch (pm_all (upd O p0.toNatClampNeg op) (upd F p0.toNatClampNeg a) (upd G p0.toNatClampNeg b)).1 (pm_all (upd O p0.toNatClampNeg op) (upd F p0.toNatClampNeg a) (upd G p0.toNatClampNeg b)).2 s.1 s.2 16 0 0) SB2 VB2 x y hw2 hc2
  rw [hs] at hiv
  refine xc_hold hi (fun k h => (hiv.2.2 k h).1) (fun k h => (hiv.2.2 k h).2) hw2 (fun SB2 VB2 => ?_)
  generalize pm_all (upd O p0.toNatClampNeg op) (upd F p0.toNatClampNeg a) (upd G p0.toNatClampNeg b) = s2 at hR hA2 ⊢
  refine hpost _ _ _ _ _ _ _ _ ?_
  intro P f oS oV hP
  exact zw_cmp hiv hwY2 hA2 (fun x y => hP _ (hR SB2 VB2 x y))
def zw_ok (p0 p1 p2 p3 : Int32) : Prop :=
  vp_in p0 16 ∧ (p1 = 8 ∨ (p1 = 6 ∧ vp_in p2 16) ∨ (p1 = 4 ∧ vp_in p2 16 ∧ ¬ p3 < -15 ∧ p3 ≤ 15) ∨ (zw_E p1 ∧ vp_in p2 16 ∧ vp_in p3 16))
theorem zw_xf {post : Int32 → SX → Prop} {c p0 p1 p2 p3 : Int32} {O F G S V SB VB : Nat → Int32}
    (hno : ¬ zw_ok p0 p1 p2 p3 → post 0 (c, O, F, G, S, V, SB, VB))
    (hyes : zw_ok p0 p1 p2 p3 → wX_formula_105 post p0 p1 (if p1 = 8 then 0 else p2) (if p1 = 8 ∨ p1 = 6 then 0 else p3) c O F G S V SB VB) :
    wpX_formula post (c, O, F, G, S, V, SB, VB) p0 p1 p2 p3 := by
  unfold wpX_formula; dsimp only
  by_cases hi : vp_in p0 16
  · refine ic_xy hi (br_f (by decide) (br_c (fun h => hno ?_) (fun h0 => br_c (fun h8 => ?_) (fun h8 => hno ?_))))
    · rintro ⟨_, e⟩
      rcases e with rfl | ⟨rfl, _⟩ | ⟨rfl, _⟩ | ⟨e, _⟩
      · exact absurd h (by decide)
      · exact absurd h (by decide)
      · exact absurd h (by decide)
      · exact (zw_Ef e).2.2.2.2.1 h
    · rcases zw_rng h0 (Int32.not_lt.mpr h8) with hE | rfl | rfl | rfl
      · obtain ⟨n1, n8, n6, n4, _⟩ := zw_Ef hE
        refine zw_f1 n1 n8 (br_f (by decide) ?_)
        by_cases ha : vp_in p2 16
        · refine ic_xy ha (br_f (by decide) (zw_n1 hE (br_f (by decide) ?_)))
          by_cases hb : vp_in p3 16
          · refine ic_xy hb (br_f (by decide) (br_f n4 (zw_f1 n1 n8 (br_f (by decide) (zw_n1 hE (br_f (by decide) ?_))))))
            have h := hyes ⟨hi, Or.inr (Or.inr (Or.inr ⟨hE, ha, hb⟩))⟩
            rw [if_neg n8, if_neg (fun z => z.elim n8 n6)] at h
            exact h
          · refine ic_xn hb (br_t rfl (hno ?_))
            rintro ⟨_, e⟩
            rcases e with e | ⟨e, _⟩ | ⟨e, _⟩ | ⟨_, _, e⟩
            · exact n8 e
            · exact n6 e
            · exact n4 e
            · exact hb e
        · refine ic_xn ha (br_t rfl (hno ?_))
          rintro ⟨_, e⟩
          rcases e with e | ⟨e, _⟩ | ⟨e, _⟩ | ⟨_, e, _⟩
          · exact n8 e
          · exact n6 e
          · exact n4 e
          · exact ha e
      · refine zw_f1 (by decide) (by decide) (br_f (by decide) ?_)
        by_cases ha : vp_in p2 16
        · refine ic_xy ha (br_f (by decide) (zw_n0 (Or.inr (Or.inr (Or.inr rfl))) (br_t rfl (br_t rfl (br_c (fun hl => hno ?_) (fun hl => br_c (fun hh => ?_) (fun hh => hno ?_)))))))
          · rintro ⟨_, e⟩
            rcases e with e | ⟨e, _⟩ | ⟨_, _, e, _⟩ | ⟨e, _⟩
            · exact absurd e (by decide)
            · exact absurd e (by decide)
            · exact e hl
            · exact (zw_Ef e).2.2.2.1 rfl
          · refine zw_f1 (by decide) (by decide) (br_f (by decide) (zw_n0 (Or.inr (Or.inr (Or.inr rfl))) (br_t rfl (br_t rfl ?_))))
            have h := hyes ⟨hi, Or.inr (Or.inr (Or.inl ⟨rfl, ha, hl, hh⟩))⟩
            rw [if_neg (by decide), if_neg (by decide)] at h
            exact h
          · rintro ⟨_, e⟩
            rcases e with e | ⟨e, _⟩ | ⟨_, _, _, e⟩ | ⟨e, _⟩
            · exact absurd e (by decide)
            · exact absurd e (by decide)
            · exact hh e
            · exact (zw_Ef e).2.2.2.1 rfl
        · refine ic_xn ha (br_t rfl (hno ?_))
          rintro ⟨_, e⟩
          rcases e with e | ⟨e, _⟩ | ⟨_, e, _⟩ | ⟨_, e, _⟩
          · exact absurd e (by decide)
          · exact absurd e (by decide)
          · exact ha e
          · exact ha e
      · refine zw_f1 (by decide) (by decide) (br_f (by decide) ?_)
        by_cases ha : vp_in p2 16
        · refine ic_xy ha (br_f (by decide) (zw_n0 (Or.inr (Or.inr (Or.inl rfl))) (br_t rfl (br_f (by decide) (zw_f1 (by decide) (by decide) (br_f (by decide) (zw_n0 (Or.inr (Or.inr (Or.inl rfl))) (br_t rfl (br_f (by decide) ?_)))))))))
          have h := hyes ⟨hi, Or.inr (Or.inl ⟨rfl, ha⟩)⟩
          rw [if_neg (by decide), if_pos (by decide)] at h
          exact h
        · refine ic_xn ha (br_t rfl (hno ?_))
          rintro ⟨_, e⟩
          rcases e with e | ⟨_, e⟩ | ⟨_, e, _⟩ | ⟨_, e, _⟩
          · exact absurd e (by decide)
          · exact ha e
          · exact ha e
          · exact ha e
      · refine zw_f0 (Or.inr rfl) (br_t rfl (zw_n0 (Or.inr (Or.inl rfl)) (br_t rfl (br_f (by decide) (zw_f0 (Or.inr rfl) (br_t rfl (zw_n0 (Or.inr (Or.inl rfl)) (br_t rfl (br_f (by decide) ?_)))))))))
        have h := hyes ⟨hi, Or.inl rfl⟩
        rw [if_pos (by decide), if_pos (by decide)] at h
        exact h
    · rintro ⟨_, e⟩
      rcases e with rfl | ⟨rfl, _⟩ | ⟨rfl, _⟩ | ⟨e, _⟩
      · exact absurd (by decide) h8
      · exact absurd (by decide) h8
      · exact absurd (by decide) h8
      · exact (zw_Ef e).2.2.2.2.2.2 (Int32.not_le.mp h8)
  · exact ic_xn hi (br_t rfl (hno (fun z => hi z.1)))
def zw_Fst (p1 p2 : Int32) : Prop := p1 = 8 ∨ vp_in p2 16
def zw_Sec (p1 p3 : Int32) : Prop := (p1 = 4 ∧ ¬ p3 < -15 ∧ ¬ 15 < p3) ∨ (¬ p1 = 4 ∧ (p1 = 6 ∨ p1 = 8 ∨ vp_in p3 16))
section
variable {post : Int32 → SY → Prop} {f p0 p1 p2 p3 : Int32} {O A B C S V oS oV : Nat → Int32}
theorem zw_y19 {y : Int32} (h : ∀ z : Int32, ((z = 0 ∧ ¬ zw_Sec p1 p3) ∨ (z = 1 ∧ zw_Sec p1 p3)) → wY_formula_74 post p0 p1 p2 p3 y z f O A B C S V oS oV) : wY_formula_19 post p0 p1 p2 p3 y f O A B C S V oS oV := by
  unfold wY_formula_19
  refine br_c (fun h4 => br_c (fun hl => h 0 (Or.inl ⟨rfl, ?_⟩)) (fun hl => br_c (fun hh => h 0 (Or.inl ⟨rfl, ?_⟩)) (fun hh => h 1 (Or.inr ⟨rfl, Or.inl ⟨h4, hl, hh⟩⟩)))) (fun h4 => br_c (fun h6 => h 1 (Or.inr ⟨rfl, Or.inr ⟨h4, Or.inl h6⟩⟩)) (fun h6 => br_c (fun h8 => h 1 (Or.inr ⟨rfl, Or.inr ⟨h4, Or.inr (Or.inl h8)⟩⟩)) (fun h8 => ?_)))
  · rintro (⟨_, e, _⟩ | ⟨e, _⟩)
    · exact e hl
    · exact e h4
  · rintro (⟨_, _, e⟩ | ⟨e, _⟩)
    · exact e hh
    · exact e h4
  · by_cases hb : vp_in p3 16
    · exact ic_yy hb (br_f (by decide) (h 1 (Or.inr ⟨rfl, Or.inr ⟨h4, Or.inr (Or.inr hb)⟩⟩)))
    · refine ic_yn hb (br_t rfl (h 0 (Or.inl ⟨rfl, ?_⟩)))
      rintro (⟨e, _⟩ | ⟨_, e | e | e⟩)
      · exact h4 e
      · exact h6 e
      · exact h8 e
      · exact hb e
theorem zw_yf (h : ∀ y z : Int32, ((y = 0 ∧ ¬ zw_Fst p1 p2) ∨ (y = 1 ∧ zw_Fst p1 p2)) → ((z = 0 ∧ ¬ zw_Sec p1 p3) ∨ (z = 1 ∧ zw_Sec p1 p3)) → wY_formula_74 post p0 p1 p2 p3 y z f O A B C S V oS oV) : wpY_formula post (f, O, A, B, C, S, V, oS, oV) p0 p1 p2 p3 := by
  unfold wpY_formula; dsimp only
  refine br_c (fun h8 => ?_) (fun h8 => ?_)
  · exact zw_y19 (fun z hz => h 1 z (Or.inr ⟨rfl, Or.inl h8⟩) hz)
  · by_cases ha : vp_in p2 16
    · exact ic_yy ha (br_f (by decide) (zw_y19 (fun z hz => h 1 z (Or.inr ⟨rfl, Or.inr ha⟩) hz)))
    · exact ic_yn ha (br_t rfl (zw_y19 (fun z hz => h 0 z (Or.inl ⟨rfl, fun e => e.elim h8 ha⟩) hz)))
theorem zw_74n {y z : Int32} (hno : ¬ zw_ok p0 p1 p2 p3) (hy : (y = 0 ∧ ¬ zw_Fst p1 p2) ∨ (y = 1 ∧ zw_Fst p1 p2)) (hz : (z = 0 ∧ ¬ zw_Sec p1 p3) ∨ (z = 1 ∧ zw_Sec p1 p3))
    (hp : post 0 (f, O, A, B, C, S, V, oS, oV)) : wY_formula_74 post p0 p1 p2 p3 y z f O A B C S V oS oV := by
  unfold wY_formula_74
  by_cases hi : vp_in p0 16
  · refine ic_yy hi (br_f (by decide) (br_c (fun _ => hp) (fun h0 => br_c (fun _ => hp) (fun h8 => br_c (fun _ => hp) (fun hy0 => br_c (fun _ => hp) (fun hz0 => ?_))))))
    exfalso
    apply hno
    refine ⟨hi, ?_⟩
    have hF : zw_Fst p1 p2 := by
      rcases hy with ⟨e, _⟩ | ⟨_, e⟩
      · exact absurd e hy0
      · exact e
    have hS : zw_Sec p1 p3 := by
      rcases hz with ⟨e, _⟩ | ⟨_, e⟩
      · exact absurd e hz0
      · exact e
    rcases zw_rng h0 h8 with hE | rfl | rfl | rfl
    · obtain ⟨n1, n8, n6, n4, _⟩ := zw_Ef hE
      refine Or.inr (Or.inr (Or.inr ⟨hE, ?_, ?_⟩))
      · rcases hF with e | e
        · exact absurd e n8
        · exact e
      · rcases hS with ⟨e, _⟩ | ⟨_, e | e | e⟩
        · exact absurd e n4
        · exact absurd e n6
        · exact absurd e n8
        · exact e
    · refine Or.inr (Or.inr (Or.inl ⟨rfl, ?_, ?_⟩))
      · rcases hF with e | e
        · exact absurd e (by decide)
        · exact e
      · rcases hS with ⟨_, e1, e2⟩ | ⟨e, _⟩
        · exact ⟨e1, Int32.not_lt.mp e2⟩
        · exact absurd rfl e
    · refine Or.inr (Or.inl ⟨rfl, ?_⟩)
      rcases hF with e | e
      · exact absurd e (by decide)
      · exact e
    · exact Or.inl rfl
  · exact ic_yn hi (br_t rfl hp)
end
theorem zw_fok {p0 p1 p2 p3 : Int32} (h : zw_ok p0 p1 p2 p3) :
    pm_wf (fun _ => p1) (fun _ => if p1 = 8 then 0 else p2) (fun _ => if p1 = 8 ∨ p1 = 6 then 0 else p3) 0 ∧
    (¬ p1 = -1 ∧ (if p1 < 0 ∨ p1 = 8 then 0 else p2) = (if p1 = 8 then 0 else p2) ∧ (if p1 < 0 ∨ p1 = 8 ∨ p1 = 6 then 0 else p3) = (if p1 = 8 ∨ p1 = 6 then 0 else p3) ∧
      (p1 = 8 → (if p1 = 8 then 0 else p2) = 0 ∧ (if p1 = 8 ∨ p1 = 6 then 0 else p3) = 0) ∧ (p1 = 6 → (if p1 = 8 ∨ p1 = 6 then 0 else p3) = 0)) ∧
    ¬ p1 < 0 ∧ ¬ 8 < p1 ∧ zw_Fst p1 p2 ∧ zw_Sec p1 p3 := by
  have hneg : ¬ p1 < 0 → ((p1 < 0 ∨ p1 = 8) ↔ p1 = 8) ∧ ((p1 < 0 ∨ p1 = 8 ∨ p1 = 6) ↔ (p1 = 8 ∨ p1 = 6)) := fun hn => ⟨⟨fun z => z.elim (fun y => absurd y hn) id, Or.inr⟩, ⟨fun z => z.elim (fun y => absurd y hn) id, Or.inr⟩⟩
  obtain ⟨hi, e⟩ := h
  have main : ¬ p1 < 0 ∧ ¬ 8 < p1 ∧ ¬ p1 = -1 := by
    rcases e with rfl | ⟨rfl, _⟩ | ⟨rfl, _⟩ | ⟨e, _⟩
    · decide
    · decide
    · decide
    · exact ⟨(zw_Ef e).2.2.2.2.1, (zw_Ef e).2.2.2.2.2.2, (zw_Ef e).1⟩
  obtain ⟨m0, m8, m1⟩ := main
  refine ⟨?_, ⟨m1, ?_, ?_, ?_, ?_⟩, m0, m8, ?_, ?_⟩
  · unfold pm_wf
    rcases e with rfl | ⟨rfl, ha⟩ | ⟨rfl, ha, _⟩ | ⟨e, ha, hb⟩
    · exact Or.inr (Or.inl rfl)
    · exact Or.inr (Or.inr ⟨ha, Or.inl rfl⟩)
    · exact Or.inr (Or.inr ⟨ha, Or.inr (Or.inl rfl)⟩)
    · obtain ⟨n1, n8, n6, n4, _⟩ := zw_Ef e
      rw [if_neg n8, if_neg (fun z => z.elim n8 n6)]
      exact Or.inr (Or.inr ⟨ha, Or.inr (Or.inr ⟨hb, e⟩)⟩)
  · by_cases h8 : p1 = 8
    · rw [if_pos (Or.inr h8), if_pos h8]
    · rw [if_neg (fun z => z.elim m0 h8), if_neg h8]
  · by_cases h8 : p1 = 8 ∨ p1 = 6
    · rw [if_pos (Or.inr h8), if_pos h8]
    · rw [if_neg (fun z => z.elim m0 h8), if_neg h8]
  · intro h8
    rw [if_pos h8, if_pos (Or.inl h8)]
    exact ⟨rfl, rfl⟩
  · intro h6
    rw [if_pos (Or.inr h6)]
  · rcases e with e | ⟨_, e⟩ | ⟨_, e, _⟩ | ⟨_, e, _⟩
    · exact Or.inl e
    · exact Or.inr e
    · exact Or.inr e
    · exact Or.inr e
  · rcases e with rfl | ⟨rfl, ha⟩ | ⟨rfl, _, e1, e2⟩ | ⟨e, _, hb⟩
    · exact Or.inr ⟨by decide, Or.inr (Or.inl rfl)⟩
    · exact Or.inr ⟨by decide, Or.inl rfl⟩
    · exact Or.inl ⟨rfl, e1, Int32.not_lt.mpr e2⟩
    · exact Or.inr ⟨(zw_Ef e).2.2.2.1, Or.inr (Or.inr hb)⟩
theorem i_vc_formula {k : Nat} {u : SX} {v : SY} (I : i_Rel k u v) (hk : k + 5 ≤ 2560) (v1 : Int32) (v2 : Int32) (v3 : Int32) (v4 : Int32) : wpX_formula (fun r u' => wpY_formula (fun r' v' => r' = r ∧ i_Rel (k + 5) u' v') v v1 v2 v3 v4) u v1 v2 v3 v4 := by
  have I2 := i_up I
  obtain ⟨c, O, F, G, SB, VB, A, B, C, S, V, oS, oV, rfl, rfl, hw, hc, hS, hV⟩ := I
  have hwY : ∀ i, i < 16 → pm_wf O A B i := fun i hi => zr_wf (hw i hi) (hc i hi)
  have hA := zr_all hw hc
  generalize hs : pm_all O F G = s at hA I2 ⊢
  refine zw_xf (fun hno => ?_) (fun hok => ?_)
  · exact zw_yf (fun y z hy hz => zw_74n hno hy hz ⟨rfl, I2⟩)
  · obtain ⟨hn, hcn, m0, m8, hF, hSc⟩ := zw_fok hok
    have hi := hok.1
    unfold wX_formula_105
    refine zw_pair (k := k) (C2 := C) hs hi hw hc hn (fun _ _ => rfl) (Or.inr hcn) ?_
    intro q0 q1 q2 q3 q4 q5 q6 q7 hcmp
    refine zw_yf (fun y z hy hz => ?_)
    have ey : y = 1 := by
      rcases hy with ⟨_, e⟩ | ⟨e, _⟩
      · exact absurd hF e
      · exact e
    have ez : z = 1 := by
      rcases hz with ⟨_, e⟩ | ⟨e, _⟩
      · exact absurd hSc e
      · exact e
    subst ey ez
    unfold wY_formula_74
    refine ic_yy hi (br_f (by decide) (br_f m0 (br_f m8 (br_f (by decide) (br_f (by decide) (yc_before hwY hS hV ?_))))))
    rw [hA]
    exact yc_hold hi (hcmp _ _ _ _ (fun v hv => ⟨rfl, hv⟩))
end
section
/-- what a copy leaves in its cell -/
def zk_t (O F G : Nat → Int32) (n : Nat) (d op a b : Int32) : Prop :=
  ((O n = -1 ∨ O n = 8) ∧ op = O n ∧ a = F n ∧ b = G n) ∨
  ((O n = 6 ∨ O n = 4) ∧ vp_in (F n + d) 16 ∧ op = O n ∧ a = F n + d ∧ b = G n) ∨
  (zw_E (O n) ∧ vp_in (F n + d) 16 ∧ vp_in (G n + d) 16 ∧ op = O n ∧ a = F n + d ∧ b = G n + d) ∨
  ((((O n = 6 ∨ O n = 4) ∧ ¬ vp_in (F n + d) 16) ∨ (zw_E (O n) ∧ (¬ vp_in (F n + d) 16 ∨ ¬ vp_in (G n + d) 16))) ∧ op = 8 ∧ a = 0 ∧ b = 0)
section
variable {post : Int32 → SX → Prop} {c p0 p1 x3 x4 x5 z : Int32} {O F G S V SB VB : Nat → Int32}
theorem zk_70 (h : wX_copy_72 post p0 p1 x3 x4 x5 z c O F G S V SB VB) : wX_copy_70 post p0 p1 x3 x4 x5 z c O F G S V SB VB := h
theorem zk_105 (h : wX_copy_107 post p1 x3 x4 x5 z c O F G S V SB VB) : wX_copy_105 post p1 x3 x4 x5 z c O F G S V SB VB := h
theorem zk_100 (h : wX_copy_107 post p1 x3 x4 x5 1 c O F G S V SB VB) : wX_copy_100 post p1 x3 x4 x5 c O F G S V SB VB := h
end
theorem zk_x {post : Int32 → SX → Prop} {c p0 p1 : Int32} {O F G S V SB VB : Nat → Int32} (hi : vp_in p0 16) (ht : vp_in p1 16) (hw : pm_wf O F G p0.toNatClampNeg)
    (h : ∀ op a b : Int32, zk_t O F G p0.toNatClampNeg (p1 - p0) op a b → wX_copy_107 post p1 op a b 0 c O F G S V SB VB) :
    wpX_copy post (c, O, F, G, S, V, SB, VB) p0 p1 := by
  unfold wpX_copy; dsimp only
  refine ic_xy hi (br_f (by decide) (ic_xy ht (br_f (by decide) ⟨hi, nm_e ⟨hi, nm_e ⟨hi, nm_e ?_⟩⟩⟩)))
  have hlost : ∀ op a b : Int32, zk_t O F G p0.toNatClampNeg (p1 - p0) 8 0 0 → wX_copy_107 post p1 op a b 1 c O F G S V SB VB := by
    intro op a b hz
    have h8 := h 8 0 0 hz
    unfold wX_copy_107 at h8 ⊢
    exact br_f (by decide) (h8.1 rfl)
  have hsmall : (O p0.toNatClampNeg = 6 ∨ O p0.toNatClampNeg = 4) → wpX_namesFirst (fun r_11 => (((r_11 = 0 → (wX_copy_72 post p0 p1 (O p0.toNatClampNeg) (F p0.toNatClampNeg) (G p0.toNatClampNeg) 0 c O F G S V SB VB)) ∧ (¬ r_11 = 0 → (∀ x4_38 : Int32, x4_38 = (F p0.toNatClampNeg) + (p1 - p0) → (wpX_isCell (fun r_39 => (((r_39 = 0 → (wX_copy_70 post p0 p1 (O p0.toNatClampNeg) x4_38 (G p0.toNatClampNeg) 1 c O F G S V SB VB)) ∧ (¬ r_39 = 0 → (wX_copy_70 post p0 p1 (O p0.toNatClampNeg) x4_38 (G p0.toNatClampNeg) 0 c O F G S V SB VB))))) x4_38)))))) (O p0.toNatClampNeg) := by
    intro h64
    refine zw_f1 (by rcases h64 with e | e <;> rw [e] <;> decide) (by rcases h64 with e | e <;> rw [e] <;> decide) (br_f (by decide) (nm_e ?_))
    by_cases hF : vp_in (F p0.toNatClampNeg + (p1 - p0)) 16
    · exact ic_xy hF (br_f (by decide) (zk_70 (zw_n0 (Or.inr (Or.inr h64)) (br_t rfl (h _ _ _ (Or.inr (Or.inl ⟨h64, hF, rfl, rfl, rfl⟩)))))))
    · exact ic_xn hF (br_t rfl (zk_70 (zw_n0 (Or.inr (Or.inr h64)) (br_t rfl (hlost _ _ _ (Or.inr (Or.inr (Or.inr ⟨Or.inl ⟨h64, hF⟩, rfl, rfl, rfl⟩))))))))
  rcases hw with e | e | ⟨_, e | e | ⟨_, hE⟩⟩
  · exact zw_f0 (Or.inl e) (br_t rfl (zw_n0 (Or.inl e) (br_t rfl (h _ _ _ (Or.inl ⟨Or.inl e, rfl, rfl, rfl⟩)))))
  · exact zw_f0 (Or.inr e) (br_t rfl (zw_n0 (Or.inr (Or.inl e)) (br_t rfl (h _ _ _ (Or.inl ⟨Or.inr e, rfl, rfl, rfl⟩)))))
  · exact hsmall (Or.inl e)
  · exact hsmall (Or.inr e)
  · have hE2 : zw_E (O p0.toNatClampNeg) := hE
    obtain ⟨n1, n8, n6, n4, _⟩ := zw_Ef hE2
    refine zw_f1 n1 n8 (br_f (by decide) (nm_e ?_))
    by_cases hF : vp_in (F p0.toNatClampNeg + (p1 - p0)) 16
    · refine ic_xy hF (br_f (by decide) (zk_70 (zw_n1 hE2 (br_f (by decide) (nm_e (br_t rfl ?_))))))
      by_cases hG : vp_in (G p0.toNatClampNeg + (p1 - p0)) 16
      · exact ic_xy hG (br_f (by decide) (zk_105 (h _ _ _ (Or.inr (Or.inr (Or.inl ⟨hE2, hF, hG, rfl, rfl, rfl⟩))))))
      · exact ic_xn hG (br_t rfl (zk_100 (hlost _ _ _ (Or.inr (Or.inr (Or.inr ⟨Or.inr ⟨hE2, Or.inr hG⟩, rfl, rfl, rfl⟩))))))
    · exact ic_xn hF (br_t rfl (zk_70 (zw_n1 hE2 (br_f (by decide) (nm_e (br_f (by decide) (zk_100 (hlost _ _ _ (Or.inr (Or.inr (Or.inr ⟨Or.inr ⟨hE2, Or.inl hF⟩, rfl, rfl, rfl⟩)))))))))))
theorem zk_ar (a b c : Int32) : a + b - c = a + (b - c) := by grind
section
variable {Q : Int32 → SY → Prop} {f p0 p1 : Int32} {O A B C S V oS oV : Nat → Int32}
theorem zk_117 {x3 x4 x5 : Int32} (hi : vp_in p0 16) (ht : vp_in p1 16) (h : wY_copy_144 Q x4 x5 x3 p1 f O A B (upd C p1.toNatClampNeg (C p0.toNatClampNeg)) S V oS oV) : wY_copy_117 Q p0 p1 x3 x4 x5 0 f O A B C S V oS oV :=
  ⟨hi, ht, nm_e (br_t rfl h)⟩
theorem zk_118 {x3 x4 x5 : Int32} (hi : vp_in p0 16) (ht : vp_in p1 16) (h : wY_copy_144 Q x4 x5 8 p1 f O A B (upd C p1.toNatClampNeg (C p0.toNatClampNeg)) S V oS oV) : wY_copy_117 Q p0 p1 x3 x4 x5 1 f O A B C S V oS oV :=
  ⟨hi, ht, nm_e (br_f (by decide) h)⟩
end
theorem zk_y {Q : Int32 → SY → Prop} {f p0 p1 op a b : Int32} {O F G A B C S V oS oV : Nat → Int32} {s : (Nat → Int32) × (Nat → Int32)} (hi : vp_in p0 16) (ht : vp_in p1 16)
    (hwY : ∀ i, i < 16 → pm_wf O A B i) (hS : ∀ k, 16 ≤ k → S k = 0) (hV : ∀ k, 16 ≤ k → V k = 0) (hA : pm_yall O A B C = s)
    (hc : pm_cl O F G A B C p0.toNatClampNeg) (hz : zk_t O F G p0.toNatClampNeg (p1 - p0) op a b)
    (h : ∀ a2 b2 : Int32, ((op = -1 ∧ C p0.toNatClampNeg = a) ∨ (¬ op = -1 ∧ (if op < 0 ∨ op = 8 then 0 else a2) = a ∧ (if op < 0 ∨ op = 8 ∨ op = 6 then 0 else b2) = b ∧ (op = 8 → a = 0 ∧ b = 0) ∧ (op = 6 → b = 0))) →
      wY_copy_144 Q a2 b2 op p1 f O A B (upd C p1.toNatClampNeg (C p0.toNatClampNeg)) s.1 s.2 (pm_ua s.1 oS 16) (pm_ua s.2 oV 16)) :
    wpY_copy Q (f, O, A, B, C, S, V, oS, oV) p0 p1 := by
  unfold wpY_copy; dsimp only
  refine ic_yy hi (br_f (by decide) (ic_yy ht (br_f (by decide) (yc_before hwY hS hV ?_))))
  rw [hA]
  refine ⟨hi, nm_e ⟨hi, nm_e ?_⟩⟩
  dsimp only
  rw [zk_ar, zk_ar]
  rcases hz with ⟨e, rfl, rfl, rfl⟩ | ⟨e, hF, rfl, rfl, rfl⟩ | ⟨hE, hF, hG, rfl, rfl, rfl⟩ | ⟨e, rfl, rfl, rfl⟩
  · have n4 : ¬ O p0.toNatClampNeg = 4 := by rcases e with e | e <;> rw [e] <;> decide
    have n6 : ¬ O p0.toNatClampNeg = 6 := by rcases e with e | e <;> rw [e] <;> decide
    refine br_f n4 (br_f n6 ⟨hi, ?_⟩)
    have hx := h (A p0.toNatClampNeg + (p1 - p0)) (B p0.toNatClampNeg + (p1 - p0)) (by
      rcases hc with ⟨ho, ec⟩ | ⟨ho, ea, eb, e8, e6⟩
      · exact Or.inl ⟨ho, ec⟩
      · rcases e with e | e
        · exact absurd e ho
        · rw [if_pos (Or.inr e), if_pos (Or.inr (Or.inl e))]
          exact Or.inr ⟨ho, (e8 e).1.symm, (e8 e).2.symm, e8, e6⟩)
    rcases e with e | e
    · exact br_t (by rw [e]; decide) (zk_117 hi ht hx)
    · exact br_f (by rw [e]; decide) (br_t (by rw [e]; decide) (zk_117 hi ht hx))
  · have n1 : ¬ O p0.toNatClampNeg = -1 := by rcases e with e | e <;> rw [e] <;> decide
    have n8 : ¬ O p0.toNatClampNeg = 8 := by rcases e with e | e <;> rw [e] <;> decide
    have n0 : ¬ O p0.toNatClampNeg < 0 := by rcases e with e | e <;> rw [e] <;> decide
    have m8 : ¬ 8 ≤ O p0.toNatClampNeg := by rcases e with e | e <;> rw [e] <;> decide
    rcases hc with ⟨ho, _⟩ | ⟨ho, ea, eb, e8, e6⟩
    · exact absurd ho n1
    · have hx := h (A p0.toNatClampNeg + (p1 - p0)) (B p0.toNatClampNeg) (by
        rw [if_neg (fun z => z.elim n0 n8), ea]
        refine Or.inr ⟨ho, rfl, ?_, fun z => absurd z n8, e6⟩
        by_cases h6 : O p0.toNatClampNeg = 6
        · rw [if_pos (Or.inr (Or.inr h6)), e6 h6]
        · rw [if_neg (fun z => z.elim n0 (fun y => y.elim n8 h6)), eb])
      have hF2 : vp_in (A p0.toNatClampNeg + (p1 - p0)) 16 := by rw [ea]; exact hF
      rcases e with e | e
      · exact br_f (by rw [e]; decide) (br_t e ⟨hi, br_f n0 (br_f m8 (ic_yy hF2 (br_f (by decide) (br_f (by rw [e]; decide) (br_t e (zk_117 hi ht hx))))))⟩)
      · exact br_t e ⟨hi, br_f n0 (br_f m8 (ic_yy hF2 (br_f (by decide) (br_t e (zk_117 hi ht hx)))))⟩
  · obtain ⟨n1, n8, n6, n4, n0, m8, _⟩ := zw_Ef hE
    rcases hc with ⟨ho, _⟩ | ⟨ho, ea, eb, e8, e6⟩
    · exact absurd ho n1
    · have hx := h (A p0.toNatClampNeg + (p1 - p0)) (B p0.toNatClampNeg + (p1 - p0)) (by
        rw [if_neg (fun z => z.elim n0 n8), if_neg (fun z => z.elim n0 (fun y => y.elim n8 n6)), ea, eb]
        exact Or.inr ⟨ho, rfl, rfl, fun z => absurd z n8, fun z => absurd z n6⟩)
      have hF2 : vp_in (A p0.toNatClampNeg + (p1 - p0)) 16 := by rw [ea]; exact hF
      have hG2 : vp_in (B p0.toNatClampNeg + (p1 - p0)) 16 := by rw [eb]; exact hG
      exact br_f n4 (br_f n6 ⟨hi, br_f n0 (br_f m8 (ic_yy hF2 (br_f (by decide) (br_f n4 (br_f n6 (ic_yy hG2 (br_f (by decide) (zk_117 hi ht hx))))))))⟩)
  · have hx := fun a2 b2 : Int32 => h a2 b2 (by
      rw [if_pos (Or.inr rfl), if_pos (Or.inr (Or.inl rfl))]
      exact Or.inr ⟨by decide, rfl, rfl, fun _ => ⟨rfl, rfl⟩, fun _ => rfl⟩)
    rcases e with ⟨e, hF⟩ | ⟨hE, hFG⟩
    · have n1 : ¬ O p0.toNatClampNeg = -1 := by rcases e with e | e <;> rw [e] <;> decide
      have n0 : ¬ O p0.toNatClampNeg < 0 := by rcases e with e | e <;> rw [e] <;> decide
      have m8 : ¬ 8 ≤ O p0.toNatClampNeg := by rcases e with e | e <;> rw [e] <;> decide
      rcases hc with ⟨ho, _⟩ | ⟨ho, ea, eb, e8, e6⟩
      · exact absurd ho n1
      · have hF2 : ¬ vp_in (A p0.toNatClampNeg + (p1 - p0)) 16 := by rw [ea]; exact hF
        rcases e with e | e
        · exact br_f (by rw [e]; decide) (br_t e ⟨hi, br_f n0 (br_f m8 (ic_yn hF2 (br_t rfl (zk_118 hi ht (hx _ _)))))⟩)
        · exact br_t e ⟨hi, br_f n0 (br_f m8 (ic_yn hF2 (br_t rfl (zk_118 hi ht (hx _ _)))))⟩
    · obtain ⟨n1, n8, n6, n4, n0, m8, _⟩ := zw_Ef hE
      rcases hc with ⟨ho, _⟩ | ⟨ho, ea, eb, e8, e6⟩
      · exact absurd ho n1
      · refine br_f n4 (br_f n6 ⟨hi, br_f n0 (br_f m8 ?_)⟩)
        by_cases hF2 : vp_in (A p0.toNatClampNeg + (p1 - p0)) 16
        · have hG2 : ¬ vp_in (B p0.toNatClampNeg + (p1 - p0)) 16 := by
            rcases hFG with y | y
            · rw [← ea] at y; exact absurd hF2 y
            · rw [eb]; exact y
          exact ic_yy hF2 (br_f (by decide) (br_f n4 (br_f n6 (ic_yn hG2 (br_t rfl (zk_118 hi ht (hx _ _)))))))
        · exact ic_yn hF2 (br_t rfl (zk_118 hi ht (hx _ _)))
theorem zk_wf {O F G : Nat → Int32} {n : Nat} {d op a b : Int32} (hz : zk_t O F G n d op a b) : pm_wf (fun _ => op) (fun _ => a) (fun _ => b) 0 := by
  rcases hz with ⟨e, rfl, rfl, rfl⟩ | ⟨e, hF, rfl, rfl, rfl⟩ | ⟨hE, hF, hG, rfl, rfl, rfl⟩ | ⟨e, rfl, rfl, rfl⟩
  · rcases e with e | e
    · exact Or.inl e
    · exact Or.inr (Or.inl e)
  · rcases e with e | e
    · exact Or.inr (Or.inr ⟨hF, Or.inl e⟩)
    · exact Or.inr (Or.inr ⟨hF, Or.inr (Or.inl e)⟩)
  · exact Or.inr (Or.inr ⟨hF, Or.inr (Or.inr ⟨hG, hE⟩)⟩)
  · exact Or.inr (Or.inl rfl)
/-- what both sides keep of the cell n, once copied -/
theorem zk_cn {O F G A B C : Nat → Int32} {n : Nat} {d op a b : Int32} (hc : pm_cl O F G A B C n) (hz : zk_t O F G n d op a b) :
    (op = -1 ∧ C n = a) ∨ (¬ op = -1 ∧ (if op < 0 ∨ op = 8 then 0 else a) = a ∧ (if op < 0 ∨ op = 8 ∨ op = 6 then 0 else b) = b ∧ (op = 8 → a = 0 ∧ b = 0) ∧ (op = 6 → b = 0)) := by
  rcases hz with ⟨e, rfl, rfl, rfl⟩ | ⟨e, hF, rfl, rfl, rfl⟩ | ⟨hE, hF, hG, rfl, rfl, rfl⟩ | ⟨e, rfl, rfl, rfl⟩
  · rcases hc with ⟨ho, ec⟩ | ⟨ho, ea, eb, e8, e6⟩
    · exact Or.inl ⟨ho, ec⟩
    · rcases e with e | e
      · exact absurd e ho
      · rw [if_pos (Or.inr e), if_pos (Or.inr (Or.inl e))]
        exact Or.inr ⟨ho, (e8 e).1.symm, (e8 e).2.symm, e8, e6⟩
  · have n8 : ¬ O n = 8 := by rcases e with e | e <;> rw [e] <;> decide
    have n0 : ¬ O n < 0 := by rcases e with e | e <;> rw [e] <;> decide
    rcases hc with ⟨ho, ec⟩ | ⟨ho, ea, eb, e8, e6⟩
    · rw [ho] at n0; exact absurd (by decide) n0
    · rw [if_neg (fun z => z.elim n0 n8)]
      refine Or.inr ⟨ho, rfl, ?_, fun z => absurd z n8, e6⟩
      by_cases h6 : O n = 6
      · rw [if_pos (Or.inr (Or.inr h6)), e6 h6]
      · rw [if_neg (fun z => z.elim n0 (fun y => y.elim n8 h6))]
  · obtain ⟨n1, n8, n6, n4, n0, m8, _⟩ := zw_Ef hE
    rw [if_neg (fun z => z.elim n0 n8), if_neg (fun z => z.elim n0 (fun y => y.elim n8 n6))]
    exact Or.inr ⟨n1, rfl, rfl, fun z => absurd z n8, fun z => absurd z n6⟩
  · rw [if_pos (Or.inr rfl), if_pos (Or.inr (Or.inl rfl))]
    exact Or.inr ⟨by decide, rfl, rfl, fun _ => ⟨rfl, rfl⟩, fun z => absurd z (by decide)⟩
theorem zk_eq {op a b a2 b2 x : Int32}
    (h1 : (op = -1 ∧ x = a) ∨ (¬ op = -1 ∧ (if op < 0 ∨ op = 8 then 0 else a) = a ∧ (if op < 0 ∨ op = 8 ∨ op = 6 then 0 else b) = b ∧ (op = 8 → a = 0 ∧ b = 0) ∧ (op = 6 → b = 0)))
    (h2 : (op = -1 ∧ x = a) ∨ (¬ op = -1 ∧ (if op < 0 ∨ op = 8 then 0 else a2) = a ∧ (if op < 0 ∨ op = 8 ∨ op = 6 then 0 else b2) = b ∧ (op = 8 → a = 0 ∧ b = 0) ∧ (op = 6 → b = 0))) :
    (if op < 0 ∨ op = 8 then 0 else a2) = (if op < 0 ∨ op = 8 then 0 else a) ∧ (if op < 0 ∨ op = 8 ∨ op = 6 then 0 else b2) = (if op < 0 ∨ op = 8 ∨ op = 6 then 0 else b) := by
  rcases h1 with ⟨e, _⟩ | ⟨n1, ea, eb, _⟩
  · have h0 : op < 0 := by rw [e]; decide
    rw [if_pos (Or.inl h0), if_pos (Or.inl h0), if_pos (Or.inl h0), if_pos (Or.inl h0)]
    exact ⟨rfl, rfl⟩
  · rcases h2 with ⟨e, _⟩ | ⟨_, ea2, eb2, _⟩
    · exact absurd e n1
    · exact ⟨ea2.trans ea.symm, eb2.trans eb.symm⟩
theorem i_vc_copy {k : Nat} {u : SX} {v : SY} (I : i_Rel k u v) (hk : k + 5 ≤ 2560) (v1 : Int32) (v2 : Int32) : wpX_copy (fun r u' => wpY_copy (fun r' v' => r' = r ∧ i_Rel (k + 5) u' v') v v1 v2) u v1 v2 := by
  have I2 := i_up I
  obtain ⟨c, O, F, G, SB, VB, A, B, C, S, V, oS, oV, rfl, rfl, hw, hc, hS, hV⟩ := I
  have hwY : ∀ i, i < 16 → pm_wf O A B i := fun i hi => zr_wf (hw i hi) (hc i hi)
  have hA := zr_all hw hc
  generalize hs : pm_all O F G = s at hA I2 ⊢
  by_cases hi : vp_in v1 16
  · by_cases ht : vp_in v2 16
    · refine zk_x hi ht (hw _ (sn_lt hi)) ?_
      intro op a b hz
      unfold wX_copy_107
      refine br_t rfl ?_
      have hcz := zk_cn (hc _ (sn_lt hi)) hz
      have hcn := hcz
      rw [← pk_us (f := C) (k := v2.toNatClampNeg) (x := C v1.toNatClampNeg)] at hcn
      refine zw_pair (k := k) (C2 := upd C v2.toNatClampNeg (C v1.toNatClampNeg)) hs ht hw hc (zk_wf hz) (fun i e => pk_un e) hcn ?_
      intro q0 q1 q2 q3 q4 q5 q6 q7 hcmp
      refine zk_y hi ht hwY hS hV hA (hc _ (sn_lt hi)) hz ?_
      intro a2 b2 hab
      obtain ⟨ex, ey⟩ := zk_eq hcz hab
      unfold wY_copy_144
      refine yc_hold ht ?_
      rw [ex, ey]
      exact hcmp _ _ _ _ (fun v hv => ⟨rfl, hv⟩)
    · unfold wpX_copy wpY_copy; dsimp only
      exact ic_xy hi (br_f (by decide) (ic_xn ht (br_t rfl (ic_yy hi (br_f (by decide) (ic_yn ht (br_t rfl ⟨rfl, I2⟩)))))))
  · unfold wpX_copy wpY_copy; dsimp only
    exact ic_xn hi (br_t rfl (ic_yn hi (br_t rfl ⟨rfl, I2⟩)))
end
