def bt (x : Int32) (i : Nat) : Bool := x.toBitVec.getLsbD i
theorem b_ext {x y : Int32} (h : ∀ i, i < 32 → bt x i = bt y i) : x = y := Int32.toBitVec_inj.mp (BitVec.eq_of_getLsbD_eq (fun i hi => h i hi))
theorem b_or (x y : Int32) (i : Nat) : bt (x ||| y) i = (bt x i || bt y i) := by unfold bt; rw [Int32.toBitVec_or, BitVec.getLsbD_or]
theorem b_and (x y : Int32) (i : Nat) : bt (x &&& y) i = (bt x i && bt y i) := by unfold bt; rw [Int32.toBitVec_and, BitVec.getLsbD_and]
theorem b_xor (x y : Int32) (i : Nat) : bt (x ^^^ y) i = (bt x i ^^ bt y i) := by unfold bt; rw [Int32.toBitVec_xor, BitVec.getLsbD_xor]
theorem b_big {x : Int32} {i : Nat} (h : 32 ≤ i) : bt x i = false := BitVec.getLsbD_of_ge _ _ h
theorem b_m1 : ∀ i, i < 32 → bt (-1) i = true := by decide +kernel
theorem b_0 (i : Nat) : bt 0 i = false := BitVec.getLsbD_zero
theorem s_l : ∀ n, n < 32 → ((nI n &&& 31).toBitVec.smod 32).toNat = n := by decide +kernel
theorem b_sshr (n : Nat) (hn : n < 32) (x : Int32) {i : Nat} (hi : i < 32) : bt (x >>> (nI n &&& 31)) i = if n + i < 32 then bt x (n + i) else bt x 31 := by
  unfold bt
  rw [Int32.toBitVec_shiftRight]
  show (x.toBitVec.sshiftRight ((nI n &&& 31).toBitVec.smod 32).toNat).getLsbD i = _
  rw [s_l n hn, BitVec.getLsbD_sshiftRight, BitVec.msb_eq_getLsbD_last]
  simp [hi]
theorem pk_lT {n : Nat} (h : n < 2 ^ 63) : (lN n).toInt = (n : Int) := lg_ofNat_toInt h
theorem pk_lLT {a b : Nat} (ha : a < 2 ^ 63) (hb : b < 2 ^ 63) : lN a < lN b ↔ a < b := by
  rw [Int64.lt_iff_toInt_lt, pk_lT ha, pk_lT hb]; omega
theorem pk_lLE {a b : Nat} (ha : a < 2 ^ 63) (hb : b < 2 ^ 63) : lN a ≤ lN b ↔ a ≤ b := by
  rw [Int64.le_iff_toInt_le, pk_lT ha, pk_lT hb]; omega
theorem pk_lOf {x : Int64} (h : ¬ x < 0) : ∃ k : Nat, k < 2 ^ 63 ∧ x = lN k := by
  rw [Int64.lt_iff_toInt_lt] at h
  have h0 : (0 : Int64).toInt = 0 := by decide
  have hx := Int64.toInt_lt x
  refine ⟨x.toInt.toNat, by omega, Int64.toInt_inj.mp ?_⟩
  rw [pk_lT (by omega)]
  omega
theorem pk_us {f : Nat → Int32} {k : Nat} {x : Int32} : upd f k x k = x := if_pos rfl
theorem pk_un {f : Nat → Int32} {k j : Nat} {x : Int32} (h : j ≠ k) : upd f k x j = f j := if_neg h
theorem sb_one : ∀ n, n < 16 → ∀ i, i < 32 → bt ((1 : Int32) <<< (nI n &&& 31)) i = decide (n = i) := by decide +kernel
theorem sb_1 : ∀ i, i < 32 → bt 1 i = decide (i = 0) := by decide +kernel
theorem sb_and0 (m : Int32) {j : Nat} (hj : j < 16) : (m &&& ((1 : Int32) <<< (nI j &&& 31))) = 0 ↔ bt m j = false := by
  constructor
  · intro h
    have e := congrArg (fun x => bt x j) h
    have e2 : (bt m j && bt ((1 : Int32) <<< (nI j &&& 31)) j) = false := by
      rw [← b_and, ← b_0 j]; exact e
    rw [sb_one j hj j (by omega), decide_eq_true rfl, Bool.and_true] at e2
    exact e2
  · intro h
    apply b_ext
    intro i hi
    rw [b_and, sb_one j hj i hi, b_0]
    by_cases e : j = i
    · subst e; rw [h]; rfl
    · rw [decide_eq_false e, Bool.and_false]
theorem sb_shr (m : Int32) {j : Nat} (hj : j < 16) : ((m >>> (nI j &&& 31)) &&& 1) = if bt m j = true then 1 else 0 := by
  apply b_ext
  intro i hi
  rw [b_and, b_sshr j (by omega) m hi, sb_1 i hi]
  by_cases e : i = 0
  · subst e
    rw [if_pos (by omega), Nat.add_zero]
    cases hb : bt m j
    · rw [if_neg (by decide), b_0]; rfl
    · rw [if_pos rfl, sb_1 0 (by omega)]; rfl
  · rw [decide_eq_false e, Bool.and_false]
    cases hb : bt m j
    · rw [if_neg (by decide), b_0]
    · rw [if_pos rfl, sb_1 i hi, decide_eq_false e]
theorem sb_shr1 (m : Int32) {j : Nat} (hj : j < 16) : ((m >>> (nI j &&& 31)) &&& 1) = 1 ↔ bt m j = true := by
  rw [sb_shr m hj]
  cases hb : bt m j
  · rw [if_neg (by decide)]
    exact ⟨fun z => absurd z (by decide), fun z => absurd z (by decide)⟩
  · rw [if_pos rfl]
    exact ⟨fun _ => rfl, fun _ => rfl⟩
theorem sb_shr0 (m : Int32) {j : Nat} (hj : j < 16) : ((m >>> (nI j &&& 31)) &&& 1) = 0 ↔ bt m j = false := by
  rw [sb_shr m hj]
  cases hb : bt m j
  · rw [if_neg (by decide)]
    exact ⟨fun _ => rfl, fun _ => rfl⟩
  · rw [if_pos rfl]
    exact ⟨fun z => absurd z (by decide), fun z => absurd z (by decide)⟩
theorem sb_dis (r x : Int32) : (r &&& x) = 0 ↔ ∀ j, j < 32 → bt r j = true → bt x j = false := by
  constructor
  · intro h j hj hr
    have e2 : (bt r j && bt x j) = false := by
      rw [← b_and, h]; exact b_0 j
    rw [hr, Bool.true_and] at e2
    exact e2
  · intro h
    apply b_ext
    intro i hi
    rw [b_and, b_0]
    cases hb : bt r i
    · rfl
    · rw [h i hi hb]; rfl
theorem sb_inv (x : Int32) {j : Nat} (hj : j < 32) : bt (x ^^^ (-1)) j = !(bt x j) := by
  rw [b_xor, b_m1 j hj, Bool.xor_true]
theorem sb_16 : nI 16 = 16 := by decide +kernel
theorem sb_g16 {j : Nat} (h : 16 ≤ j) (h2 : j < 2 ^ 31) : (16 : Int32) ≤ nI j := by rw [← sb_16]; exact nI_le h h2
theorem sb_n16 {j : Nat} (h : j < 16) : ¬ (16 : Int32) ≤ nI j := by rw [← sb_16]; exact nI_ge h (by decide)
