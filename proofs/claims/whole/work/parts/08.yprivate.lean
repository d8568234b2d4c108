section
variable {post : Int32 → Prop} {f : Int32} {O A B C S V oS oV : Nat → Int32} {p0 : Int32}
theorem ya_or0 (x : Int32) : x ||| 0 = x := by
  apply b_ext
  intro i _
  rw [b_or, b_0, Bool.or_false]
theorem ya_sec (hi : vp_in p0 16) (hF : vp_in (A p0.toNatClampNeg) 16) (hz : S (A p0.toNatClampNeg).toNatClampNeg = 0) (hp : post (pm_tg A B S V p0.toNatClampNeg)) : wpY_second post (f, O, A, B, C, S, V, oS, oV) p0 := by
  unfold wpY_second; dsimp only
  unfold pm_tg at hp
  rw [if_pos hz] at hp
  refine ⟨hi, hF, hi, nm_e (br_c (fun h0 => ?_) (fun h0 => ?_))⟩
  · rw [if_pos h0] at hp; exact hp
  · rw [if_neg h0] at hp
    by_cases h1 : 16 ≤ (V (A p0.toNatClampNeg).toNatClampNeg).toInt64 + (B p0.toNatClampNeg).toInt64
    · rw [if_pos h1] at hp
      exact br_f (sq_y h0 h1) hp
    · rw [if_neg h1] at hp
      exact br_t (sq_x h0 h1).1 hp
theorem ya_sec2 (hi : vp_in p0 16) (hF : vp_in (A p0.toNatClampNeg) 16) (hp : ∀ r, (r = -1 ∨ vp_in r 16) → post r) : wpY_second post (f, O, A, B, C, S, V, oS, oV) p0 := by
  unfold wpY_second; dsimp only
  refine ⟨hi, hF, hi, nm_e (br_c (fun h0 => hp _ (Or.inl rfl)) (fun h0 => ?_))⟩
  by_cases h1 : 16 ≤ (V (A p0.toNatClampNeg).toNatClampNeg).toInt64 + (B p0.toNatClampNeg).toInt64
  · exact br_f (sq_y h0 h1) (hp _ (Or.inl rfl))
  · obtain ⟨h2, k, hk, e⟩ := sq_x h0 h1
    refine br_t h2 (hp _ (Or.inr ?_))
    rw [e]
    exact vp_in_nI hk (by decide)
def pm_wl (a b : Int32) : Nat → Nat → Int32 → Int32
  | 0, _, m => m
  | d + 1, j, m => pm_wl a b d (j + 1) (if (¬ nI j < a ∧ nI j ≤ b) ∨ (¬ nI j < b ∧ ¬ a < nI j) then m ||| ((1 : Int32) <<< (nI j &&& 31)) else m)
theorem ya_wl5 : ∀ a, a < 16 → ∀ b, b < 16 → pm_wl (nI a) (nI b) 16 0 0 = (if nI b ≤ nI a then ((2 : Int32) <<< (nI a &&& 31)) - ((1 : Int32) <<< (nI b &&& 31)) else ((2 : Int32) <<< (nI b &&& 31)) - ((1 : Int32) <<< (nI a &&& 31))) := by decide +kernel
theorem ya_wl (post : Int32 → Prop) (hi : vp_in p0 16) : ∀ (d j : Nat) (m : Int32), j + d = 16 → post (pm_wl (A p0.toNatClampNeg) (B p0.toNatClampNeg) d j m) → wY_wants_112 post p0 f O A B C S V oS oV (d + 1) m (nI j) := by
  intro d
  induction d with
  | zero => intro j m hj hp; exact br_t (sb_g16 (by omega) (by omega)) hp
  | succ d ih =>
    intro j m hj hp
    have hn := sb_n16 (j := j) (by omega)
    unfold pm_wl at hp
    have h163 : (if (¬ nI j < A p0.toNatClampNeg ∧ nI j ≤ B p0.toNatClampNeg) ∨ (¬ nI j < B p0.toNatClampNeg ∧ ¬ A p0.toNatClampNeg < nI j) then m ||| ((1 : Int32) <<< (nI j &&& 31)) else m) = m ||| ((1 : Int32) <<< (nI j &&& 31)) →
        wY_wants_163 post (wY_wants_112 post p0 f O A B C S V oS oV (d + 1)) p0 m (nI j) f O A B C S V oS oV := by
      intro e
      rw [e] at hp
      exact nm_e (nm_r (nI_1 j) (ih (j + 1) _ (by omega) hp))
    have h141 : ¬ (¬ nI j < A p0.toNatClampNeg ∧ nI j ≤ B p0.toNatClampNeg) → wY_wants_141 post (wY_wants_112 post p0 f O A B C S V oS oV (d + 1)) p0 m (nI j) f O A B C S V oS oV := by
      intro e
      refine ⟨hi, br_c (fun hb => ?_) (fun hb => ⟨hi, br_c (fun ha => ?_) (fun ha => ?_)⟩)⟩
      · rw [if_neg (fun z => z.elim e (fun y => y.1 hb))] at hp
        exact nm_r (nI_1 j) (ih (j + 1) _ (by omega) hp)
      · rw [if_neg (fun z => z.elim e (fun y => y.2 ha))] at hp
        exact nm_r (nI_1 j) (ih (j + 1) _ (by omega) hp)
      · exact h163 (if_pos (Or.inr ⟨hb, ha⟩))
    refine br_f hn ⟨hi, br_c (fun ha => ?_) (fun ha => ⟨hi, br_c (fun hb => ?_) (fun hb => ?_)⟩)⟩
    · exact h141 (fun z => z.1 ha)
    · exact h163 (if_pos (Or.inl ⟨ha, hb⟩))
    · exact h141 (fun z => hb z.2)
theorem ya_62 {z : Int32} (hi : vp_in p0 16) (h4 : O p0.toNatClampNeg = 4) (hz : z = pm_tg A B S V p0.toNatClampNeg) (hp : post (pm_nd O A B S V p0.toNatClampNeg)) : wY_wants_62 post p0 z f O A B C S V oS oV := by
  subst hz
  rw [sn_4 h4] at hp
  rcases sq_tg A B S V p0.toNatClampNeg with ht | ⟨_, ht, hn⟩
  · rw [if_pos ht] at hp
    refine ⟨hi, br_t (by rw [ht]; decide) ?_⟩
    rw [ya_or0]; exact hp
  · rw [if_neg hn] at hp
    obtain ⟨k, hk, e, _⟩ := sq_in ht
    exact ⟨hi, br_f (by rw [e]; exact (sq_k k hk).2.1) hp⟩
theorem ya_nd (hi : vp_in p0 16) (hw : pm_wf O A B p0.toNatClampNeg) (hp : post (pm_nd O A B S V p0.toNatClampNeg)) : wpY_wants post (f, O, A, B, C, S, V, oS, oV) p0 := by
  unfold wpY_wants; dsimp only
  refine ⟨hi, ?_⟩
  rcases hw with h | h | ⟨hF, h | h | ⟨hG, h | h⟩⟩
  · rw [sn_m1 h] at hp
    exact nm_r h (br_t (by decide) hp)
  · rw [sn_8 h] at hp
    exact nm_r h (br_f (by decide) (br_t (by decide) hp))
  · rw [sn_6 h] at hp
    exact nm_r h (br_f (by decide) (br_f (by decide) (br_t (by decide) ⟨hi, hp⟩)))
  · refine nm_r h (br_f (by decide) (br_f (by decide) (br_f (by decide) (br_t (by decide) ⟨hi, hF, br_c (fun hz => ?_) (fun hz => ?_)⟩))))
    · exact ya_sec hi hF hz (ya_62 hi h rfl hp)
    · exact ya_62 hi h (by unfold pm_tg; rw [if_neg hz]) hp
  · rw [sn_5 h] at hp
    refine nm_r h (br_f (by decide) (br_f (by decide) (br_f (by decide) (br_f (by decide) (br_t (by decide) ⟨17, ya_wl post hi 16 0 0 rfl ?_⟩)))))
    obtain ⟨a, ha, ea, _⟩ := sq_in hF
    obtain ⟨b, hb, eb, _⟩ := sq_in hG
    rw [ea, eb] at hp ⊢
    rw [ya_wl5 a ha b hb]
    exact hp
  · rw [sn_e h] at hp
    rcases h with h | h | h | h | h
    all_goals exact nm_r h (br_f (by decide) (br_f (by decide) (br_f (by decide) (br_f (by decide) (br_f (by decide) ⟨hi, hi, hp⟩)))))
/-- the cell whose error is taken over, or -1 -/
def pm_ix (O A B S V : Nat → Int32) (i : Nat) : Int32 :=
  if O i = 8 then -1
  else if O i = 6 then (if S (A i).toNatClampNeg = 0 then -1 else A i)
  else if O i = 5 then (if pm_sc S (pm_nd O A B S V i) 16 0 = 16 then -1 else nI (pm_sc S (pm_nd O A B S V i) 16 0))
  else if S (A i).toNatClampNeg = 0 then
    if O i = 4 then (if pm_tg A B S V i = -1 then -1 else if S (pm_tg A B S V i).toNatClampNeg = 0 then -1 else pm_tg A B S V i)
    else (if S (B i).toNatClampNeg = 0 then -1 else B i)
  else A i
theorem ya_sc (post : Int32 → Prop) (m : Int32) : ∀ (d j : Nat), j + d = 16 → post (if pm_sc S m d j = 16 then -1 else nI (pm_sc S m d j)) → wY_firstError_156 post m f O A B C S V oS oV (d + 1) (nI j) := by
  intro d
  induction d with
  | zero =>
    intro j hj hp
    have e : pm_sc S m 0 j = 16 := by show j = 16; omega
    rw [if_pos e] at hp
    exact br_t (sb_g16 (by omega) (by omega)) hp
  | succ d ih =>
    intro j hj hp
    have hin : vp_in (nI j) 16 := vp_in_nI (by omega) (by decide)
    have ec : (nI j).toNatClampNeg = j := nI_clamp (by omega)
    have hn := sb_n16 (j := j) (by omega)
    by_cases hb : bt m j = true
    · have h2 := (sb_shr1 m (j := j) (by omega)).mpr hb
      by_cases z : S j = 0
      · have e : pm_sc S m (d + 1) j = pm_sc S m d (j + 1) := if_neg (fun y => y.2 z)
        rw [e] at hp
        exact br_f hn (br_t h2 ⟨hin, br_t (by rw [ec]; exact z) (nm_r (nI_1 j) (ih (j + 1) (by omega) hp))⟩)
      · have e : pm_sc S m (d + 1) j = j := if_pos ⟨hb, z⟩
        rw [e, if_neg (by omega)] at hp
        exact br_f hn (br_t h2 ⟨hin, br_f (by rw [ec]; exact z) hp⟩)
    · have h2 : ¬ ((m >>> (nI j &&& 31)) &&& 1) = 1 := fun z => hb ((sb_shr1 m (j := j) (by omega)).mp z)
      have e : pm_sc S m (d + 1) j = pm_sc S m d (j + 1) := if_neg (fun y => hb y.1)
      rw [e] at hp
      exact br_f hn (br_f h2 (nm_r (nI_1 j) (ih (j + 1) (by omega) hp)))
theorem ya_131n {x3 x5 z0 : Int32} (hp : post x3) : wY_firstError_131 post x3 1 x5 z0 f O A B C S V oS oV := br_f (by decide) hp
theorem ya_77n {m x3 z0 : Int32} (hi : vp_in p0 16) (hz : z0 = -1 ∨ vp_in z0 16) (hp : post x3) : wY_firstError_77 post p0 m x3 1 z0 f O A B C S V oS oV := by
  refine ⟨hi, br_c (fun _ => ya_131n hp) (fun _ => ⟨hi, br_c (fun _ => ya_131n hp) (fun _ => br_c (fun _ => ya_131n hp) (fun hn => br_c (fun _ => ⟨?_, br_c (fun _ => ya_131n hp) (fun _ => ya_131n hp)⟩) (fun _ => ya_131n hp)))⟩)⟩
  rcases hz with h | h
  · rw [h] at hn; exact absurd (by decide) hn
  · exact h
theorem ya_77b {m x3 z0 : Int32} (hi : vp_in p0 16) (h8 : ¬ O p0.toNatClampNeg = 8) (h6 : ¬ O p0.toNatClampNeg = 6) (hz : vp_in z0 16) (hb : bt m z0.toNatClampNeg = true) (hp : post (if S z0.toNatClampNeg = 0 then -1 else z0)) : wY_firstError_77 post p0 m x3 0 z0 f O A B C S V oS oV := by
  obtain ⟨k, hk, e, ec⟩ := sq_in hz
  have h2 : ((m >>> (z0 &&& 31)) &&& 1) = 1 := by
    rw [e]; exact (sb_shr1 m hk).mpr (ec ▸ hb)
  refine ⟨hi, br_f h8 ⟨hi, br_f h6 (br_f (by rw [e]; exact (sq_k k hk).2.1) (br_t h2 ⟨hz, br_c (fun y => ?_) (fun y => ?_)⟩))⟩⟩
  · rw [if_pos y] at hp
    exact br_t rfl (br_t rfl hp)
  · rw [if_neg y] at hp
    exact br_t rfl (br_f (by decide) hp)
theorem ya_fe (hi : vp_in p0 16) (hw : pm_wf O A B p0.toNatClampNeg) (h1 : ¬ O p0.toNatClampNeg = -1) (hp : post (pm_ix O A B S V p0.toNatClampNeg)) : wpY_firstError post (f, O, A, B, C, S, V, oS, oV) p0 := by
  unfold wpY_firstError; dsimp only
  refine ya_nd hi hw ⟨hi, ?_⟩
  unfold pm_ix at hp
  rcases hw with h | h | ⟨hF, h | h | ⟨hG, h | h⟩⟩
  · exact absurd h h1
  · rw [if_pos h] at hp
    exact br_f (by rw [h]; decide) ⟨hi, nm_e ⟨hi, br_t h ⟨hi, br_f (by rw [h]; decide) ⟨hi, ⟨hi, br_t h (br_t rfl (br_t rfl hp))⟩⟩⟩⟩⟩
  · have h8 : ¬ O p0.toNatClampNeg = 8 := by rw [h]; decide
    rw [if_neg h8, if_pos h] at hp
    refine br_f (by rw [h]; decide) ⟨hi, nm_e ⟨hi, br_f h8 ⟨hF, br_c (fun hz => ?_) (fun hz => ?_)⟩⟩⟩
    · rw [if_pos hz] at hp
      exact ⟨hi, br_f (by rw [h]; decide) ⟨hi, ⟨hi, br_f h8 ⟨hi, br_t h (br_t rfl (br_t rfl hp))⟩⟩⟩⟩
    · rw [if_neg hz] at hp
      exact ⟨hi, br_f (by rw [h]; decide) ⟨hi, ⟨hi, br_f h8 ⟨hi, br_t h (ya_131n hp)⟩⟩⟩⟩
  · have h8 : ¬ O p0.toNatClampNeg = 8 := by rw [h]; decide
    have h6 : ¬ O p0.toNatClampNeg = 6 := by rw [h]; decide
    have h5 : ¬ O p0.toNatClampNeg = 5 := by rw [h]; decide
    rw [if_neg h8, if_neg h6, if_neg h5] at hp
    refine br_f h5 ⟨hi, nm_e ⟨hi, br_f h8 ⟨hF, br_c (fun hz => ?_) (fun hz => ?_)⟩⟩⟩
    · rw [if_pos hz, if_pos h] at hp
      refine ⟨hi, br_t h (ya_sec hi hF hz ?_)⟩
      rcases sq_tg A B S V p0.toNatClampNeg with ht | ⟨_, ht, hn⟩
      · rw [if_pos ht] at hp
        rw [ht]
        exact ⟨hi, br_f h8 ⟨hi, br_f h6 (br_t (by decide) (br_t rfl (br_t rfl hp)))⟩⟩
      · rw [if_neg hn] at hp
        exact ya_77b hi h8 h6 ht (sn_T h ht hn) hp
    · rw [if_neg hz] at hp
      exact ⟨hi, br_t h (ya_sec2 hi hF (fun r hr => ya_77n hi hr hp))⟩
  · have h8 : ¬ O p0.toNatClampNeg = 8 := by rw [h]; decide
    have h6 : ¬ O p0.toNatClampNeg = 6 := by rw [h]; decide
    rw [if_neg h8, if_neg h6, if_pos h] at hp
    exact br_t h ⟨17, ya_sc post _ 16 0 rfl hp⟩
  · have h8 : ¬ O p0.toNatClampNeg = 8 := by rcases h with h | h | h | h | h <;> rw [h] <;> decide
    have h6 : ¬ O p0.toNatClampNeg = 6 := by rcases h with h | h | h | h | h <;> rw [h] <;> decide
    have h5 : ¬ O p0.toNatClampNeg = 5 := by rcases h with h | h | h | h | h <;> rw [h] <;> decide
    have h4 : ¬ O p0.toNatClampNeg = 4 := by rcases h with h | h | h | h | h <;> rw [h] <;> decide
    have e15 : B p0.toNatClampNeg &&& 15 = B p0.toNatClampNeg := by
      obtain ⟨k, hk, e, _⟩ := sq_in hG
      rw [e]; exact (sq_k k hk).2.2.2
    rw [if_neg h8, if_neg h6, if_neg h5] at hp
    refine br_f h5 ⟨hi, nm_e ⟨hi, br_f h8 ⟨hF, br_c (fun hz => ?_) (fun hz => ?_)⟩⟩⟩
    · rw [if_pos hz, if_neg h4] at hp
      refine ⟨hi, br_f h4 ⟨hi, ?_⟩⟩
      rw [e15]
      exact ya_77b hi h8 h6 hG (sn_G hG h) hp
    · rw [if_neg hz] at hp
      refine ⟨hi, br_f h4 ⟨hi, ?_⟩⟩
      rw [e15]
      exact ya_77n hi (Or.inr hG) hp
theorem ya_sm (post : Int32 → Prop) (m : Int32) : ∀ (d j : Nat) (s : Int32), j + d = 16 → post (pm_sm V m d j s) → wY_sum_11 post m f O A B C S V oS oV (d + 1) s (nI j) := by
  intro d
  induction d with
  | zero => intro j s hj hp; exact br_t (sb_g16 (by omega) (by omega)) hp
  | succ d ih =>
    intro j s hj hp
    have hin : vp_in (nI j) 16 := vp_in_nI (by omega) (by decide)
    have ec : (nI j).toNatClampNeg = j := nI_clamp (by omega)
    have hn := sb_n16 (j := j) (by omega)
    unfold pm_sm at hp
    by_cases hb : bt m j = true
    · rw [if_pos hb] at hp
      exact br_f hn (br_t ((sb_shr1 m (by omega)).mpr hb) ⟨hin, nm_r (by rw [ec]) (nm_r (nI_1 j) (ih (j + 1) _ (by omega) hp))⟩)
    · rw [if_neg hb] at hp
      exact br_f hn (br_f (fun z => hb ((sb_shr1 m (j := j) (by omega)).mp z)) (nm_r (nI_1 j) (ih (j + 1) _ (by omega) hp)))
theorem ya_sum (hi : vp_in p0 16) (hw : pm_wf O A B p0.toNatClampNeg) (hp : post (pm_sm V (pm_nd O A B S V p0.toNatClampNeg) 16 0 0)) : wpY_sum post (f, O, A, B, C, S, V, oS, oV) p0 := by
  unfold wpY_sum; dsimp only
  exact ya_nd hi hw ⟨17, ya_sm post _ 16 0 0 rfl hp⟩
end
