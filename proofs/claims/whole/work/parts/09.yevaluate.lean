section
variable {f : Int32} {O A B C S V oS oV : Nat → Int32} {p0 : Int32}
theorem yb_ixer {i : Nat} (hw : pm_wf O A B i) (h1 : ¬ O i = -1) (h6 : ¬ O i = 6) (h8 : ¬ O i = 8) :
    (pm_ix O A B S V i = -1 ∧ pm_er O A B S V i = 0) ∨ (vp_in (pm_ix O A B S V i) 16 ∧ ¬ S (pm_ix O A B S V i).toNatClampNeg = 0 ∧ pm_er O A B S V i = S (pm_ix O A B S V i).toNatClampNeg) := by
  unfold pm_ix
  rw [if_neg h8, if_neg h6]
  rcases hw with h | h | ⟨hF, h | h | ⟨hG, h | h⟩⟩
  · exact absurd h h1
  · exact absurd h h8
  · exact absurd h h6
  · have h5 : ¬ O i = 5 := by rw [h]; decide
    rw [if_neg h5, if_pos h, xb_e4 h]
    by_cases hz : S (A i).toNatClampNeg = 0
    · rw [if_pos hz, if_pos hz]
      rcases sq_tg A B S V i with ht | ⟨_, ht, hn⟩
      · rw [if_pos ht, if_pos ht]; exact Or.inl ⟨rfl, rfl⟩
      · rw [if_neg hn, if_neg hn]
        by_cases hy : S (pm_tg A B S V i).toNatClampNeg = 0
        · rw [if_pos hy]; exact Or.inl ⟨rfl, hy⟩
        · rw [if_neg hy]; exact Or.inr ⟨ht, hy, rfl⟩
    · rw [if_neg hz, if_neg hz]; exact Or.inr ⟨hF, hz, rfl⟩
  · rw [if_pos h, xb_e5 h]
    rcases sn_sc S (pm_nd O A B S V i) 16 0 rfl with e | ⟨e, _, ez⟩
    · rw [if_pos e, if_pos e]; exact Or.inl ⟨rfl, rfl⟩
    · rw [if_neg (by omega), if_neg (by omega), nI_clamp (by omega)]
      exact Or.inr ⟨vp_in_nI e (by decide), ez, rfl⟩
  · have h5 : ¬ O i = 5 := by rcases h with h | h | h | h | h <;> rw [h] <;> decide
    have h4 : ¬ O i = 4 := by rcases h with h | h | h | h | h <;> rw [h] <;> decide
    rw [if_neg h5, if_neg h4, xb_e0 h]
    by_cases hz : S (A i).toNatClampNeg = 0
    · rw [if_pos hz, if_pos hz]
      by_cases hy : S (B i).toNatClampNeg = 0
      · rw [if_pos hy]; exact Or.inl ⟨rfl, hy⟩
      · rw [if_neg hy]; exact Or.inr ⟨hG, hy, rfl⟩
    · rw [if_neg hz, if_neg hz]; exact Or.inr ⟨hF, hz, rfl⟩
theorem yb_upd0 {V : Nat → Int32} {i : Nat} (h : V i = 0) : upd V i 0 = V := by
  funext k
  by_cases e : k = i
  · subst e; rw [pk_us, h]
  · rw [pk_un e]
theorem yb_num {post : SY → Prop} {x : Int32} (hi : vp_in p0 16) (hp : post (f, O, A, B, C, upd S p0.toNatClampNeg 0, upd V p0.toNatClampNeg x, oS, oV)) : wpY_number post (f, O, A, B, C, S, V, oS, oV) p0 x := by
  unfold wpY_number; dsimp only
  exact ⟨hi, nm_e ⟨hi, nm_e hp⟩⟩
variable {post : SY → Prop}
theorem yb_v0 (h : O p0.toNatClampNeg = 0) (he : pm_er O A B S V p0.toNatClampNeg = 0) : pm_st O A B S V p0.toNatClampNeg = 0 ∧ pm_vl O A B S V p0.toNatClampNeg = V (A p0.toNatClampNeg).toNatClampNeg + V (B p0.toNatClampNeg).toNatClampNeg := by
  have est : pm_st O A B S V p0.toNatClampNeg = 0 := by
    unfold pm_st pm_os
    rw [if_pos he, if_neg (by rw [h]; decide), if_neg (by rw [h]; decide), if_neg (by rw [h]; decide)]
  refine ⟨est, ?_⟩
  have eo : pm_oth O A B S V p0.toNatClampNeg = B p0.toNatClampNeg := if_neg (by rw [h]; decide)
  unfold pm_vl
  rw [if_pos est, eo]
  unfold pm_ov
  rw [if_pos h]
theorem yb_v1 (h : O p0.toNatClampNeg = 1) (he : pm_er O A B S V p0.toNatClampNeg = 0) : pm_st O A B S V p0.toNatClampNeg = 0 ∧ pm_vl O A B S V p0.toNatClampNeg = V (A p0.toNatClampNeg).toNatClampNeg - V (B p0.toNatClampNeg).toNatClampNeg := by
  have est : pm_st O A B S V p0.toNatClampNeg = 0 := by
    unfold pm_st pm_os
    rw [if_pos he, if_neg (by rw [h]; decide), if_neg (by rw [h]; decide), if_neg (by rw [h]; decide)]
  refine ⟨est, ?_⟩
  have eo : pm_oth O A B S V p0.toNatClampNeg = B p0.toNatClampNeg := if_neg (by rw [h]; decide)
  unfold pm_vl
  rw [if_pos est, eo]
  unfold pm_ov
  rw [if_neg (by rw [h]; decide), if_pos h]
theorem yb_v2 (h : O p0.toNatClampNeg = 2) (he : pm_er O A B S V p0.toNatClampNeg = 0) : pm_st O A B S V p0.toNatClampNeg = 0 ∧ pm_vl O A B S V p0.toNatClampNeg = V (A p0.toNatClampNeg).toNatClampNeg * V (B p0.toNatClampNeg).toNatClampNeg := by
  have est : pm_st O A B S V p0.toNatClampNeg = 0 := by
    unfold pm_st pm_os
    rw [if_pos he, if_neg (by rw [h]; decide), if_neg (by rw [h]; decide), if_neg (by rw [h]; decide)]
  refine ⟨est, ?_⟩
  have eo : pm_oth O A B S V p0.toNatClampNeg = B p0.toNatClampNeg := if_neg (by rw [h]; decide)
  unfold pm_vl
  rw [if_pos est, eo]
  unfold pm_ov
  rw [if_neg (by rw [h]; decide), if_neg (by rw [h]; decide), if_pos h]
theorem yb_v7 (h : O p0.toNatClampNeg = 7) (he : pm_er O A B S V p0.toNatClampNeg = 0) : pm_st O A B S V p0.toNatClampNeg = 0 ∧ pm_vl O A B S V p0.toNatClampNeg = (if V (A p0.toNatClampNeg).toNatClampNeg = 0 then 0 else V (B p0.toNatClampNeg).toNatClampNeg) := by
  have est : pm_st O A B S V p0.toNatClampNeg = 0 := by
    unfold pm_st pm_os
    rw [if_pos he, if_neg (by rw [h]; decide), if_neg (by rw [h]; decide), if_neg (by rw [h]; decide)]
  refine ⟨est, ?_⟩
  have eo : pm_oth O A B S V p0.toNatClampNeg = B p0.toNatClampNeg := if_neg (by rw [h]; decide)
  unfold pm_vl
  rw [if_pos est, eo]
  unfold pm_ov
  rw [if_neg (by rw [h]; decide), if_neg (by rw [h]; decide), if_neg (by rw [h]; decide), if_neg (by rw [h]; decide), if_neg (by rw [h]; decide), if_neg (by rw [h]; decide), if_neg (by rw [h]; decide)]
theorem yb_v3 (h : O p0.toNatClampNeg = 3) (he : pm_er O A B S V p0.toNatClampNeg = 0) (hy : ¬ V (B p0.toNatClampNeg).toNatClampNeg = 0) : pm_st O A B S V p0.toNatClampNeg = 0 ∧ pm_vl O A B S V p0.toNatClampNeg = V (A p0.toNatClampNeg).toNatClampNeg / V (B p0.toNatClampNeg).toNatClampNeg := by
  have eo : pm_oth O A B S V p0.toNatClampNeg = B p0.toNatClampNeg := if_neg (by rw [h]; decide)
  have est : pm_st O A B S V p0.toNatClampNeg = 0 := by
    unfold pm_st pm_os
    rw [if_pos he, if_neg (by rw [h]; decide), if_neg (by rw [h]; decide), if_pos h, eo, if_neg hy]
  refine ⟨est, ?_⟩
  unfold pm_vl
  rw [if_pos est, eo]
  unfold pm_ov
  rw [if_neg (by rw [h]; decide), if_neg (by rw [h]; decide), if_neg (by rw [h]; decide), if_pos h, if_neg hy]
theorem yb_w3 (h : O p0.toNatClampNeg = 3) (he : pm_er O A B S V p0.toNatClampNeg = 0) (hy : V (B p0.toNatClampNeg).toNatClampNeg = 0) : pm_st O A B S V p0.toNatClampNeg = 1 ∧ pm_vl O A B S V p0.toNatClampNeg = 0 := by
  have eo : pm_oth O A B S V p0.toNatClampNeg = B p0.toNatClampNeg := if_neg (by rw [h]; decide)
  have est : pm_st O A B S V p0.toNatClampNeg = 1 := by
    unfold pm_st pm_os
    rw [if_pos he, if_neg (by rw [h]; decide), if_neg (by rw [h]; decide), if_pos h, eo, if_pos hy]
  refine ⟨est, ?_⟩
  unfold pm_vl
  rw [est]; exact if_neg (by decide)
theorem yb_v5 (h : O p0.toNatClampNeg = 5) (he : pm_er O A B S V p0.toNatClampNeg = 0) : pm_st O A B S V p0.toNatClampNeg = 0 ∧ pm_vl O A B S V p0.toNatClampNeg = pm_sm V (pm_nd O A B S V p0.toNatClampNeg) 16 0 0 := by
  have est : pm_st O A B S V p0.toNatClampNeg = 0 := by
    unfold pm_st pm_os
    rw [if_pos he, if_neg (by rw [h]; decide), if_neg (by rw [h]; decide), if_neg (by rw [h]; decide)]
  refine ⟨est, ?_⟩
  unfold pm_vl
  rw [if_pos est]
  unfold pm_ov
  rw [if_neg (by rw [h]; decide), if_neg (by rw [h]; decide), if_neg (by rw [h]; decide), if_neg (by rw [h]; decide), if_neg (by rw [h]; decide), if_pos h]
theorem yb_v6 (h : O p0.toNatClampNeg = 6) : pm_st O A B S V p0.toNatClampNeg = 0 ∧ pm_vl O A B S V p0.toNatClampNeg = if S (A p0.toNatClampNeg).toNatClampNeg = 0 then 0 else 1 := by
  have est : pm_st O A B S V p0.toNatClampNeg = 0 := by
    unfold pm_st pm_os
    rw [if_pos (xb_e6 h), if_neg (by rw [h]; decide), if_neg (by rw [h]; decide), if_neg (by rw [h]; decide)]
  refine ⟨est, ?_⟩
  unfold pm_vl
  rw [if_pos est]
  unfold pm_ov
  rw [if_neg (by rw [h]; decide), if_neg (by rw [h]; decide), if_neg (by rw [h]; decide), if_neg (by rw [h]; decide), if_neg (by rw [h]; decide), if_neg (by rw [h]; decide), if_pos h]
theorem yb_v8 (h : O p0.toNatClampNeg = 8) : pm_st O A B S V p0.toNatClampNeg = 2 ∧ pm_vl O A B S V p0.toNatClampNeg = 0 := by
  have est : pm_st O A B S V p0.toNatClampNeg = 2 := by
    unfold pm_st pm_os
    rw [if_pos (xb_e8 h), if_pos h]
  refine ⟨est, ?_⟩
  unfold pm_vl
  rw [est]; exact if_neg (by decide)
theorem yb_v4 (h : O p0.toNatClampNeg = 4) (he : pm_er O A B S V p0.toNatClampNeg = 0) (ht : ¬ pm_tg A B S V p0.toNatClampNeg = -1) : pm_st O A B S V p0.toNatClampNeg = 0 ∧ pm_vl O A B S V p0.toNatClampNeg = V (pm_tg A B S V p0.toNatClampNeg).toNatClampNeg := by
  have eo : pm_oth O A B S V p0.toNatClampNeg = pm_tg A B S V p0.toNatClampNeg := if_pos h
  have est : pm_st O A B S V p0.toNatClampNeg = 0 := by
    unfold pm_st pm_os
    rw [if_pos he, if_neg (by rw [h]; decide), if_pos h, eo, if_neg ht]
  refine ⟨est, ?_⟩
  unfold pm_vl
  rw [if_pos est, eo]
  unfold pm_ov
  rw [if_neg (by rw [h]; decide), if_neg (by rw [h]; decide), if_neg (by rw [h]; decide), if_neg (by rw [h]; decide), if_pos h]
theorem yb_w4 (h : O p0.toNatClampNeg = 4) (he : pm_er O A B S V p0.toNatClampNeg = 0) (ht : pm_tg A B S V p0.toNatClampNeg = -1) : pm_st O A B S V p0.toNatClampNeg = 2 ∧ pm_vl O A B S V p0.toNatClampNeg = 0 := by
  have eo : pm_oth O A B S V p0.toNatClampNeg = pm_tg A B S V p0.toNatClampNeg := if_pos h
  have est : pm_st O A B S V p0.toNatClampNeg = 2 := by
    unfold pm_st pm_os
    rw [if_pos he, if_neg (by rw [h]; decide), if_pos h, eo, if_pos ht]
  refine ⟨est, ?_⟩
  unfold pm_vl
  rw [est]; exact if_neg (by decide)
theorem yb_ve (he : ¬ pm_er O A B S V p0.toNatClampNeg = 0) : pm_st O A B S V p0.toNatClampNeg = pm_er O A B S V p0.toNatClampNeg ∧ pm_vl O A B S V p0.toNatClampNeg = 0 := by
  have est : pm_st O A B S V p0.toNatClampNeg = pm_er O A B S V p0.toNatClampNeg := if_neg he
  refine ⟨est, ?_⟩
  unfold pm_vl
  rw [est]; exact if_neg he
theorem yb_ev (hi : vp_in p0 16) (hw : pm_wf O A B p0.toNatClampNeg) (h1 : ¬ O p0.toNatClampNeg = -1) (hV : V p0.toNatClampNeg = 0)
    (hp : post (f, O, A, B, C, upd S p0.toNatClampNeg (pm_st O A B S V p0.toNatClampNeg), upd V p0.toNatClampNeg (pm_vl O A B S V p0.toNatClampNeg), oS, oV)) :
    wpY_evaluate post (f, O, A, B, C, S, V, oS, oV) p0 := by
  unfold wpY_evaluate; dsimp only
  refine ⟨hi, nm_e ⟨hi, nm_e ⟨hi, nm_e (ya_fe hi hw h1 ?_)⟩⟩⟩
  have hv0 : upd V p0.toNatClampNeg 0 = V := yb_upd0 hV
  by_cases h6 : O p0.toNatClampNeg = 6
  · obtain ⟨est, evl⟩ := yb_v6 (A := A) (B := B) (S := S) (V := V) h6
    have eix : pm_ix O A B S V p0.toNatClampNeg = if S (A p0.toNatClampNeg).toNatClampNeg = 0 then -1 else A p0.toNatClampNeg := by
      unfold pm_ix
      rw [if_neg (by rw [h6]; decide), if_pos h6]
    obtain ⟨hF, _⟩ := sn_F (S := S) (V := V) hw h1 (by rw [h6]; decide) (by rw [h6]; decide)
    rw [est, evl] at hp
    rw [eix]
    by_cases hz : S (A p0.toNatClampNeg).toNatClampNeg = 0
    · rw [if_pos hz] at hp ⊢
      exact br_t h6 (br_f (by decide) (yb_num hi hp))
    · rw [if_neg hz] at hp ⊢
      obtain ⟨k, hk, e, _⟩ := sq_in hF
      exact br_t h6 (br_t (by rw [e]; exact (sq_k k hk).2.2.1) (yb_num hi hp))
  · refine br_f h6 ?_
    by_cases h8 : O p0.toNatClampNeg = 8
    · obtain ⟨est, evl⟩ := yb_v8 (A := A) (B := B) (S := S) (V := V) h8
      rw [est, evl, hv0] at hp
      exact br_t h8 ⟨hi, nm_e hp⟩
    · refine br_f h8 ?_
      rcases yb_ixer (S := S) (V := V) hw h1 h6 h8 with ⟨eix, he⟩ | ⟨hix, hnz, eer⟩
      · rw [eix]
        refine br_t (by decide) ?_
        rcases hw with h | h | ⟨hF, h | h | ⟨hG, h | h⟩⟩
        · exact absurd h h1
        · exact absurd h h8
        · exact absurd h h6
        · have hz : S (A p0.toNatClampNeg).toNatClampNeg = 0 := by
            by_cases hz : S (A p0.toNatClampNeg).toNatClampNeg = 0
            · exact hz
            · have e := he
              rw [xb_e4 h, if_neg hz] at e
              exact e
          refine br_t h (ya_sec hi hF hz ?_)
          rcases sq_tg A B S V p0.toNatClampNeg with ht | ⟨_, ht, hn⟩
          · obtain ⟨est, evl⟩ := yb_w4 h he ht
            rw [est, evl] at hp
            rw [ht]
            exact br_f (by decide) ⟨hi, nm_e (br_f (by decide) ⟨hi, nm_e hp⟩)⟩
          · obtain ⟨est, evl⟩ := yb_v4 h he hn
            rw [est, evl] at hp
            obtain ⟨k, hk, e, _⟩ := sq_in ht
            have h0 : 0 ≤ pm_tg A B S V p0.toNatClampNeg := by rw [e]; exact (sq_k k hk).2.2.1
            exact br_t h0 ⟨hi, nm_e (br_t h0 ⟨ht, hi, nm_e hp⟩)⟩
        · obtain ⟨est, evl⟩ := yb_v5 h he
          rw [est, evl] at hp
          exact br_f (by rw [h]; decide) (br_f (by rw [h]; decide) (br_t h (ya_sum hi (Or.inr (Or.inr ⟨hF, Or.inr (Or.inr ⟨hG, Or.inl h⟩)⟩)) (yb_num hi hp))))
        · rcases h with h | h | h | h | h
          · obtain ⟨est, evl⟩ := yb_v0 h he
            rw [est, evl] at hp
            exact br_f (by rw [h]; decide) (br_f (by rw [h]; decide) (br_f (by rw [h]; decide) ⟨hF, nm_e ⟨hG, nm_e (br_f (by rw [h]; decide) (br_t h (yb_num hi hp)))⟩⟩))
          · obtain ⟨est, evl⟩ := yb_v1 h he
            rw [est, evl] at hp
            exact br_f (by rw [h]; decide) (br_f (by rw [h]; decide) (br_f (by rw [h]; decide) ⟨hF, nm_e ⟨hG, nm_e (br_f (by rw [h]; decide) (br_f (by rw [h]; decide) (br_t h (yb_num hi hp))))⟩⟩))
          · obtain ⟨est, evl⟩ := yb_v2 h he
            rw [est, evl] at hp
            exact br_f (by rw [h]; decide) (br_f (by rw [h]; decide) (br_f (by rw [h]; decide) ⟨hF, nm_e ⟨hG, nm_e (br_f (by rw [h]; decide) (br_f (by rw [h]; decide) (br_f (by rw [h]; decide) (br_t h (yb_num hi hp)))))⟩⟩))
          · by_cases hy : V (B p0.toNatClampNeg).toNatClampNeg = 0
            · obtain ⟨est, evl⟩ := yb_w3 h he hy
              rw [est, evl, hv0] at hp
              exact br_f (by rw [h]; decide) (br_t h ⟨hG, br_t hy ⟨hi, nm_e hp⟩⟩)
            · obtain ⟨est, evl⟩ := yb_v3 h he hy
              rw [est, evl] at hp
              exact br_f (by rw [h]; decide) (br_t h ⟨hG, br_f hy (br_f (by rw [h]; decide) ⟨hF, nm_e ⟨hG, nm_e (br_t h (br_f hy ⟨hy, br_f (by rw [h]; decide) (br_f (by rw [h]; decide) (br_f (by rw [h]; decide) (br_t h (yb_num hi hp))))⟩))⟩⟩)⟩)
          · obtain ⟨est, evl⟩ := yb_v7 h he
            rw [est, evl] at hp
            refine br_f (by rw [h]; decide) (br_f (by rw [h]; decide) (br_f (by rw [h]; decide) ⟨hF, nm_e ⟨hG, nm_e (br_f (by rw [h]; decide) (br_f (by rw [h]; decide) (br_f (by rw [h]; decide) (br_f (by rw [h]; decide) (br_f (by rw [h]; decide) (br_c (fun hy => ?_) (fun hy => ?_)))))))⟩⟩))
            · rw [if_pos hy] at hp
              exact yb_num hi hp
            · rw [if_neg hy] at hp
              exact yb_num hi hp
      · obtain ⟨est, evl⟩ := yb_ve (A := A) (B := B) (O := O) (V := V) (S := S) (p0 := p0) (by rw [eer]; exact hnz)
        rw [est, evl, hv0, eer] at hp
        obtain ⟨k, hk, e, _⟩ := sq_in hix
        exact br_f (by rw [e]; exact (sq_k k hk).2.1) ⟨hix, hi, nm_e hp⟩
end
