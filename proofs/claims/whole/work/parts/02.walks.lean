/-- the step of rot at the cursor d -/
def ep_z (d : Int32) : Int32 := if d = 0 then 14 else 7
/-- the word, turned by r -/
def ep_rot (r w : Int32) : Int32 := (w <<< (r &&& 31)) ||| ((w.toUInt32 >>> ((32 - r).toUInt32 &&& Int32.toUInt32 31)).toInt32)
/-- the four taps at d -/
def ep_T (a : Nat → Int32) (d : Int32) : Int32 := (((a (d &&& 15).toNatClampNeg) ^^^ (a ((d + 1) &&& 15).toNatClampNeg)) ^^^ (a ((d + 6) &&& 15).toNatClampNeg)) ^^^ (a ((d + 11) &&& 15).toNatClampNeg)
/-- the word that a mix stores at d -/
def ep_v (r w d : Int32) (a : Nat → Int32) : Int32 := ep_rot r w ^^^ ep_T a d
/-- the state behind a mix that moved the cursor to d -/
def ep_s (r w d q : Int32) (a : Nat → Int32) : Int32 × Int32 × Int32 × (Nat → Int32) := (d, (r + ep_z d) &&& 31, q, upd a d.toNatClampNeg (ep_v r w d a))
theorem ep_adv (post : SX → Prop) (d r q : Int32) (a : Nat → Int32) (h : post (d, (r + ep_z d) &&& 31, q, a)) : wpX_advanceRot post (d, r, q, a) := by
  by_cases hz : d = 0
  · have e : ep_z d = 14 := if_pos hz
    rw [e] at h
    exact br_t hz (nm_e h)
  · have e : ep_z d = 7 := if_neg hz
    rw [e] at h
    exact br_f hz (nm_e h)
theorem ep_taps (post : Int32 → Prop) (c r q : Int32) (a : Nat → Int32) (d : Int32) (h : post (ep_T a d)) : wpX_taps post (c, r, q, a) d :=
  ⟨ep_in _, ep_in _, ep_in _, ep_in _, h⟩
theorem ep_X (post : Int32 → SX → Prop) (c r q : Int32) (a : Nat → Int32) (w d : Int32) (hd : (c - 1) &&& 15 = d) (hm : d &&& 15 = d) (hi : vp_in d 16) (h : post (ep_v r w d a) (ep_s r w d q a)) : wpX_mix post (c, r, q, a) w := by
  unfold wpX_mix wpX_rotateLeft
  dsimp only
  refine nm_r hd ?_
  refine ep_adv _ d r q a ?_
  dsimp only
  refine ep_taps _ d _ q a d ?_
  refine nm_r (e' := ep_v r w d a) rfl ?_
  refine ⟨ep_in _, ?_⟩
  refine nm_r (e' := upd a d.toNatClampNeg (ep_v r w d a)) (by rw [hm]) ?_
  exact h
theorem ep_Y50 (post : Int32 → SY → Prop) (r q : Int32) (a : Nat → Int32) (w d z : Int32) (hz : ep_z d = z) (hm : d &&& 15 = d) (hi : vp_in d 16) (h : post (ep_v r w d a) (ep_s r w d q a)) : wY_mix_50 post (ep_rot r w) z r d r q a := by
  have e : (a d.toNatClampNeg) ^^^ (ep_rot r w ^^^ (((a ((d + 1) &&& 15).toNatClampNeg) ^^^ (a ((d + 6) &&& 15).toNatClampNeg)) ^^^ (a ((d + 11) &&& 15).toNatClampNeg))) = ep_v r w d a := by
    rw [ep_xor, ep_v, ep_T, hm]
  unfold ep_s at h
  rw [hz] at h
  unfold wY_mix_50
  refine nm_e ⟨ep_in _, ep_in _, ep_in _, ?_⟩
  refine nm_e ⟨hi, hi, ?_⟩
  rw [e]
  exact nm_e h
theorem ep_Y (post : Int32 → SY → Prop) (c r q : Int32) (a : Nat → Int32) (w d : Int32) (hd : (c + 15) &&& 15 = d) (hm : d &&& 15 = d) (hi : vp_in d 16) (h : post (ep_v r w d a) (ep_s r w d q a)) : wpY_mix post (c, r, q, a) w := by
  unfold wpY_mix
  dsimp only
  refine nm_r (e' := ep_rot r w) rfl ?_
  refine nm_r hd ?_
  by_cases hz : d = 0
  · exact br_t hz (ep_Y50 post r q a w d 14 (if_pos hz) hm hi h)
  · exact br_f hz (ep_Y50 post r q a w d 7 (if_neg hz) hm hi h)
/-- a mix has one answer and one state behind it, for both sides -/
theorem ep_mix (c r q : Int32) (a : Nat → Int32) (w : Int32) : ∃ (R : Int32) (s : Int32 × Int32 × Int32 × (Nat → Int32)), (∀ post : Int32 → SX → Prop, post R s → wpX_mix post (c, r, q, a) w) ∧ (∀ post : Int32 → SY → Prop, post R s → wpY_mix post (c, r, q, a) w) := by
  obtain ⟨d, ed⟩ : ∃ d, (c + 15) &&& 15 = d := ⟨_, rfl⟩
  have hm : d &&& 15 = d := by rw [← ed]; exact ep_mask _
  have hi : vp_in d 16 := by rw [← ed]; exact ep_in _
  exact ⟨ep_v r w d a, ep_s r w d q a, fun post h => ep_X post c r q a w d ((ep_step c).trans ed) hm hi h, fun post h => ep_Y post c r q a w d ed hm hi h⟩
theorem ep_16 : nI 16 = 16 := by decide +kernel
/-- the fold of the cells from j on, in lockstep; behind it the reference goes on with its mix -/
theorem ep_fold (c r q : Int32) (a : Nat → Int32) : ∀ d j : Nat, j + d = 16 → ∀ x : Int32, ∃ f : Int32, (∀ post : Int32 → Prop, post f → wX_fold_4 post c r q a (d + 1) x (nI j)) ∧ (∀ (post : Int64 → SY → Prop) (p : Int32), wpY_mix (fun _ s => post (f.toInt64 &&& (((1 : Int64) <<< (p.toInt64 &&& 63)) - 1)) s) (c, r, q - p, a) f → wY_extract_31 post p c r q a (d + 1) x (nI j)) := by
  intro d
  induction d with
  | zero =>
    intro j hj x
    have h : (16 : Int32) ≤ nI j := by rw [← ep_16]; exact nI_le (by omega) (by omega)
    exact ⟨x, fun _ hp => br_t h hp, fun _ _ hp => br_t h (nm_e hp)⟩
  | succ d ih =>
    intro j hj x
    have h : ¬ (16 : Int32) ≤ nI j := by rw [← ep_16]; exact nI_ge (by omega) (by omega)
    have hi : vp_in (nI j) 16 := vp_in_nI (by omega) (by omega)
    obtain ⟨f, hX, hY⟩ := ih (j + 1) (by omega) (x ^^^ a (nI j).toNatClampNeg)
    exact ⟨f, fun post hp => br_f h ⟨hi, nm_e (nm_r (nI_1 j) (hX post hp))⟩, fun post p hp => br_f h ⟨hi, nm_e (nm_r (nI_1 j) (hY post p hp))⟩⟩
