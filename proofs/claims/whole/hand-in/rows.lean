section
theorem pk_and (x : Int32) {m : Int32} (k : Nat) (hm : m.toBitVec.toNat = 2 ^ k - 1) : x &&& m = nI (x.toBitVec.toNat % 2 ^ k) := by
  apply Int32.toBitVec_inj.mp
  apply BitVec.eq_of_toNat_eq
  rw [Int32.toBitVec_and, BitVec.toNat_and, hm, Nat.and_two_pow_sub_one_eq_mod]
  show _ = (BitVec.ofNat 32 _).toNat
  rw [BitVec.toNat_ofNat]
  exact (Nat.mod_eq_of_lt (Nat.lt_of_le_of_lt (Nat.mod_le _ _) x.toBitVec.isLt)).symm
theorem pk_andE (x : Int32) {m : Int32} (k : Nat) (hm : m.toBitVec.toNat = 2 ^ k - 1) : ∃ j : Nat, j < 2 ^ k ∧ x &&& m = nI j := ⟨_, Nat.mod_lt _ (Nat.two_pow_pos k), pk_and x k hm⟩
theorem pk_andIn (x : Int32) {m : Int32} (k : Nat) (hm : m.toBitVec.toNat = 2 ^ k - 1) (hk : k ≤ 30) : vp_in (x &&& m) (2 ^ k) := by
  obtain ⟨j, hj, e⟩ := pk_andE x k hm
  rw [e]
  exact vp_in_nI hj (Nat.lt_of_le_of_lt (Nat.pow_le_pow_right (by decide) hk) (by decide))
/-- an index under the mask 15 is within 16 cells -/
theorem ep_in (x : Int32) : vp_in (x &&& 15) 16 := pk_andIn x 4 (by decide) (by decide)
/-- one step back under the mask is fifteen steps on -/
theorem ep_step (x : Int32) : (x - 1) &&& 15 = (x + 15) &&& 15 := by
  have e1 : (1 : Int32).toBitVec.toNat = 1 := by decide
  have e15 : (15 : Int32).toBitVec.toNat = 15 := by decide
  have h1 : (x - 1).toBitVec.toNat = (4294967295 + x.toBitVec.toNat) % 4294967296 := by
    rw [Int32.toBitVec_sub, BitVec.toNat_sub, e1]
  have h2 : (x + 15).toBitVec.toNat = (x.toBitVec.toNat + 15) % 4294967296 := by
    rw [Int32.toBitVec_add, BitVec.toNat_add, e15]
  have h3 : (4294967295 + x.toBitVec.toNat) % 4294967296 % 2 ^ 4 = (x.toBitVec.toNat + 15) % 4294967296 % 2 ^ 4 := by
    generalize x.toBitVec.toNat = n
    omega
  rw [pk_and (x - 1) 4 (by decide), pk_and (x + 15) 4 (by decide), h1, h2, h3]
/-- the mask taken twice is the mask -/
theorem ep_mask (x : Int32) : (x &&& 15) &&& 15 = x &&& 15 := by
  rw [Int32.and_assoc, Int32.and_self]
/-- saturation: what is there and the room left make 512 -/
theorem ep_room (q : Int32) : q + (512 - q) = 512 := by grind
/-- the five words of a mix in either order -/
theorem ep_xor (w a b c d : Int32) : a ^^^ (w ^^^ ((b ^^^ c) ^^^ d)) = w ^^^ (((a ^^^ b) ^^^ c) ^^^ d) := by ac_rfl
end
section
/-- the step of rot at the cursor d -/
def ep_z (d : Int32) : Int32 := if d = 0 then 14 else 7
/-- the word, turned by r -/
def ep_rot (r w : Int32) : Int32 := (w <<< (r &&& 31)) ||| ((w.toUInt32 >>> ((32 - r).toUInt32 &&& Int32.toUInt32 31)).toInt32)
/-- the four taps at d -/
def ep_T (a : Nat → Int32) (d : Int32) : Int32 := (((a (d &&& 15).toNatClampNeg) ^^^ (a ((d + 1) &&& 15).toNatClampNeg)) ^^^ (a ((d + 6) &&& 15).toNatClampNeg)) ^^^ (a ((d + 11) &&& 15).toNatClampNeg)
/-- the word that a mix stores at d -/
def ep_v (r w d : Int32) (a : Nat → Int32) : Int32 := ep_rot r w ^^^ ep_T a d
/-- the state behind a mix that moved the cursor to d -/
def ep_s (r w d q : Int32) (a : Nat → Int32) : Int32 × Int32 × Int32 × (Nat → Int32) := (d, (r + ep_z d) &&& 31, q, upd a d.toNatClampNeg (ep_v r w d a))
theorem ep_adv (post : SX → Prop) (d r q : Int32) (a : Nat → Int32) (h : post (d, (r + ep_z d) &&& 31, q, a)) : wpX_advanceRot post (d, r, q, a) := by
  by_cases hz : d = 0
  · have e : ep_z d = 14 := if_pos hz
    rw [e] at h
    exact br_t hz (nm_e h)
  · have e : ep_z d = 7 := if_neg hz
    rw [e] at h
    exact br_f hz (nm_e h)
theorem ep_taps (post : Int32 → Prop) (c r q : Int32) (a : Nat → Int32) (d : Int32) (h : post (ep_T a d)) : wpX_taps post (c, r, q, a) d :=
  ⟨ep_in _, ep_in _, ep_in _, ep_in _, h⟩
theorem ep_X (post : Int32 → SX → Prop) (c r q : Int32) (a : Nat → Int32) (w d : Int32) (hd : (c - 1) &&& 15 = d) (hm : d &&& 15 = d) (hi : vp_in d 16) (h : post (ep_v r w d a) (ep_s r w d q a)) : wpX_mix post (c, r, q, a) w := by
  unfold wpX_mix wpX_rotateLeft
  dsimp only
  refine nm_r hd ?_
  refine ep_adv _ d r q a ?_
  dsimp only
  refine ep_taps _ d _ q a d ?_
  refine nm_r (e' := ep_v r w d a) rfl ?_
  refine ⟨ep_in _, ?_⟩
  refine nm_r (e' := upd a d.toNatClampNeg (ep_v r w d a)) (by rw [hm]) ?_
  exact h
theorem ep_Y50 (post : Int32 → SY → Prop) (r q : Int32) (a : Nat → Int32) (w d z : Int32) (hz : ep_z d = z) (hm : d &&& 15 = d) (hi : vp_in d 16) (h : post (ep_v r w d a) (ep_s r w d q a)) : wY_mix_50 post (ep_rot r w) z r d r q a := by
  have e : (a d.toNatClampNeg) ^^^ (ep_rot r w ^^^ (((a ((d + 1) &&& 15).toNatClampNeg) ^^^ (a ((d + 6) &&& 15).toNatClampNeg)) ^^^ (a ((d + 11) &&& 15).toNatClampNeg))) = ep_v r w d a := by
    rw [ep_xor, ep_v, ep_T, hm]
  unfold ep_s at h
  rw [hz] at h
  unfold wY_mix_50
  refine nm_e ⟨ep_in _, ep_in _, ep_in _, ?_⟩
  refine nm_e ⟨hi, hi, ?_⟩
  rw [e]
  exact nm_e h
theorem ep_Y (post : Int32 → SY → Prop) (c r q : Int32) (a : Nat → Int32) (w d : Int32) (hd : (c + 15) &&& 15 = d) (hm : d &&& 15 = d) (hi : vp_in d 16) (h : post (ep_v r w d a) (ep_s r w d q a)) : wpY_mix post (c, r, q, a) w := by
  unfold wpY_mix
  dsimp only
  refine nm_r (e' := ep_rot r w) rfl ?_
  refine nm_r hd ?_
  by_cases hz : d = 0
  · exact br_t hz (ep_Y50 post r q a w d 14 (if_pos hz) hm hi h)
  · exact br_f hz (ep_Y50 post r q a w d 7 (if_neg hz) hm hi h)
/-- a mix has one answer and one state behind it, for both sides -/
theorem ep_mix (c r q : Int32) (a : Nat → Int32) (w : Int32) : ∃ (R : Int32) (s : Int32 × Int32 × Int32 × (Nat → Int32)), (∀ post : Int32 → SX → Prop, post R s → wpX_mix post (c, r, q, a) w) ∧ (∀ post : Int32 → SY → Prop, post R s → wpY_mix post (c, r, q, a) w) := by
  obtain ⟨d, ed⟩ : ∃ d, (c + 15) &&& 15 = d := ⟨_, rfl⟩
  have hm : d &&& 15 = d := by rw [← ed]; exact ep_mask _
  have hi : vp_in d 16 := by rw [← ed]; exact ep_in _
  exact ⟨ep_v r w d a, ep_s r w d q a, fun post h => ep_X post c r q a w d ((ep_step c).trans ed) hm hi h, fun post h => ep_Y post c r q a w d ed hm hi h⟩
theorem ep_16 : nI 16 = 16 := by decide +kernel
/-- the fold of the cells from j on, in lockstep; behind it the reference goes on with its mix -/
theorem ep_fold (c r q : Int32) (a : Nat → Int32) : ∀ d j : Nat, j + d = 16 → ∀ x : Int32, ∃ f : Int32, (∀ post : Int32 → Prop, post f → wX_fold_4 post c r q a (d + 1) x (nI j)) ∧ (∀ (post : Int64 → SY → Prop) (p : Int32), wpY_mix (fun _ s => post (f.toInt64 &&& (((1 : Int64) <<< (p.toInt64 &&& 63)) - 1)) s) (c, r, q - p, a) f → wY_extract_31 post p c r q a (d + 1) x (nI j)) := by
  intro d
  induction d with
  | zero =>
    intro j hj x
    have h : (16 : Int32) ≤ nI j := by rw [← ep_16]; exact nI_le (by omega) (by omega)
    exact ⟨x, fun _ hp => br_t h hp, fun _ _ hp => br_t h (nm_e hp)⟩
  | succ d ih =>
    intro j hj x
    have h : ¬ (16 : Int32) ≤ nI j := by rw [← ep_16]; exact nI_ge (by omega) (by omega)
    have hi : vp_in (nI j) 16 := vp_in_nI (by omega) (by omega)
    obtain ⟨f, hX, hY⟩ := ih (j + 1) (by omega) (x ^^^ a (nI j).toNatClampNeg)
    exact ⟨f, fun post hp => br_f h ⟨hi, nm_e (nm_r (nI_1 j) (hX post hp))⟩, fun post p hp => br_f h ⟨hi, nm_e (nm_r (nI_1 j) (hY post p hp))⟩⟩
end
section
/-- the two pools stand alike: cursor, rot, credit and the sixteen cells -/
def i_Rel (_ : Nat) (u : SX) (v : SY) : Prop := u = v
theorem i_up {k : Nat} {u : SX} {v : SY} (h : i_Rel k u v) : i_Rel (k + 2) u v := h
theorem i_vc0 : wpX_init (fun u => wpY_init (fun v => i_Rel 0 u v)) := rfl
theorem i_vc_mix {k : Nat} {u : SX} {v : SY} (I : i_Rel k u v) (hk : k + 2 ≤ 1024) (v1 : Int32) : wpX_mix (fun r u' => wpY_mix (fun r' v' => r' = r ∧ i_Rel (k + 2) u' v') v v1) u v1 := by
  cases I
  obtain ⟨c, r, q, a⟩ := u
  obtain ⟨R, s, mX, mY⟩ := ep_mix c r q a v1
  exact mX _ (mY _ ⟨rfl, rfl⟩)
theorem i_vc_credit {k : Nat} {u : SX} {v : SY} (I : i_Rel k u v) (hk : k + 2 ≤ 1024) (v1 : Int32) : wpX_credit (fun r u' => wpY_credit (fun r' v' => r' = r ∧ i_Rel (k + 2) u' v') v v1) u v1 := by
  cases I
  obtain ⟨c, r, q, a⟩ := u
  by_cases h0 : 0 ≤ v1
  · by_cases h1 : v1 ≤ 512 - q
    · exact br_t h0 (br_t h1 (nm_e (br_t h0 (br_t h1 (nm_e ⟨rfl, rfl⟩)))))
    · refine br_t h0 (br_f h1 (br_t h0 (br_f h1 (nm_e (nm_e ⟨ep_room q, ?_⟩)))))
      show ((c, r, 512, a) : SX) = (c, r, q + (512 - q), a)
      rw [ep_room]
  · exact br_f h0 (br_f h0 ⟨rfl, rfl⟩)
theorem i_vc_extract {k : Nat} {u : SX} {v : SY} (I : i_Rel k u v) (hk : k + 2 ≤ 1024) (v1 : Int32) : wpX_extract (fun r u' => wpY_extract (fun r' v' => r' = r ∧ i_Rel (k + 2) u' v') v v1) u v1 := by
  cases I
  obtain ⟨c, r, q, a⟩ := u
  by_cases h1 : v1 < 1
  · exact br_t h1 (br_t h1 ⟨rfl, rfl⟩)
  · by_cases h2 : v1 ≤ 32
    · by_cases h3 : v1 ≤ q
      · obtain ⟨f, hX, hY⟩ := ep_fold c r q a 16 0 rfl 0
        rw [nI_0] at hX hY
        obtain ⟨R, ⟨c', r', q', a'⟩, mX, mY⟩ := ep_mix c r (q - v1) a f
        refine br_f h1 (br_t h2 (br_t h3 ⟨_, hX _ (nm_e (mX _ ?_))⟩))
        exact br_f h1 (br_t h2 (br_t h3 ⟨_, hY _ _ (mY _ ⟨rfl, rfl⟩)⟩))
      · exact br_f h1 (br_t h2 (br_f h3 (br_f h1 (br_t h2 (br_f h3 ⟨rfl, rfl⟩)))))
    · exact br_f h1 (br_f h2 (br_f h1 (br_f h2 ⟨rfl, rfl⟩)))
theorem i_vc_available {k : Nat} {u : SX} {v : SY} (I : i_Rel k u v) (hk : k + 2 ≤ 1024) : wpX_available (fun r => wpY_available (fun r' => r' = r ∧ i_Rel (k + 2) u v) v) u := by
  cases I
  exact ⟨rfl, rfl⟩
end
