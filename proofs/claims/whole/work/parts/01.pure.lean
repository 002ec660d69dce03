theorem pk_and (x : Int32) {m : Int32} (k : Nat) (hm : m.toBitVec.toNat = 2 ^ k - 1) : x &&& m = nI (x.toBitVec.toNat % 2 ^ k) := by
  apply Int32.toBitVec_inj.mp
  apply BitVec.eq_of_toNat_eq
  rw [Int32.toBitVec_and, BitVec.toNat_and, hm, Nat.and_two_pow_sub_one_eq_mod]
  show _ = (BitVec.ofNat 32 _).toNat
  rw [BitVec.toNat_ofNat]
  exact (Nat.mod_eq_of_lt (Nat.lt_of_le_of_lt (Nat.mod_le _ _) x.toBitVec.isLt)).symm
theorem pk_andE (x : Int32) {m : Int32} (k : Nat) (hm : m.toBitVec.toNat = 2 ^ k - 1) : ∃ j : Nat, j < 2 ^ k ∧ x &&& m = nI j := ⟨_, Nat.mod_lt _ (Nat.two_pow_pos k), pk_and x k hm⟩
theorem pk_andIn (x : Int32) {m : Int32} (k : Nat) (hm : m.toBitVec.toNat = 2 ^ k - 1) (hk : k ≤ 30) : vp_in (x &&& m) (2 ^ k) := by
  obtain ⟨j, hj, e⟩ := pk_andE x k hm
  rw [e]
  exact vp_in_nI hj (Nat.lt_of_le_of_lt (Nat.pow_le_pow_right (by decide) hk) (by decide))
/-- an index under the mask 15 is within 16 cells -/
theorem ep_in (x : Int32) : vp_in (x &&& 15) 16 := pk_andIn x 4 (by decide) (by decide)
/-- one step back under the mask is fifteen steps on -/
theorem ep_step (x : Int32) : (x - 1) &&& 15 = (x + 15) &&& 15 := by
  have e1 : (1 : Int32).toBitVec.toNat = 1 := by decide
  have e15 : (15 : Int32).toBitVec.toNat = 15 := by decide
  have h1 : (x - 1).toBitVec.toNat = (4294967295 + x.toBitVec.toNat) % 4294967296 := by
    rw [Int32.toBitVec_sub, BitVec.toNat_sub, e1]
  have h2 : (x + 15).toBitVec.toNat = (x.toBitVec.toNat + 15) % 4294967296 := by
    rw [Int32.toBitVec_add, BitVec.toNat_add, e15]
  have h3 : (4294967295 + x.toBitVec.toNat) % 4294967296 % 2 ^ 4 = (x.toBitVec.toNat + 15) % 4294967296 % 2 ^ 4 := by
    generalize x.toBitVec.toNat = n
    omega
  rw [pk_and (x - 1) 4 (by decide), pk_and (x + 15) 4 (by decide), h1, h2, h3]
/-- the mask taken twice is the mask -/
theorem ep_mask (x : Int32) : (x &&& 15) &&& 15 = x &&& 15 := by
  rw [Int32.and_assoc, Int32.and_self]
/-- saturation: what is there and the room left make 512 -/
theorem ep_room (q : Int32) : q + (512 - q) = 512 := by grind
/-- the five words of a mix in either order -/
theorem ep_xor (w a b c d : Int32) : a ^^^ (w ^^^ ((b ^^^ c) ^^^ d)) = w ^^^ (((a ^^^ b) ^^^ c) ^^^ d) := by ac_rfl
