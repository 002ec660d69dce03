/-- the two pools stand alike: cursor, rot, credit and the sixteen cells -/
def i_Rel (_ : Nat) (u : SX) (v : SY) : Prop := u = v
theorem i_up {k : Nat} {u : SX} {v : SY} (h : i_Rel k u v) : i_Rel (k + 2) u v := h
theorem i_vc0 : wpX_init (fun u => wpY_init (fun v => i_Rel 0 u v)) := rfl
theorem i_vc_mix {k : Nat} {u : SX} {v : SY} (I : i_Rel k u v) (hk : k + 2 ≤ 1024) (v1 : Int32) : wpX_mix (fun r u' => wpY_mix (fun r' v' => r' = r ∧ i_Rel (k + 2) u' v') v v1) u v1 := by
  cases I
  obtain ⟨c, r, q, a⟩ := u
  obtain ⟨R, s, mX, mY⟩ := ep_mix c r q a v1
  exact mX _ (mY _ ⟨rfl, rfl⟩)
theorem i_vc_credit {k : Nat} {u : SX} {v : SY} (I : i_Rel k u v) (hk : k + 2 ≤ 1024) (v1 : Int32) : wpX_credit (fun r u' => wpY_credit (fun r' v' => r' = r ∧ i_Rel (k + 2) u' v') v v1) u v1 := by
  cases I
  obtain ⟨c, r, q, a⟩ := u
  by_cases h0 : 0 ≤ v1
  · by_cases h1 : v1 ≤ 512 - q
    · exact br_t h0 (br_t h1 (nm_e (br_t h0 (br_t h1 (nm_e ⟨rfl, rfl⟩)))))
    · refine br_t h0 (br_f h1 (br_t h0 (br_f h1 (nm_e (nm_e ⟨ep_room q, ?_⟩)))))
      show ((c, r, 512, a) : SX) = (c, r, q + (512 - q), a)
      rw [ep_room]
  · exact br_f h0 (br_f h0 ⟨rfl, rfl⟩)
theorem i_vc_extract {k : Nat} {u : SX} {v : SY} (I : i_Rel k u v) (hk : k + 2 ≤ 1024) (v1 : Int32) : wpX_extract (fun r u' => wpY_extract (fun r' v' => r' = r ∧ i_Rel (k + 2) u' v') v v1) u v1 := by
  cases I
  obtain ⟨c, r, q, a⟩ := u
  by_cases h1 : v1 < 1
  · exact br_t h1 (br_t h1 ⟨rfl, rfl⟩)
  · by_cases h2 : v1 ≤ 32
    · by_cases h3 : v1 ≤ q
      · obtain ⟨f, hX, hY⟩ := ep_fold c r q a 16 0 rfl 0
        rw [nI_0] at hX hY
        obtain ⟨R, ⟨c', r', q', a'⟩, mX, mY⟩ := ep_mix c r (q - v1) a f
        refine br_f h1 (br_t h2 (br_t h3 ⟨_, hX _ (nm_e (mX _ ?_))⟩))
        exact br_f h1 (br_t h2 (br_t h3 ⟨_, hY _ _ (mY _ ⟨rfl, rfl⟩)⟩))
      · exact br_f h1 (br_t h2 (br_f h3 (br_f h1 (br_t h2 (br_f h3 ⟨rfl, rfl⟩)))))
    · exact br_f h1 (br_f h2 (br_f h1 (br_f h2 ⟨rfl, rfl⟩)))
theorem i_vc_available {k : Nat} {u : SX} {v : SY} (I : i_Rel k u v) (hk : k + 2 ≤ 1024) : wpX_available (fun r => wpY_available (fun r' => r' = r ∧ i_Rel (k + 2) u v) v) u := by
  cases I
  exact ⟨rfl, rfl⟩
