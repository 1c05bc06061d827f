/-! THE CLAIM -/
theorem xmain : xMain := by
  intro L xs hL
  have hv : (xs 0 &&& 63).toUInt32.toNat ≤ 63 := i32_and_le (xs 0) 63 (by decide)
  have hc : L = 0 ∨ L = 1 ∨ L = 2 ∨ L = 3 ∨ L = 4 ∨ L = 5 ∨ L = 6 := by omega
  rcases hc with rfl | rfl | rfl | rfl | rfl | rfl | rfl
  · exact xmain_of hL sT_0 xs (Nat.zero_le _) hv
  · exact xmain_of hL sT_1 xs (Nat.zero_le _) hv
  · exact xmain_of hL sT_2 xs (Nat.zero_le _) hv
  · exact xmain_of hL sT_3 xs (Nat.zero_le _) hv
  · exact xmain_of hL sT_4 xs (Nat.zero_le _) hv
  · exact xmain_of hL sT_5 xs (Nat.zero_le _) hv
  · have h0 : 0 ≤ (xs 0 &&& 63).toUInt32.toNat := Nat.zero_le _
    rcases Nat.lt_or_ge 0 (xs 0 &&& 63).toUInt32.toNat with g0 | g0
    rotate_left
    · exact xmain_of hL sT_6_0 xs h0 g0
    rcases Nat.lt_or_ge 9 (xs 0 &&& 63).toUInt32.toNat with g1 | g1
    rotate_left
    · exact xmain_of hL sT_6_1 xs g0 g1
    rcases Nat.lt_or_ge 13 (xs 0 &&& 63).toUInt32.toNat with g10 | g10
    rotate_left
    · exact xmain_of hL sT_6_10 xs g1 g10
    rcases Nat.lt_or_ge 18 (xs 0 &&& 63).toUInt32.toNat with g14 | g14
    rotate_left
    · exact xmain_of hL sT_6_14 xs g10 g14
    rcases Nat.lt_or_ge 19 (xs 0 &&& 63).toUInt32.toNat with g19 | g19
    rotate_left
    · exact xmain_of hL sT_6_19 xs g14 g19
    rcases Nat.lt_or_ge 27 (xs 0 &&& 63).toUInt32.toNat with g20 | g20
    rotate_left
    · exact xmain_of hL sT_6_20 xs g19 g20
    rcases Nat.lt_or_ge 29 (xs 0 &&& 63).toUInt32.toNat with g28 | g28
    rotate_left
    · exact xmain_of hL sT_6_28 xs g20 g28
    rcases Nat.lt_or_ge 30 (xs 0 &&& 63).toUInt32.toNat with g30 | g30
    rotate_left
    · exact xmain_of hL sT_6_30 xs g28 g30
    rcases Nat.lt_or_ge 31 (xs 0 &&& 63).toUInt32.toNat with g31 | g31
    rotate_left
    · exact xmain_of hL sT_6_31 xs g30 g31
    rcases Nat.lt_or_ge 33 (xs 0 &&& 63).toUInt32.toNat with g32 | g32
    rotate_left
    · exact xmain_of hL sT_6_32 xs g31 g32
    rcases Nat.lt_or_ge 34 (xs 0 &&& 63).toUInt32.toNat with g34 | g34
    rotate_left
    · rcases Nat.lt_or_ge 2147483648 (bia (xs 1)) with k1 | k1
      · exact xmain_of1 hL sT_6_34b xs g32 g34 k1 (by have := bia_lt (xs 1); omega)
      · exact xmain_of1 hL sT_6_34a xs g32 g34 (Nat.zero_le _) k1
    rcases Nat.lt_or_ge 39 (xs 0 &&& 63).toUInt32.toNat with g35 | g35
    rotate_left
    · exact xmain_of hL sT_6_35 xs g34 g35
    rcases Nat.lt_or_ge 43 (xs 0 &&& 63).toUInt32.toNat with g40 | g40
    rotate_left
    · exact xmain_of hL sT_6_40 xs g35 g40
    rcases Nat.lt_or_ge 51 (xs 0 &&& 63).toUInt32.toNat with g44 | g44
    rotate_left
    · exact xmain_of hL sT_6_44 xs g40 g44
    rcases Nat.lt_or_ge 57 (xs 0 &&& 63).toUInt32.toNat with g52 | g52
    rotate_left
    · exact xmain_of hL sT_6_52 xs g44 g52
    rcases Nat.lt_or_ge 58 (xs 0 &&& 63).toUInt32.toNat with g58 | g58
    rotate_left
    · exact xmain_of hL sT_6_58 xs g52 g58
    rcases Nat.lt_or_ge 59 (xs 0 &&& 63).toUInt32.toNat with g59 | g59
    rotate_left
    · exact xmain_of hL sT_6_59 xs g58 g59
    exact xmain_of hL sT_6_60 xs g59 hv
theorem i_vc : Claimed_1_1 ∧ Claimed_1_2 := i_from xmain
