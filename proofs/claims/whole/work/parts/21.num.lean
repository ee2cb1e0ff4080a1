/-! numbers: Int32 as nI of a natural number -/
abbrev zn_m1 : Int32 := -1
theorem zn_nm1 {n : Nat} (h : n < 2 ^ 31) : ¬ nI n = -1 := fun q => nI_pos h (by rw [q]; decide)
theorem zn_inN (x : Int32) {N : Nat} (hN : N < 2 ^ 30) : ((0 : Int64) ≤ x.toInt64 ∧ x.toInt64 ≤ (nI N - 1).toInt64) ↔ vp_in x N := by
  have h1 : (nI N - 1).toInt = (N : Int) - 1 := by
    have := pk_sub_toInt (a := N) (b := 1) hN (by decide)
    exact this
  rw [vp_in_iff, Int64.le_iff_toInt_le, Int64.le_iff_toInt_le, Int32.toInt_toInt64, Int32.toInt_toInt64, h1]
  have h0 : (0 : Int64).toInt = 0 := by decide
  rw [h0]
  omega
theorem e8_in {a b c : Int64} {Q : Int32 → Prop} (h1 : b ≤ a ∧ a ≤ c → Q 1) (h0 : ¬ (b ≤ a ∧ a ≤ c) → Q 0) : zq8_in a b c Q := by
  unfold zq8_in
  rw [lg_cmp_lt, lg_cmp_gt]
  refine ⟨fun c1 => h0 (fun q => Int64.not_le.mpr c1 q.1), fun c1 => ⟨fun c2 => h0 (fun q => Int64.not_le.mpr c2 q.2), fun c2 => h1 ⟨Int64.not_lt.mp c1, Int64.not_lt.mp c2⟩⟩⟩
theorem e8_inN {x : Int32} {N : Nat} (hN : N < 2 ^ 30) {Q : Int32 → Prop} (h1 : vp_in x N → Q 1) (h0 : ¬ vp_in x N → Q 0) : zq8_in x.toInt64 0 (nI N - 1).toInt64 Q :=
  e8_in (fun h => h1 ((zn_inN x hN).mp h)) (fun h => h0 (fun q => h ((zn_inN x hN).mpr q)))
theorem zn_in_nI {a n : Nat} (ha : a < 2 ^ 31) (hn : n < 2 ^ 31) : vp_in (nI a) n ↔ a < n := by
  rw [vp_in_iff, nI_toInt ha]
  omega
