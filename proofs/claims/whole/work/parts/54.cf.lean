/-! calls: solid, image, on -/
def zs_pos (te : Bool) (s i : Nat) : Nat := if te then zs_TP.getD (4 * s + i) 0 else zs_CP.getD (6 * s + i) 0
theorem zs_pos_ok : ∀ te : Bool, ∀ s, s < zs_ns te → ∀ i, i < zs_sd te → zs_pos te s i < 6 ∧ zs_FA te s (zs_pos te s i) = i ∧ ∀ j, j < 6 → zs_FA te s j = i → j = zs_pos te s i := by
  intro te
  cases te
  · exact (by decide +kernel : ∀ s, s < 24 → ∀ i, i < 6 → zs_pos false s i < 6 ∧ zs_FA false s (zs_pos false s i) = i ∧ ∀ j, j < 6 → zs_FA false s j = i → j = zs_pos false s i)
  · exact (by decide +kernel : ∀ s, s < 8 → ∀ i, i < 4 → zs_pos true s i < 6 ∧ zs_FA true s (zs_pos true s i) = i ∧ ∀ j, j < 6 → zs_FA true s j = i → j = zs_pos true s i)
/-- the count of bits, as the JDK counts them -/
def zbc (v : Int64) : Int32 :=
  let x7 := v - ((v.toUInt64 >>> ((1 : Int32).toInt64.toUInt64 &&& Int64.toUInt64 63)).toInt64 &&& (6148914691236517205 : Int64))
  let x8 := (x7 &&& (3689348814741910323 : Int64)) + ((x7.toUInt64 >>> ((2 : Int32).toInt64.toUInt64 &&& Int64.toUInt64 63)).toInt64 &&& (3689348814741910323 : Int64))
  let x9 := (x8 + (x8.toUInt64 >>> ((4 : Int32).toInt64.toUInt64 &&& Int64.toUInt64 63)).toInt64) &&& (1085102592571150095 : Int64)
  let x10 := x9 + (x9.toUInt64 >>> ((8 : Int32).toInt64.toUInt64 &&& Int64.toUInt64 63)).toInt64
  let x11 := x10 + (x10.toUInt64 >>> ((16 : Int32).toInt64.toUInt64 &&& Int64.toUInt64 63)).toInt64
  let x12 := x11 + (x11.toUInt64 >>> ((32 : Int32).toInt64.toUInt64 &&& Int64.toUInt64 63)).toInt64
  x12.toInt32 &&& (127 : Int32)
theorem zbc_1 : ∀ p, p < 36 → zbc (lN (2 ^ p)) = 1 := by decide +kernel
theorem zbc_2 : ∀ p, p < 36 → ∀ d, d < 6 → zbc (lN (2 ^ p ||| 2 ^ (p + d + 1))) = 2 := by decide +kernel
theorem eJ_bitCount {v : Int64} {Q : Int32 → Prop} (h : Q (zbc v)) : zqJ13_bitCount_95d88 v Q := by
  unfold zqJ13_bitCount_95d88
  rintro x7 rfl x8 rfl x9 rfl x10 rfl x11 rfl x12 rfl
  exact h
theorem zs_um_cnt {r c k x : Nat} (hd : zs_dim r c k) (hV : zs_V r c k x) : zbc (lN (zs_um c k x)) = nI (if zs_lie k (x % 24) = 0 then 1 else 2) := by
  have hrc := zs_rc hd.2.1 hd.2.2.2.1
  have a := zs_t0_lt hd hV
  unfold zs_um
  by_cases h : zs_lie k (x % 24) = 0
  · rw [if_pos h, if_pos h]; exact zbc_1 _ (by omega)
  · rw [if_neg h, if_neg h]
    have hk : ¬ 4 ≤ k := fun q => h (zs_lie4 q)
    have e0 : zs_t0 k x = x / 24 := if_neg hk
    have hl3 := zs_lie_lt k (x % 24)
    have e1 : ∃ d, d < 6 ∧ zs_t1 c k x = x / 24 + d + 1 := by
      unfold zs_t1 zs_snd
      by_cases q : zs_lie k (x % 24) = 1
      · rw [if_pos q]; exact ⟨0, by decide, rfl⟩
      · rw [if_neg q, if_pos (by omega)]
        exact ⟨c - 1, by have := hd.2.2.2.1; omega, by have := hd.2.2.1; omega⟩
    obtain ⟨d, hd6, e1⟩ := e1
    rw [e0, e1]
    rw [e0] at a
    exact zbc_2 _ (by omega) d hd6
/-- what is told of the solid -/
def zs_sol (c k x n : Nat) : Nat := if n = 0 then k else if n = 1 then x / 24 else if n = 2 then zs_bel (zs_te k) (x % 24) else if n = 3 then (if zs_lie k (x % 24) = 0 then 1 else 2) else if n = 4 then (if (k = 2 ∨ k = 3) ∧ zs_lie k (x % 24) = 0 then 1 else 0) else (if 4 ≤ k ∧ (x / 24 / (2 * c) + x / 24 % (2 * c)) % 2 = 0 then 1 else 0)
section CF
variable {σ τ : zz_St} {r c k x : Nat} {tl pr : Nat → Int32}
theorem e6_pointsUp {Q : Int32 → Prop} {p : Nat} (hC : CD τ r c k) (hd : zs_dim r c k) (hp : p < 72) (h1 : (p / (2 * c) + p % (2 * c)) % 2 = 0 → Q 1) (h0 : ¬ (p / (2 * c) + p % (2 * c)) % 2 = 0 → Q 0) : zq6_pointsUp (nI p) τ Q := by
  unfold zq6_pointsUp
  rw [hC.2.1, show (2 : Int32) * nI c = nI (2 * c) from pk_mul 2 c]
  intro y ey
  subst ey
  refine e6_rowOf (by omega) (by have := hd.2.2.1; omega) (by have := hd.2.2.2.1; omega) (fun x7 e7 => ?_)
  have hda := zs_divadd p (2 * c)
  have e7' : x7 = nI (p % (2 * c)) := by
    rw [e7, pk_mul, pk_sub (by omega)]
    congr 1
    omega
  subst e7'
  have hle : p / (2 * c) ≤ p := Nat.div_le_self _ _
  have hlm : p % (2 * c) ≤ p := Nat.mod_le _ _
  rw [nI_add, zs_r2 (by omega)]
  have e0 : nI ((p / (2 * c) + p % (2 * c)) % 2) = 0 ↔ (p / (2 * c) + p % (2 * c)) % 2 = 0 := nI_eq (b := 0) (by omega) (by decide)
  rw [e0]
  exact ⟨h0, h1⟩
theorem e7_aboutSolid {Q : Int32 → Prop} {n : Nat} (hB : CB τ r c k tl pr) (hT : CT τ) (hd : zs_dim r c k) (hV : zs_V r c k x) (h8 : τ.1 8 = nI x) (hn : n < 6) (h : Q (nI (zs_sol c k x n))) : zq7_aboutSolid (nI n) τ Q := by
  have hx := zs_V_lt hd hV
  have hk6 := hd.2.2.2.2
  have e : ∀ m, m < 6 → (nI n = nI m ↔ n = m) := fun m hm => nI_eq (by omega) (by omega)
  have c0 : nI n = 0 ↔ n = 0 := e 0 (by decide)
  have c1 : nI n = 1 ↔ n = 1 := e 1 (by decide)
  have c2 : nI n = 2 ↔ n = 2 := e 2 (by decide)
  have c3 : nI n = 3 ↔ n = 3 := e 3 (by decide)
  have c4 : nI n = 4 ↔ n = 4 := e 4 (by decide)
  unfold zq7_aboutSolid zq6_placeNow
  rw [c0, c1, c2, c3, c4, h8, zs_div24 (by omega)]
  unfold zs_sol at h
  refine ⟨fun q => ?_, fun q0 => ⟨fun q => ?_, fun q1 => ⟨fun q => ?_, fun q2 => ⟨fun q => ?_, fun q3 => ⟨fun q => ?_, fun q4 => ?_⟩⟩⟩⟩⟩
  · rw [if_pos q] at h; rw [hB.2.2.1]; exact h
  · rw [if_neg q0, if_pos q] at h; exact h
  · rw [if_neg q0, if_neg q1, if_pos q] at h
    exact e6_faceBelow hB hT hk6 (by omega) h
  · rw [if_neg q0, if_neg q1, if_neg q2, if_pos q] at h
    refine e6_tilesUnder hB hT hd hV (eJ_bitCount ?_)
    rw [zs_um_cnt hd hV]
    exact h
  · rw [if_neg q0, if_neg q1, if_neg q2, if_neg q3, if_pos q] at h
    rw [hB.2.2.1]
    refine e7_isBlock hk6 (fun hb => zYf n10 (e6_stands hB hT hk6 (by omega) (fun z => zYf n10 ?_) (fun z => zYt n00 ?_))) (fun hb => zYt n00 ?_)
    · rw [if_pos ⟨hb, z⟩] at h; exact h
    · rw [if_neg (fun y => z y.2)] at h; exact h
    · rw [if_neg (fun y => hb y.1)] at h; exact h
  · rw [if_neg q0, if_neg q1, if_neg q2, if_neg q3, if_neg q4] at h
    rw [hB.2.2.1]
    refine e7_isTetra hk6 (fun hb => zYf n10 (e6_pointsUp ⟨hB.1, hB.2.1, hB.2.2.1⟩ hd hx.2 (fun z => zYf n10 ?_) (fun z => zYt n00 ?_))) (fun hb => zYt n00 ?_)
    · rw [if_pos ⟨hb, z⟩] at h; exact h
    · rw [if_neg (fun y => z y.2)] at h; exact h
    · rw [if_neg (fun y => hb y.1)] at h; exact h
theorem e5_positionOf1 {Q : Int32 → Prop} (hT : CT σ) {s i : Nat} (hs : s < 24) (hi : i < 4) (h : Q (nI (zs_TP.getD (4 * s + i) 0))) : zq5_positionOf (nI s) (nI i) 1 σ Q := by
  unfold zq5_positionOf
  have e6 : σ.1 (16 + 1) = 4 := hT.1.2.1
  have e : nI s * 4 + nI i = nI (4 * s + i) := by
    rw [show nI s * 4 = nI (s * 4) from pk_mul s 4, nI_add, Nat.mul_comm]
  rw [e6, e, show (nI (4 * s + i)).toNatClampNeg = 4 * s + i from nI_clamp (by omega)]
  refine ⟨vp_in_nI (by omega) (by decide), ?_⟩
  have h2 := hT.2.2.2.2.1 (4 * s + i) (by omega)
  show Q (σ.2.1 31 (4 * s + i))
  rw [h2]
  exact h
theorem e6_positionOf {Q : Int32 → Prop} {i : Nat} (hB : CB τ r c k tl pr) (hT : CT τ) (hd : zs_dim r c k) (hx : x < 2 ^ 31) (h8 : τ.1 8 = nI x) (hi : i < zs_sd (zs_te k)) (h : Q (nI (zs_pos (zs_te k) (x % 24) i))) : zq6_positionOf (nI i) τ Q := by
  unfold zq6_positionOf
  rw [h8, zs_rem24 hx]
  have hs : x % 24 < 24 := Nat.mod_lt _ (by decide)
  refine e6_stances ⟨hB.1, hB.2.1, hB.2.2.1⟩ hd ⟨by cases zs_te k <;> decide, ?_⟩
  cases hte : zs_te k
  · rw [hte] at h hi
    exact e5_positionOf0 hT hs hi h
  · rw [hte] at h hi
    exact e5_positionOf1 hT hs hi h
theorem e8_whereFace {Q : Int32 → Prop} {te : Bool} {pl s i : Nat} (hF : MF σ te pl s) (hs : s < zs_ns te) (hi : i < zs_sd te) (h : Q (nI (zs_pos te s i))) : zq8_whereFace (nI i) σ Q := by
  obtain ⟨p1, p2, p3⟩ := zs_pos_ok te s hs i hi
  have hi6 : i < 6 := Nat.lt_of_lt_of_le hi (by cases te <;> decide)
  unfold zq8_whereFace zq8_whereFace_2
  refine ⟨fun v => ∃ j, j ≤ zs_pos te s i ∧ v = nI j, fun v => 6 - v.toNatClampNeg, ⟨0, Nat.zero_le _, rfl⟩, ?_⟩
  rintro v ⟨j, hj, rfl⟩
  have cj : (nI j).toNatClampNeg = j := nI_clamp (by omega)
  have hfl := zs_FA_lt te s hs j (by omega)
  rw [cj, hF.2 j (by omega)]
  have e : nI (zs_FA te s j) = nI i ↔ zs_FA te s j = i := nI_eq (by omega) (by omega)
  rw [e]
  refine ⟨vp_in_nI (by omega) (by decide), fun q => ?_, fun q => ?_⟩
  · rw [p3 j (by omega) q]; exact h
  · have hlt : j < zs_pos te s i := by
      rcases Nat.lt_or_ge j (zs_pos te s i) with z | z
      · exact z
      · rw [show j = zs_pos te s i from by omega] at q
        exact absurd p2 q
    have c1 : (nI (j + 1)).toNatClampNeg = j + 1 := nI_clamp (by omega)
    refine ⟨⟨j + 1, hlt, nI_1 j⟩, ?_⟩
    show 6 - (nI j + 1).toNatClampNeg < 6 - (nI j).toNatClampNeg
    rw [nI_1, c1, cj]
    omega
theorem e7_solid {Q : Int32 → zz_St → Prop} {v : Int32} (hC : CD τ r c k) (hT : CT τ) (hd : zs_dim r c k) (hA : ∀ n, n < 6 → v = nI n → zq7_solid_59 v 0 τ Q) (hB : ∀ i, i < zs_sd (zs_te k) → v = nI (10 + i) → zq7_solid_59 v 1 τ Q) (hN : (¬ ∃ n, n < 6 ∧ v = nI n) → (¬ ∃ i, i < zs_sd (zs_te k) ∧ v = nI (10 + i)) → zq7_refuse (-2) τ Q) : zq7_solid v τ Q := by
  have sd6 : zs_sd (zs_te k) ≤ 6 := by cases zs_te k <;> decide
  have no : (¬ ∃ n, n < 6 ∧ v = nI n) → (¬ ∃ i, i < zs_sd (zs_te k) ∧ v = nI (10 + i)) → zq7_solid_43 v 0 0 τ Q := fun a b => by
    unfold zq7_solid_43
    exact zNt n00 (zNt n00 (hN a b))
  unfold zq7_solid zq7_solid_13 zq7_solid_14 zq7_solid_42
  by_cases v0 : v < 0
  · refine zYt v0 (zYt (Int32.lt_of_lt_of_le v0 (by decide : (0 : Int32) ≤ 10)) (no ?_ ?_))
    · rintro ⟨n, hn, rfl⟩; exact absurd v0 (nI_pos (by omega))
    · rintro ⟨n, hn, rfl⟩; exact absurd v0 (nI_pos (by omega))
  · obtain ⟨n, hn, rfl⟩ := nI_of v0
    refine zYf v0 ?_
    have inj : ∀ m, m < 2 ^ 31 → (nI n = nI m → n = m) := fun m hm => (nI_eq hn hm).mp
    have l10 : nI n < 10 ↔ n < 10 := nI_ltI (b := 10) hn (by decide)
    have l5 : (5 : Int32) < nI n ↔ 5 < n := nI_ltI (a := 5) (by decide) hn
    have sdn : ∀ te : Bool, (10 : Int32) + nI (zs_sd te) = nI (10 + zs_sd te) := fun te => nI_add 10 _
    have two : ∀ s0 : Int32, (10 ≤ n → n < 10 + zs_sd (zs_te k) → zq7_solid_43 (nI n) s0 1 τ Q) → ((n < 10 ∨ 10 + zs_sd (zs_te k) ≤ n) → zq7_solid_43 (nI n) s0 0 τ Q) → ((nI n < 10) → zq7_solid_43 (nI n) s0 0 τ Q) ∧ (¬ (nI n < 10) → zq6_stances τ (fun r29 => (r29 < 2) ∧ ((((10 : Int32) + ((τ).1 (16 + r29))) ≤ nI n) → zq7_solid_43 (nI n) s0 0 τ Q) ∧ (¬ (((10 : Int32) + ((τ).1 (16 + r29))) ≤ nI n) → zq7_solid_43 (nI n) s0 1 τ Q))) := by
      intro s0 a b
      rw [l10]
      refine ⟨fun q => b (Or.inl q), fun q => e6_stances hC hd ⟨by cases zs_te k <;> decide, ?_⟩⟩
      rw [hT.sd, sdn]
      exact pk_le _ _ (fun z => b (Or.inr z)) (fun z => a (by omega) z)
    rw [l5]
    refine ⟨fun q => two 0 (fun a b => ?_) (fun a => no ?_ ?_), fun q => two 1 (fun a b => by omega) (fun a => ?_)⟩
    · unfold zq7_solid_43
      exact zNt n00 (zNf n10 (hB (n - 10) (by omega) (by rw [show 10 + (n - 10) = n from by omega])))
    · rintro ⟨m, hm, e⟩; have := inj m (by omega) e; omega
    · rintro ⟨i, hi, e⟩; have := inj (10 + i) (by omega) e; omega
    · unfold zq7_solid_43
      exact zNf n10 (hA n (by omega) rfl)
theorem e8_solid {Q : Int32 → zz_St → Prop} {v : Int32} (hB0 : MB σ r c k tl pr) (hd : zs_dim r c k) (hA : ∀ n, n < 6 → v = nI n → zq8_solid_46 v σ Q) (hB : ∀ i, i < zs_sd (zs_te k) → v = nI (10 + i) → zq8_solid_46 v σ Q) (hN : (¬ ∃ n, n < 6 ∧ v = nI n) → (¬ ∃ i, i < zs_sd (zs_te k) ∧ v = nI (10 + i)) → zq8_no (-2) σ Q) : zq8_solid v σ Q := by
  unfold zq8_solid zq8_solid_33
  have no : ¬ vp_in v 6 → ¬ ∃ n, n < 6 ∧ v = nI n := fun q ⟨n, hn, e⟩ => q (by rw [e]; exact vp_in_nI hn (by decide))
  refine e8_in6 (fun q => zNf n10 ?_) (fun q => zNt n00 (e8_isTetra hB0 hd (fun h4 => zYf n10 ?_) (fun h4 => zYt n00 ?_)))
  · obtain ⟨n, hn, e⟩ := vp_in_of q (by decide)
    exact hA n hn e
  · rw [show zs_te k = true from decide_eq_true h4] at hB hN
    refine e8_inx (lo := 10) (hi := 13) (by decide) (by decide) (fun n a b e => zNf n10 (hB (n - 10) (show n - 10 < 4 by omega) (by rw [show 10 + (n - 10) = n from by omega]; exact e))) (fun z => zNt n00 (hN (no q) ?_))
    rintro ⟨i, hi, e⟩
    have hi : i < 4 := hi
    exact z ⟨10 + i, by omega, by omega, e⟩
  · rw [show zs_te k = false from decide_eq_false h4] at hB hN
    refine e8_inx (lo := 10) (hi := 15) (by decide) (by decide) (fun n a b e => zNf n10 (hB (n - 10) (show n - 10 < 6 by omega) (by rw [show 10 + (n - 10) = n from by omega]; exact e))) (fun z => zNt n00 (hN (no q) ?_))
    rintro ⟨i, hi, e⟩
    have hi : i < 6 := hi
    exact z ⟨10 + i, by omega, by omega, e⟩
theorem e8_solid_46 {Q : Int32 → zz_St → Prop} {v : Int32} {res : Nat} (hB : MB σ r c k tl pr) (hd : zs_dim r c k) (hth : σ.1 9 = 1) (hV : zs_V r c k x) (hF : MF σ (zs_te k) (x / 24) (x % 24))
    (hv : (∃ n, n < 6 ∧ v = nI n ∧ res = zs_sol c k x n) ∨ ∃ i, i < zs_sd (zs_te k) ∧ v = nI (10 + i) ∧ res = zs_pos (zs_te k) (x % 24) i) (h : ∀ σ2, zx σ σ2 [12] [11] → Q (nI res) σ2) : zq8_solid_46 v σ Q := by
  have hx := zs_V_lt hd hV
  have hk6 := hd.2.2.2.2
  have sd6 : zs_sd (zs_te k) ≤ 6 := by cases zs_te k <;> decide
  obtain ⟨N, hN, rfl⟩ : ∃ N, N < 16 ∧ v = nI N := by
    rcases hv with ⟨n, a, b, _⟩ | ⟨i, a, b, _⟩
    · exact ⟨n, by omega, b⟩
    · exact ⟨10 + i, by omega, b⟩
  have hv2 : (N < 6 ∧ res = zs_sol c k x N) ∨ (10 ≤ N ∧ N - 10 < zs_sd (zs_te k) ∧ res = zs_pos (zs_te k) (x % 24) (N - 10)) := by
    rcases hv with ⟨n, a, b, e⟩ | ⟨i, a, b, e⟩
    · have := (nI_eq (by omega) (by omega)).mp b
      subst this
      exact Or.inl ⟨a, e⟩
    · have := (nI_eq (by omega) (by omega)).mp b
      subst this
      exact Or.inr ⟨by omega, by omega, by rw [Nat.add_sub_cancel_left]; exact e⟩
  have e : ∀ m, m < 6 → (nI N = nI m ↔ N = m) := fun m hm => nI_eq (by omega) (by omega)
  have c0 : nI N = 0 ↔ N = 0 := e 0 (by decide)
  have c1 : nI N = 1 ↔ N = 1 := e 1 (by decide)
  have c2 : nI N = 2 ↔ N = 2 := e 2 (by decide)
  have c3 : nI N = 3 ↔ N = 3 := e 3 (by decide)
  have c4 : nI N = 4 ↔ N = 4 := e 4 (by decide)
  have c5 : nI N = 5 ↔ N = 5 := e 5 (by decide)
  unfold zq8_solid_46
  refine zNf (by rw [hth]; decide) (e8_under hB hd hV hF (fun σ2 x2 hu => ?_))
  have h2 := h σ2 x2
  have hB2 := hB.x x2 (by decide)
  have hF2 := hF.x x2 (by decide)
  rw [c0, c1, c2, c3, c4, c5]
  have sol : N < 6 → res = zs_sol c k x N := fun z => by
    rcases hv2 with y | y
    · exact y.2
    · omega
  unfold zs_sol at sol
  refine ⟨fun q => ?_, fun q0 => ⟨fun q => ?_, fun q1 => ⟨fun q => ?_, fun q2 => ⟨fun q => ?_, fun q3 => ⟨fun q => ?_, fun q4 => ⟨fun q => ?_, fun q5 => ?_⟩⟩⟩⟩⟩⟩
  · rw [sol (by omega), if_pos q] at h2; rw [hB2.2.2.1]; exact h2
  · rw [sol (by omega), if_neg q0, if_pos q] at h2; rw [hF2.1]; exact h2
  · rw [sol (by omega), if_neg q0, if_neg q1, if_pos q] at h2
    exact e8_below hB2 hd hF2 h2
  · rw [sol (by omega), if_neg q0, if_neg q1, if_neg q2, if_pos q] at h2
    by_cases z : zs_lie k (x % 24) = 0
    · rw [if_pos z] at h2; rw [hu.2.1 z]; exact h2
    · rw [if_neg z] at h2; rw [(hu.2.2 z).1]; exact h2
  · rw [sol (by omega), if_neg q0, if_neg q1, if_neg q2, if_neg q3, if_pos q] at h2
    refine e8_isBlock hB2 hd (fun hb => zYf n10 ?_) (fun hb => zYt n00 ?_)
    · have hte : zs_te k = false := decide_eq_false (by omega)
      have hlk : zs_lie k (x % 24) = zs_LC (x % 24) := if_pos hb
      rw [hte] at hF2
      refine e8_lying hF2 (Nat.mod_lt _ (by decide)) ?_
      have hL := zs_LC_lt (x % 24)
      have e0 : nI (zs_LC (x % 24)) = 0 ↔ zs_LC (x % 24) = 0 := nI_eq (b := 0) (by omega) (by decide)
      rw [e0, ← hlk]
      refine ⟨fun z => ?_, fun z => ?_⟩
      · rw [if_neg (fun y => z y.2)] at h2; exact h2
      · rw [if_pos ⟨hb, z⟩] at h2; exact h2
    · rw [if_neg (fun y => hb y.1)] at h2; exact h2
  · rw [sol (by omega), if_neg q0, if_neg q1, if_neg q2, if_neg q3, if_neg q4] at h2
    refine e8_isTetra hB2 hd (fun hb => zYf n10 ?_) (fun hb => zYt n00 ?_)
    · have hc := hd.2.2.1
      have hc6 := hd.2.2.2.1
      rw [hB2.2.1, hF2.1, show (2 : Int32) * nI c = nI (2 * c) from pk_mul 2 c]
      have hcne : ¬ nI (2 * c) = 0 := nI_ne0 (by omega) (by omega)
      have hdiv : nI (x / 24) / nI (2 * c) = nI (x / 24 / (2 * c)) := pk_div (by omega) (by omega) (by omega)
      have hrem : nI (x / 24) - nI (x / 24) / nI (2 * c) * nI (2 * c) = nI (x / 24 % (2 * c)) := pk_rem (by omega) (by omega) (by omega)
      have hle : x / 24 / (2 * c) ≤ x / 24 := Nat.div_le_self _ _
      have hlm : x / 24 % (2 * c) ≤ x / 24 := Nat.mod_le _ _
      rw [hrem, hdiv, nI_add, zs_r2 (by omega)]
      have e0 : nI ((x / 24 / (2 * c) + x / 24 % (2 * c)) % 2) = 0 ↔ (x / 24 / (2 * c) + x / 24 % (2 * c)) % 2 = 0 := nI_eq (b := 0) (by omega) (by decide)
      rw [e0]
      refine ⟨hcne, hcne, fun z => ?_, fun z => ?_⟩
      · rw [if_neg (fun y => z y.2)] at h2; exact h2
      · rw [if_pos ⟨hb, z⟩] at h2; exact h2
    · rw [if_neg (fun y => hb y.1)] at h2; exact h2
  · rcases hv2 with y | ⟨y1, y2, y3⟩
    · omega
    · rw [y3] at h2
      rw [show nI N - 10 = nI (N - 10) from pk_sub (b := 10) y1]
      exact e8_whereFace hF2 hV.2.1 y2 h2
theorem R_solid (h : Rel σ τ) (v : Int32) : zq7_solid v τ (fun a τ' => zq8_solid v σ (fun b σ' => RQ τ' a b σ')) := by
  obtain ⟨⟨r, c, k, h0⟩, hE⟩ := id h
  have hT := h.ct
  have hd := h0.dim
  have sd6 : zs_sd (zs_te k) ≤ 6 := by cases zs_te k <;> decide
  -- the reference's second half, refused or not
  have M0 : σ.1 9 = 0 → ((∃ n, n < 6 ∧ v = nI n) ∨ ∃ i, i < zs_sd (zs_te k) ∧ v = nI (10 + i)) → zq8_solid v σ (fun b σ' => RQ (zno τ 45 3) (-3) b σ') := by
    intro z w
    have m : zq8_solid_46 v σ (fun b σ' => RQ (zno τ 45 3) (-3) b σ') := by
      unfold zq8_solid_46
      exact zNt z (RQ.no8 h 3 (by decide) (by decide) (by decide))
    exact e8_solid h0.mb hd (fun _ _ _ => m) (fun _ _ _ => m) (fun a b => absurd w (fun y => y.elim a b))
  have two : ∀ {res : Nat} {s0 : Int32}, ((∃ n, n < 6 ∧ v = nI n) ∨ ∃ i, i < zs_sd (zs_te k) ∧ v = nI (10 + i)) → (∀ x, zs_V r c k x → MF σ (zs_te k) (x / 24) (x % 24) → τ.1 8 = nI x → σ.1 9 = 1 → ∀ {Q : Int32 → zz_St → Prop}, (∀ res, ((∃ n, n < 6 ∧ v = nI n ∧ res = zs_sol c k x n) ∨ ∃ i, i < zs_sd (zs_te k) ∧ v = nI (10 + i) ∧ res = zs_pos (zs_te k) (x % 24) i) → Q (nI res) τ) → ((s0 = 0 → zq7_aboutSolid v τ (fun r20 => Q r20 τ)) ∧ (¬ s0 = 0 → zq6_positionOf (v - 10) τ (fun r21 => Q r21 τ)))) → zq7_solid_59 v s0 τ (fun a τ' => zq8_solid v σ (fun b σ' => RQ τ' a b σ')) := by
    intro res s0 w f
    unfold zq7_solid_59
    rcases h0.there with ⟨z1, z2⟩ | ⟨z1, x, hV, hF, z2⟩
    · exact e6_none0 z2 (zYf n10 (e7_refuse 3 (by decide) (by decide) (M0 z1 w)))
    · have hx := zs_V_lt hd hV
      refine e6_none1 (by omega) z2 (zYt n00 (f x hV hF z2 z1 (Q := fun a τ' => zq8_solid v σ (fun b σ' => RQ τ' a b σ')) (fun res hres => ?_)))
      have m : zq8_solid_46 v σ (fun b σ' => RQ τ (nI res) b σ') := e8_solid_46 h0.mb hd z1 hV hF hres (fun σ2 x2 => ⟨rfl, h.sc x2.y zy.rf (ks' := []) (js' := []) (by decide) (by decide) (by decide)⟩)
      exact e8_solid h0.mb hd (fun _ _ _ => m) (fun _ _ _ => m) (fun a b => absurd w (fun y => y.elim a b))
  refine e7_solid h0.2.1 hT hd (fun n hn e => two (res := 0) (Or.inl ⟨n, hn, e⟩) (fun x hV hF h8 _ Q hq => zYt n00 ?_)) (fun i hi e => two (res := 0) (Or.inr ⟨i, hi, e⟩) (fun x hV hF h8 _ Q hq => zYf n10 ?_)) (fun a b => e7_refuse 2 (by decide) (by decide) (e8_solid h0.mb hd (fun n hn e => absurd ⟨n, hn, e⟩ a) (fun i hi e => absurd ⟨i, hi, e⟩ b) (fun _ _ => RQ.no8 h 2 (by decide) (by decide) (by decide))))
  · rw [e]
    exact e7_aboutSolid h0.cb hT hd hV h8 hn (hq _ (Or.inl ⟨n, hn, e, rfl⟩))
  · have hx := zs_V_lt hd hV
    rw [e, show nI (10 + i) - 10 = nI i from by rw [show nI (10 + i) - 10 = nI (10 + i - 10) from pk_sub (b := 10) (by omega), Nat.add_sub_cancel_left]]
    exact e6_positionOf h0.cb hT hd (by omega) h8 hi (hq _ (Or.inr ⟨i, hi, e, rfl⟩))
theorem WR.congr {th p ink st ink' : Int32} {fa fa2 t1 t2 p1 p2 t1' t2' p1' p2' : Nat → Int32} (h : WR r c k th p ink st ink' fa t1 p1 t1' p1') (hf : ∀ i, i < 6 → fa2 i = fa i) (h1 : ∀ i, i < 36 → t2 i = t1 i) (h2 : ∀ i, i < 36 → p2 i = p1 i) (h3 : ∀ i, i < 36 → t2' i = t1' i) (h4 : ∀ i, i < 36 → p2' i = p1' i) : WR r c k th p ink st ink' fa2 t2 p2 t2' p2' := by
  obtain ⟨a1, a2, a3, a4, a5⟩ := h
  refine ⟨a1, fun i hi => by rw [h1 i hi, h3 i hi]; exact a2 i hi, fun i hi => by rw [h2 i hi, h4 i hi]; exact a3 i hi, a4, ?_⟩
  rcases a5 with z | ⟨z1, x, z2, z3, z4, z5⟩
  · exact Or.inl z
  · exact Or.inr ⟨z1, x, z2, z3, fun i hi => by rw [hf i hi]; exact z4 i hi, z5⟩
/-- two rows are laid into two others -/
theorem zl_copy2 {s1 d1 s2 d2 N : Nat} (hne : ¬ s1 = d1 ∧ ¬ s1 = d2 ∧ ¬ s2 = d1 ∧ ¬ s2 = d2 ∧ ¬ d1 = d2) (hN : N < 2 ^ 31) {E : zz_St → Prop} {σ : zz_St}
    (hE : ∀ σ2, zx σ σ2 [] [d1, d2] → (∀ i, i < N → σ2.2.1 d1 i = σ.2.1 s1 i) → (∀ i, i < N → σ2.2.1 d2 i = σ.2.1 s2 i) → E σ2) :
    ∃ (I : Int32 → zz_St → Prop) (M : Int32 → zz_St → Nat), I 0 σ ∧ ∀ (v : Int32) (σ : zz_St), I v σ → ((nI N ≤ v) → E σ) ∧ (¬ (nI N ≤ v) → vp_in v N ∧ vp_in v N ∧ ∀ g : zz_St, g = zz_A σ d1 (upd (σ.2.1 d1) v.toNatClampNeg (σ.2.1 s1 v.toNatClampNeg)) → vp_in v N ∧ vp_in v N ∧ ∀ g' : zz_St, g' = zz_A g d2 (upd (g.2.1 d2) v.toNatClampNeg (g.2.1 s2 v.toNatClampNeg)) → I (v + 1) g' ∧ M (v + 1) g' < M v σ) := by
  obtain ⟨n1, n2, n3, n4, n5⟩ := hne
  refine ⟨fun v σ2 => ∃ i, i ≤ N ∧ v = nI i ∧ (zx σ σ2 [] [d1, d2] ∧ (∀ j, j < i → σ2.2.1 d1 j = σ.2.1 s1 j) ∧ ∀ j, j < i → σ2.2.1 d2 j = σ.2.1 s2 j), fun v _ => N - v.toNatClampNeg, ⟨0, Nat.zero_le _, rfl, zx.rf, fun j h => absurd h (Nat.not_lt_zero j), fun j h => absurd h (Nat.not_lt_zero j)⟩, ?_⟩
  rintro v σ2 ⟨i, hi, rfl, hx, h1, h2⟩
  refine ⟨fun q => ?_, fun q => ?_⟩
  · have := zl_end hi hN q
    subst this
    exact hE σ2 hx h1 h2
  · have hlt := zl_go hi hN q
    have c0 : (nI i).toNatClampNeg = i := nI_clamp (by omega)
    rw [c0]
    refine ⟨vp_in_nI hlt hN, vp_in_nI hlt hN, fun g hg => ⟨vp_in_nI hlt hN, vp_in_nI hlt hN, fun g' hg' => zl_leaf (J := fun i g => zx σ g [] [d1, d2] ∧ (∀ j, j < i → g.2.1 d1 j = σ.2.1 s1 j) ∧ ∀ j, j < i → g.2.1 d2 j = σ.2.1 s2 j) hlt hN ⟨?_, fun j hj => ?_, fun j hj => ?_⟩⟩⟩
    · rw [hg', hg]; exact hx.tr ((zx.A d1 _ List.mem_cons_self).tr (zx.A d2 _ (List.mem_cons_of_mem _ List.mem_cons_self)))
    · rw [hg', zz_A2, if_neg n5, hg, zz_A2, if_pos rfl]
      rcases Nat.lt_succ_iff_lt_or_eq.mp hj with z | z
      · rw [pk_un (by omega)]; exact h1 j z
      · rw [z, pk_us, hx.2.1 s1 (by simp only [List.mem_cons, List.not_mem_nil, or_false]; omega)]
    · rw [hg', zz_A2, if_pos rfl]
      rcases Nat.lt_succ_iff_lt_or_eq.mp hj with z | z
      · rw [pk_un (by omega), hg, zz_A2, if_neg (fun y => n5 y.symm)]; exact h2 j z
      · rw [z, pk_us, hg, zz_A2, if_neg n3, hx.2.1 s2 (by simp only [List.mem_cons, List.not_mem_nil, or_false]; omega)]
end CF
