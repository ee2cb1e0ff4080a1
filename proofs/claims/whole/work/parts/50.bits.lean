/-! bits of longs (the wb_ family and pf_shr of kit/laws/BITS.to-paste, pasted) -/
theorem wb_tb (n : Nat) : (lN n).toBitVec = BitVec.ofNat 64 n := rfl
theorem wb_inj {a b : Int64} (h : a.toBitVec = b.toBitVec) : a = b := Int64.toBitVec_inj.mp h
theorem wb_tn {n : Nat} (h : n < 2 ^ 64) : (lN n).toBitVec.toNat = n := by rw [wb_tb, BitVec.toNat_ofNat, Nat.mod_eq_of_lt h]
theorem wb_of (x : Int64) : ∃ n, n < 2 ^ 64 ∧ x = lN n := ⟨x.toBitVec.toNat, x.toBitVec.isLt, wb_inj (by rw [wb_tb]; simp)⟩
theorem wb_of32 (x : Int32) : ∃ n, n < 2 ^ 32 ∧ x = nI n := ⟨x.toBitVec.toNat, x.toBitVec.isLt, Int32.toBitVec_inj.mp (by show _ = BitVec.ofNat 32 _; simp)⟩
theorem wb_c : ∀ k, k < 64 → ((nI k).toInt64 &&& 63) = lN k := by decide +kernel
theorem wb_cu : ∀ k, k < 64 → ((nI k).toInt64.toUInt64 &&& Int64.toUInt64 63) = UInt64.ofNat k := by decide +kernel
theorem wb_sm : ∀ k, k < 64 → (BitVec.ofNat 64 k).smod 64 = BitVec.ofNat 64 k := by decide +kernel
theorem wb_pw {a b : Nat} (h : a ≤ b) : 2 ^ b = 2 ^ a * 2 ^ (b - a) := by rw [← Nat.pow_add]; congr 1; omega
theorem wb_lt2 {a b : Nat} (h : a < b) : 2 ^ a < 2 ^ b := Nat.pow_lt_pow_right (by decide) h
theorem wb_mod (n : Nat) : lN n = lN (n % 2 ^ 64) := wb_inj (by rw [wb_tb, wb_tb]; apply BitVec.eq_of_toNat_eq; rw [BitVec.toNat_ofNat, BitVec.toNat_ofNat, Nat.mod_mod])
theorem wb_shr {n k : Nat} (hn : n < 2 ^ 64) (hk : k < 64) : ((lN n).toUInt64 >>> ((nI k).toInt64.toUInt64 &&& Int64.toUInt64 63)).toInt64 = lN (n / 2 ^ k) := by
  rw [wb_cu k hk]
  apply wb_inj
  apply BitVec.eq_of_toNat_eq
  show ((lN n).toUInt64 >>> UInt64.ofNat k).toNat = (BitVec.ofNat 64 _).toNat
  have h1 : (UInt64.ofNat k).toNat = k := by
    show (BitVec.ofNat 64 k).toNat = k
    rw [BitVec.toNat_ofNat, Nat.mod_eq_of_lt (by omega)]
  have h2 : (lN n).toUInt64.toNat = n := wb_tn hn
  rw [UInt64.toNat_shiftRight, h1, h2, Nat.mod_eq_of_lt hk, Nat.shiftRight_eq_div_pow, BitVec.toNat_ofNat, Nat.mod_eq_of_lt (Nat.lt_of_le_of_lt (Nat.div_le_self _ _) hn)]
theorem wb_shl (n : Nat) {k : Nat} (hk : k < 64) : lN n <<< ((nI k).toInt64 &&& 63) = lN (n * 2 ^ k) := by
  rw [wb_c k hk]
  apply wb_inj
  rw [Int64.toBitVec_shiftLeft, wb_tb, wb_tb, wb_tb, wb_sm k hk]
  apply BitVec.eq_of_toNat_eq
  rw [BitVec.shiftLeft_eq', BitVec.toNat_shiftLeft, BitVec.toNat_ofNat, BitVec.toNat_ofNat, BitVec.toNat_ofNat, Nat.mod_eq_of_lt (show k < 2 ^ 64 by omega), Nat.shiftLeft_eq, Nat.mul_mod, Nat.mod_mod, ← Nat.mul_mod]
theorem wb_and {a b : Nat} (ha : a < 2 ^ 64) (hb : b < 2 ^ 64) : lN a &&& lN b = lN (a &&& b) := by
  apply wb_inj
  rw [Int64.toBitVec_and, wb_tb, wb_tb, wb_tb]
  apply BitVec.eq_of_toNat_eq
  rw [BitVec.toNat_and, BitVec.toNat_ofNat, BitVec.toNat_ofNat, BitVec.toNat_ofNat, Nat.mod_eq_of_lt ha, Nat.mod_eq_of_lt hb, Nat.mod_eq_of_lt (Nat.and_lt_two_pow _ hb)]
theorem wb_or {a b : Nat} (ha : a < 2 ^ 64) (hb : b < 2 ^ 64) : lN a ||| lN b = lN (a ||| b) := by
  apply wb_inj
  rw [Int64.toBitVec_or, wb_tb, wb_tb, wb_tb]
  apply BitVec.eq_of_toNat_eq
  rw [BitVec.toNat_or, BitVec.toNat_ofNat, BitVec.toNat_ofNat, BitVec.toNat_ofNat, Nat.mod_eq_of_lt ha, Nat.mod_eq_of_lt hb, Nat.mod_eq_of_lt (Nat.or_lt_two_pow ha hb)]
theorem wb_mask {n k : Nat} (hn : n < 2 ^ 64) (hk : k < 64) : lN n &&& lN (2 ^ k - 1) = lN (n % 2 ^ k) := by
  rw [wb_and hn (by have := wb_lt2 hk; omega), Nat.and_two_pow_sub_one_eq_mod]
theorem wb_a1 {n : Nat} (hn : n < 2 ^ 64) : lN n &&& 1 = lN (n % 2) := wb_mask (k := 1) hn (by decide)
theorem wb_bit {n k : Nat} (hn : n < 2 ^ 64) (hk : k < 64) : ((lN n).toUInt64 >>> ((nI k).toInt64.toUInt64 &&& Int64.toUInt64 63)).toInt64 &&& 1 = lN (n / 2 ^ k % 2) := by
  rw [wb_shr hn hk, wb_a1 (Nat.lt_of_le_of_lt (Nat.div_le_self _ _) hn)]
theorem pf_lI {a : Nat} (h : a < 2 ^ 63) : (lN a).toInt = (a : Int) := lg_ofNat_toInt h
theorem pf_shr {a d : Nat} {D : Int64} (hD : (D.toBitVec.smod 64).toNat = d) (h : a < 2 ^ 62) : lN a >>> D = lN (a / 2 ^ d) := by
  have hd : a / 2 ^ d ≤ a := Nat.div_le_self _ _
  apply Int64.toInt_inj.mp
  have e : (lN a >>> D).toInt = (lN a).toInt >>> d := by
    rw [← hD]
    exact BitVec.toInt_sshiftRight ..
  rw [e, Int.shiftRight_eq_div_pow, pf_lI (by omega), pf_lI (by omega)]
  rfl
theorem zb_shl1 {a : Nat} (ha : a < 64) : (1 : Int64) <<< ((nI a).toInt64 &&& 63) = lN (2 ^ a) := by
  have := wb_shl 1 ha
  rw [Nat.one_mul] at this
  exact this
theorem zb_shl3 {a : Nat} (ha : a < 64) : (3 : Int64) <<< ((nI a).toInt64 &&& 63) = lN (3 * 2 ^ a) := wb_shl 3 ha
theorem zb_smn : ∀ k, k < 64 → ((lN k).toBitVec.smod 64).toNat = k := by decide +kernel
theorem zb_test {m t : Nat} (hm : m < 2 ^ 62) (ht : t < 64) : lg_cmp ((lN m >>> ((nI t).toInt64 &&& 63)) &&& (1 : Int64)) (1 : Int64) = 0 ↔ m.testBit t = true := by
  have h2 : m / 2 ^ t ≤ m := Nat.div_le_self _ _
  rw [lg_cmp_eq, wb_c t ht, pf_shr (d := t) (zb_smn t ht) hm, wb_a1 (Nat.lt_of_le_of_lt h2 (by omega)), Nat.testBit_eq_decide_div_mod_eq, decide_eq_true_iff]
  have h3 : m / 2 ^ t % 2 < 2 := Nat.mod_lt _ (by decide)
  exact pk_lEQ (a := m / 2 ^ t % 2) (b := 1) (by omega) (by decide)
/-! the tiles under a solid -/
def zs_t0 (k x : Nat) : Nat := if 4 ≤ k then x / 24 / 2 else x / 24
def zs_t1 (c k x : Nat) : Nat := zs_snd c (zs_lie k (x % 24)) (x / 24)
def zs_un (c k x t : Nat) : Prop := t = zs_t0 k x ∨ (¬ zs_lie k (x % 24) = 0 ∧ t = zs_t1 c k x)
def zs_um (c k x : Nat) : Nat := if zs_lie k (x % 24) = 0 then 2 ^ zs_t0 k x else 2 ^ zs_t0 k x ||| 2 ^ zs_t1 c k x
theorem zs_lie4 {k s : Nat} (h : 4 ≤ k) : zs_lie k s = 0 := zs_lie_no (by omega) s
theorem zs_t0_lt {r c k x : Nat} (hd : zs_dim r c k) (hV : zs_V r c k x) : zs_t0 k x < r * c := by
  have h1 := hV.1
  unfold zs_np at h1
  unfold zs_t0
  split
  · rename_i q
    rw [if_pos q] at h1
    omega
  · rename_i q
    rw [if_neg q] at h1
    exact h1
theorem zs_t1_lt {r c k x : Nat} (hd : zs_dim r c k) (hV : zs_V r c k x) (hl : ¬ zs_lie k (x % 24) = 0) : zs_t1 c k x < r * c := by
  have hk : ¬ 4 ≤ k := fun q => hl (zs_lie4 q)
  have h1 := hV.1
  rw [zs_np, if_neg hk] at h1
  have h2 := hV.2.2 hk
  exact zs_snd_lt h1 h2.2.2.1 h2.2.2.2
theorem zs_un_lt {r c k x t : Nat} (hd : zs_dim r c k) (hV : zs_V r c k x) (h : zs_un c k x t) : t < r * c := by
  rcases h with h | ⟨h1, h2⟩
  · rw [h]; exact zs_t0_lt hd hV
  · rw [h2]; exact zs_t1_lt hd hV h1
theorem zs_um_bit (c k x t : Nat) : (zs_um c k x).testBit t = true ↔ zs_un c k x t := by
  unfold zs_um zs_un
  by_cases h : zs_lie k (x % 24) = 0
  · rw [if_pos h, Nat.testBit_two_pow, decide_eq_true_iff]
    exact ⟨fun q => Or.inl q.symm, fun q => q.elim (fun z => z.symm) (fun z => absurd h z.1)⟩
  · rw [if_neg h, Nat.testBit_or, Nat.testBit_two_pow, Nat.testBit_two_pow, Bool.or_eq_true, decide_eq_true_iff, decide_eq_true_iff]
    exact ⟨fun q => q.elim (fun z => Or.inl z.symm) (fun z => Or.inr ⟨h, z.symm⟩), fun q => q.elim (fun z => Or.inl z.symm) (fun z => Or.inr z.2.symm)⟩
theorem zs_um_lt {r c k x : Nat} (hd : zs_dim r c k) (hV : zs_V r c k x) : zs_um c k x < 2 ^ 36 := by
  have hrc := zs_rc hd.2.1 hd.2.2.2.1
  have a := zs_t0_lt hd hV
  have a1 : 2 ^ zs_t0 k x < 2 ^ 36 := Nat.pow_lt_pow_right (by decide) (by omega)
  unfold zs_um
  by_cases h : zs_lie k (x % 24) = 0
  · rw [if_pos h]; exact a1
  · rw [if_neg h]
    have b := zs_t1_lt hd hV h
    exact Nat.or_lt_two_pow a1 (Nat.pow_lt_pow_right (by decide) (by omega))
theorem zb_3 : ∀ p, p < 36 → 3 * 2 ^ p = 2 ^ p ||| 2 ^ (p + 1) := by decide +kernel
theorem e6_tilesUnder {τ : zz_St} {r c k x : Nat} {tl pr : Nat → Int32} {Q : Int64 → Prop} (hB : CB τ r c k tl pr) (hT : CT τ) (hd : zs_dim r c k) (hV : zs_V r c k x) (h : Q (lN (zs_um c k x))) : zq6_tilesUnder (nI x) τ Q := by
  have hrc := zs_rc hd.2.1 hd.2.2.2.1
  have hx := zs_V_lt hd hV
  unfold zq6_tilesUnder
  rw [zs_rem24 (by omega), zs_div24 (by omega), hB.2.2.1]
  intro y ey
  subst ey
  have hs : x % 24 < 24 := Nat.mod_lt _ (by decide)
  unfold zs_um at h
  refine e7_isTetra hd.2.2.2.2 (fun hk => zYf n10 ?_) (fun hk => zYt n00 (e6_lie hB hT hd.2.2.2.2 hs ?_))
  · rw [zs_2 (by omega), zb_shl1 (by omega)]
    rw [if_pos (zs_lie4 hk), show zs_t0 k x = x / 24 / 2 from if_pos hk] at h
    exact h
  · have h1 := hV.1
    rw [zs_np, if_neg hk] at h1
    have hl3 := zs_lie_lt k (x % 24)
    have et0 : zs_t0 k x = x / 24 := if_neg hk
    have e1 : nI (zs_lie k (x % 24)) = 1 ↔ zs_lie k (x % 24) = 1 := nI_eq (b := 1) (by omega) (by decide)
    have e2 : nI (zs_lie k (x % 24)) = 2 ↔ zs_lie k (x % 24) = 2 := nI_eq (b := 2) (by omega) (by decide)
    rw [e1, e2, hB.2.1, nI_add, zb_shl3 (by omega), zb_shl1 (by omega), zb_shl1 (by omega)]
    rw [et0] at h
    unfold zs_t1 zs_snd at h
    refine ⟨fun q => ?_, fun q => ⟨fun q2 => ?_, fun q2 => ?_⟩⟩
    · rw [if_neg (by omega), if_pos q] at h
      rw [zb_3 _ (by omega)]
      exact h
    · rw [if_neg (by omega), if_neg q, if_pos q2] at h
      have a1 : 2 ^ (x / 24) < 2 ^ 64 := Nat.pow_lt_pow_right (by decide) (by omega)
      have a2 : 2 ^ (x / 24 + c) < 2 ^ 64 := Nat.pow_lt_pow_right (by decide) (by omega)
      rw [wb_or a1 a2]
      exact h
    · rw [if_pos (by omega)] at h
      exact h
/-- a tile under the solid, asked of the class's mask -/
theorem zs_um_test {r c k x t : Nat} (hd : zs_dim r c k) (hV : zs_V r c k x) (ht : t < 64) : lg_cmp ((lN (zs_um c k x) >>> ((nI t).toInt64 &&& 63)) &&& (1 : Int64)) (1 : Int64) = 0 ↔ zs_un c k x t := by
  rw [zb_test (Nat.lt_trans (zs_um_lt hd hV) (by decide)) ht]
  exact zs_um_bit c k x t
/-- the reference's two places for them -/
def MU2 (σ : zz_St) (c k x : Nat) : Prop := σ.2.1 11 0 = nI (zs_t0 k x) ∧ (zs_lie k (x % 24) = 0 → σ.1 12 = 1) ∧ (¬ zs_lie k (x % 24) = 0 → σ.1 12 = 2 ∧ σ.2.1 11 1 = nI (zs_t1 c k x))
section UN
variable {σ : zz_St} {r c k x : Nat} {tl pr : Nat → Int32} {Q : Int32 → zz_St → Prop}
theorem e8_under (hB : MB σ r c k tl pr) (hd : zs_dim r c k) (hV : zs_V r c k x) (hF : MF σ (zs_te k) (x / 24) (x % 24)) (h : ∀ σ2, zx σ σ2 [12] [11] → MU2 σ2 c k x → Q 1 σ2) : zq8_tellsUnder σ Q := by
  have hrc := zs_rc hd.2.1 hd.2.2.2.1
  obtain ⟨h1, h2, h3⟩ := hV
  by_cases hk : 4 ≤ k
  · rw [zs_np, if_pos hk] at h1
    unfold zq8_tellsUnder
    intro g hg
    have x1 : zx σ g [12] [11] := by rw [hg]; exact zx.I 12 _ (by decide)
    refine e8_isTetra (hB.x x1 (by decide)) hd (fun _ => ?_) (fun q => absurd hk q)
    refine zYf n10 ⟨vp_in_nI (n := 0) (by decide) (by decide), fun g2 hg2 => ?_⟩
    have x2 : zx σ g2 [12] [11] := by rw [hg2]; exact x1.tr (zx.A 11 _ (by decide))
    have h8g : g.1 8 = nI (x / 24) := (x1.1 8 (by decide)).trans hF.1
    have h82 : g2.1 8 = nI (x / 24) := (x2.1 8 (by decide)).trans hF.1
    have n2 : g2.1 12 = 1 := by rw [hg2, zz_A1, hg, zz_I1, if_pos rfl]
    have u0 : g2.2.1 11 0 = nI (zs_t0 k x) := by rw [hg2, zz_A2, if_pos rfl, zt_0, pk_us, h8g, zs_2 (by omega), zs_t0, if_pos hk]
    have hB2 := hB.x x2 (by decide)
    refine e8_tileMany hB2 ?_
    rw [h82, show (2 : Int32) * nI (r * c) = nI (2 * (r * c)) from pk_mul 2 (r * c)]
    exact e8_inN (by omega) (fun _ => ⟨Or.inr rfl, h g2 x2 ⟨u0, fun _ => n2, fun q => absurd (zs_lie4 hk) q⟩⟩) (fun q => absurd (vp_in_nI h1 (by omega)) q)
  · rw [zs_np, if_neg hk] at h1
    have hte : zs_te k = false := decide_eq_false hk
    rw [hte] at hF h2
    have h3 := h3 hk
    refine e8_tellsUnder hB hd hk hF h2 h1 (fun σ2 x2 _ _ hu => h σ2 x2 ?_) (fun σ2 x2 hn _ => absurd ⟨h3.2.2.1, h3.2.2.2⟩ hn)
    unfold MU2 zs_t0 zs_t1
    rw [if_neg hk]
    exact hu
theorem e8_isUnder (hB : MB σ r c k tl pr) (hd : zs_dim r c k) (hV : zs_V r c k x) (hF : MF σ (zs_te k) (x / 24) (x % 24)) {t : Nat} (ht : t < 36)
    (h1 : zs_un c k x t → ∀ σ2, zx σ σ2 [12] [11] → Q 1 σ2) (h0 : ¬ zs_un c k x t → ∀ σ2, zx σ σ2 [12] [11] → Q 0 σ2) : zq8_isUnder (nI t) σ Q := by
  have hrc := zs_rc hd.2.1 hd.2.2.2.1
  unfold zq8_isUnder zq8_isUnder_21 zq8_isUnder_22
  refine e8_under hB hd hV hF (fun σ2 x2 hu => zYf n10 ⟨vp_in_nI (n := 0) (by decide) (by decide), ?_⟩)
  have a0 := zs_t0_lt hd hV
  rw [zt_0, hu.1]
  have e0 : nI (zs_t0 k x) = nI t ↔ zs_t0 k x = t := nI_eq (by omega) (by omega)
  rw [e0, zt_1]
  refine ⟨fun q => zNt n00 ?_, fun q => zNf n10 (h1 (Or.inl q.symm) σ2 x2)⟩
  by_cases hl : zs_lie k (x % 24) = 0
  · rw [hu.2.1 hl]
    exact zNf (by decide) (h0 (fun z => z.elim (fun y => q y.symm) (fun y => y.1 hl)) σ2 x2)
  · have a1 := zs_t1_lt hd hV hl
    have e1 : nI (zs_t1 c k x) = nI t ↔ zs_t1 c k x = t := nI_eq (by omega) (by omega)
    rw [(hu.2.2 hl).1, (hu.2.2 hl).2, e1]
    exact zNt rfl ⟨vp_in_nI (n := 1) (by decide) (by decide), fun z => h0 (fun w => w.elim (fun y => q y.symm) (fun y => z y.2.symm)) σ2 x2, fun z => h1 (Or.inr ⟨hl, z.symm⟩) σ2 x2⟩
end UN
