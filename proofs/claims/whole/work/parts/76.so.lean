/-! likely: the class -/
/-- what has come to y by the first m small steps -/
def zP (st : Nat → Nat → Option Nat) (x0 n y m : Nat) : Nat := zsm (fun m => if y = tgc st m then zC st x0 1728 n (m / 4) else 0) m
theorem zP_0 {st : Nat → Nat → Option Nat} {x0 n y : Nat} : zP st x0 n y 0 = 0 := rfl
theorem zP_s {st : Nat → Nat → Option Nat} {x0 n y x w : Nat} (hw : w < 4) : zP st x0 n y (4 * x + w + 1) = zP st x0 n y (4 * x + w) + (if y = tgc st (4 * x + w) then zC st x0 1728 n x else 0) := by
  unfold zP
  rw [zsm_s, show (4 * x + w) / 4 = x from by omega]
theorem zP_skip {st : Nat → Nat → Option Nat} {x0 n y x : Nat} (h : zC st x0 1728 n x = 0) : ∀ w, w ≤ 4 → zP st x0 n y (4 * x + w) = zP st x0 n y (4 * x) := by
  intro w
  induction w with
  | zero => intro _; rfl
  | succ w ih =>
    intro hw
    show zP st x0 n y (4 * x + w + 1) = _
    rw [zP_s (by omega), ih (by omega), h]
    split <;> rfl
theorem zP_end {st : Nat → Nat → Option Nat} {x0 n y : Nat} : zP st x0 n y (4 * 1728) = zC st x0 1728 (n + 1) y := rfl
theorem z412 {n : Nat} (h : n ≤ 12) : 4 ^ n ≤ 2 ^ 24 := Nat.le_trans (Nat.pow_le_pow_right (by decide) h) (by decide)
section SO
variable {σ τ : zz_St} {r c k x0 : Nat} {tl pr : Nat → Int32}
theorem e4_spread {Q : zz_St → Prop} {n : Nat} (hB : CB τ r c k tl pr) (hT : CT τ) (hd : zs_dim r c k) (hn : n ≤ 12) (h24 : ∀ y, y < 1728 → τ.2.1 24 y = nI (zC (zs_st r c k tl pr) x0 1728 n y)) (hz : ∀ x, ¬ zC (zs_st r c k tl pr) x0 1728 n x = 0 → zs_V r c k x)
    (h : ∀ τ2, zx τ τ2 [] [24, 25] → (∀ y, y < 1728 → τ2.2.1 24 y = nI (zC (zs_st r c k tl pr) x0 1728 (n + 1) y)) → Q τ2) : zq4_spread τ Q := by
  unfold zq4_spread
  intro f18 hf g20 hg
  have x20 : zx τ g20 [] [25] := by rw [hg]; exact zx.A 25 _ (by decide)
  have e20 : ∀ y, y < 1728 → g20.2.1 25 y = nI (zP (zs_st r c k tl pr) x0 n y (4 * 0)) := by
    intro y hy
    rw [hg, zz_A2, if_pos rfl, hf y hy]
    rfl
  have hle : ∀ y, y < 1728 → zC (zs_st r c k tl pr) x0 1728 n y ≤ 2 ^ 24 := fun y hy => Nat.le_trans (zC_le hy) (z412 hn)
  unfold zq4_spread_10
  refine ⟨fun v2 τ2 => ∃ x, x ≤ 1728 ∧ v2 = nI x ∧ (zx τ τ2 [] [25] ∧ ∀ y, y < 1728 → τ2.2.1 25 y = nI (zP (zs_st r c k tl pr) x0 n y (4 * x))), fun v2 _ => 1728 - v2.toNatClampNeg, ⟨0, Nat.zero_le _, rfl, x20, e20⟩, ?_⟩
  rintro v2 τ2 ⟨x, hx, rfl, x2, e2⟩
  refine ⟨fun q => ⟨by decide, by decide, by decide, by decide, by decide, fun g17 h17 => ?_⟩, fun q => ?_⟩
  · have := zl_end (N := 1728) hx (by decide) q
    subst this
    have x17 : zx τ2 g17 [] [24] := by rw [h17]; exact zx.A 24 _ (by decide)
    refine h g17 ((x2.mono (by decide) (by decide)).tr (x17.mono (by decide) (by decide))) (fun y hy => ?_)
    rw [h17, zz_A2, if_pos rfl, zcp0 (N := 1728) (1728 : Int32) (by decide), if_pos hy, e2 y hy, zP_end]
  · have hlt := zl_go (N := 1728) hx (by decide) q
    have cx : (nI x).toNatClampNeg = x := nI_clamp (by omega)
    have vx : vp_in (nI x) 1728 := vp_in_nI hlt (by decide)
    unfold zq4_spread_19 zq4_spread_72
    refine ⟨fun v3 τ3 => ∃ w, w ≤ 4 ∧ v3 = nI w ∧ (zx τ τ3 [] [25] ∧ ∀ y, y < 1728 → τ3.2.1 25 y = nI (zP (zs_st r c k tl pr) x0 n y (4 * x + w))), fun v3 _ => 4 - v3.toNatClampNeg, ⟨0, by decide, rfl, x2, e2⟩, ?_⟩
    rintro v3 τ3 ⟨w, hw, rfl, x3, e3⟩
    have up : (∀ y, y < 1728 → τ3.2.1 25 y = nI (zP (zs_st r c k tl pr) x0 n y (4 * (x + 1)))) → (∃ j, j ≤ 1728 ∧ nI x + 1 = nI j ∧ (zx τ τ3 [] [25] ∧ ∀ y, y < 1728 → τ3.2.1 25 y = nI (zP (zs_st r c k tl pr) x0 n y (4 * j)))) ∧ 1728 - (nI x + 1).toNatClampNeg < 1728 - (nI x).toNatClampNeg := fun u => zl_leaf (J := fun j τ3 => zx τ τ3 [] [25] ∧ ∀ y, y < 1728 → τ3.2.1 25 y = nI (zP (zs_st r c k tl pr) x0 n y (4 * j))) hlt (by decide) ⟨x3, u⟩
    refine ⟨fun q2 => ?_, fun q2 => ⟨vx, ?_⟩⟩
    · have := zl_end (N := 4) hw (by decide) q2
      subst this
      exact up (fun y hy => by rw [e3 y hy]; rfl)
    · have hw4 := zl_go (N := 4) hw (by decide) q2
      rw [cx, x3.2.1 24 (by decide), h24 x hlt]
      have hlx := hle x hlt
      refine pk_le (zC (zs_st r c k tl pr) x0 1728 n x) 0 (fun u => up (fun y hy => ?_)) (fun u => ?_)
      · have h0 : zC (zs_st r c k tl pr) x0 1728 n x = 0 := by omega
        rw [e3 y hy, zP_skip h0 w hw]
        show _ = nI (zP (zs_st r c k tl pr) x0 n y (4 * x + 4))
        rw [zP_skip h0 4 (Nat.le_refl _)]
      · have hVx := hz x (by omega)
        obtain ⟨hp, hss, _⟩ := zs_V_dm hd hVx
        have hB3 := hB.x x3 (by decide)
        have hT3 := hT.x x3 (by decide) (by decide)
        have hdiv : (4 * x + w) / 4 = x := by omega
        have hmod : (4 * x + w) % 4 = w := by omega
        have put : ∀ t, t < 1728 → tgc (zs_st r c k tl pr) (4 * x + w) = t → zq4_spread_56 (nI x) (nI w) (nI t) τ3 Q (fun v2' τ' => (∃ x, x ≤ 1728 ∧ v2' = nI x ∧ (zx τ τ' [] [25] ∧ ∀ y, y < 1728 → τ'.2.1 25 y = nI (zP (zs_st r c k tl pr) x0 n y (4 * x)))) ∧ 1728 - v2'.toNatClampNeg < 1728 - (nI x).toNatClampNeg) (fun v3' τ' => (∃ w, w ≤ 4 ∧ v3' = nI w ∧ (zx τ τ' [] [25] ∧ ∀ y, y < 1728 → τ'.2.1 25 y = nI (zP (zs_st r c k tl pr) x0 n y (4 * x + w)))) ∧ 4 - v3'.toNatClampNeg < 4 - (nI w).toNatClampNeg) := by
          intro t ht htg
          have vt : vp_in (nI t) 1728 := vp_in_nI ht (by decide)
          have ctt : (nI t).toNatClampNeg = t := nI_clamp (by omega)
          unfold zq4_spread_56
          refine ⟨vt, vx, vt, fun g11 h11 => ?_⟩
          rw [ctt, cx, x3.2.1 24 (by decide), h24 x hlt, e3 t ht, nI_add] at h11
          have x11 : zx τ3 g11 [] [25] := by rw [h11]; exact zx.A 25 _ (by decide)
          refine zl_leaf (J := fun w τ' => zx τ τ' [] [25] ∧ ∀ y, y < 1728 → τ'.2.1 25 y = nI (zP (zs_st r c k tl pr) x0 n y (4 * x + w))) hw4 (by decide) ⟨x3.tr x11, fun y hy => ?_⟩
          rw [h11, zz_A2, if_pos rfl]
          show _ = nI (zP (zs_st r c k tl pr) x0 n y (4 * x + w + 1))
          rw [zP_s hw4, htg]
          by_cases z : y = t
          · rw [z, pk_us, if_pos rfl]
          · rw [pk_un z, if_neg z, Nat.add_zero, e3 y hy]
        refine e6_rolledx hB3 hT3 hd hw4 hss hp (fun y hy => ?_) (fun hno => ?_)
        · have hVy := zs_st_V hVx hw4 hy
          have hy17 := (zs_V_lt hd hVy).1
          exact zYf (nI_pos (by omega)) (put y hy17 (tgc_s (by rw [hdiv, hmod]; exact hy)))
        · exact zYt (by decide) (put x hlt (by rw [tgc_n (by rw [hdiv, hmod]; exact hno), hdiv]))
theorem e4_walksEndingAt {Q : Int64 → zz_St → Prop} {n p : Nat} (hB : CB τ r c k tl pr) (hT : CT τ) (hd : zs_dim r c k) (hV : zs_V r c k x0) (h8 : τ.1 8 = nI x0) (hn : n ≤ 12) (hp : p < 72) (hz : ∀ n x, ¬ zC (zs_st r c k tl pr) x0 1728 n x = 0 → zs_V r c k x)
    (h : ∀ τ2, zx τ τ2 [] [24, 25] → Q (lN (zsm (fun s => zC (zs_st r c k tl pr) x0 1728 n (24 * p + s)) 24)) τ2) : zq4_walksEndingAt (nI n) (nI p) τ Q := by
  unfold zq4_walksEndingAt
  intro f13 hf g15 h15
  have hx17 := (zs_V_lt hd hV).1
  have x15 : zx τ g15 [] [24] := by rw [h15]; exact zx.A 24 _ (by decide)
  have c0 : (nI x0).toNatClampNeg = x0 := nI_clamp (by omega)
  rw [x15.1 8 (by decide), h8, c0]
  refine ⟨vp_in_nI hx17 (by decide), fun g16 h16 => ?_⟩
  have x16 : zx g15 g16 [] [24] := by rw [h16]; exact zx.A 24 _ (by decide)
  have e16 : ∀ y, y < 1728 → g16.2.1 24 y = nI (zC (zs_st r c k tl pr) x0 1728 0 y) := by
    intro y hy
    show _ = nI (if y = x0 then 1 else 0)
    rw [h16, zz_A2, if_pos rfl]
    by_cases z : y = x0
    · rw [z, pk_us, if_pos rfl]; rfl
    · rw [pk_un z, if_neg z, h15, zz_A2, if_pos rfl, hf y hy]; rfl
  unfold zq4_walksEndingAt_21
  refine ⟨fun v4 τ2 => ∃ t, t ≤ n ∧ v4 = nI t ∧ (zx τ τ2 [] [24, 25] ∧ ∀ y, y < 1728 → τ2.2.1 24 y = nI (zC (zs_st r c k tl pr) x0 1728 t y)), fun v4 _ => n - v4.toNatClampNeg, ⟨0, Nat.zero_le _, rfl, (x15.mono (by decide) (by decide)).tr (x16.mono (by decide) (by decide)), e16⟩, ?_⟩
  rintro v4 τ2 ⟨t, ht, rfl, x2, e2⟩
  refine pk_le n t (fun q => ?_) (fun q => ?_)
  · have e : t = n := by omega
    subst e
    unfold zq4_walksEndingAt_44
    refine ⟨fun v4 v6 => ∃ s, s ≤ 24 ∧ v6 = nI s ∧ v4 = lN (zsm (fun s => zC (zs_st r c k tl pr) x0 1728 t (24 * p + s)) s), fun _ v6 => 24 - v6.toNatClampNeg, ⟨0, by decide, rfl, rfl⟩, ?_⟩
    rintro v4 v6 ⟨s, hs, rfl, rfl⟩
    refine ⟨fun q2 => ?_, fun q2 => ?_⟩
    · have := zl_end (N := 24) hs (by decide) q2
      subst this
      exact h τ2 x2
    · have hs4 := zl_go (N := 24) hs (by decide) q2
      have e24 : nI p * 24 + nI s = nI (24 * p + s) := by
        rw [show nI p * 24 = nI (p * 24) from pk_mul p 24, nI_add, Nat.mul_comm]
      have cps : (nI (24 * p + s)).toNatClampNeg = 24 * p + s := nI_clamp (by omega)
      have hlt : 24 * p + s < 1728 := by omega
      have hle := Nat.le_trans (zC_le (st := zs_st r c k tl pr) (x0 := x0) (n := t) hlt) (z412 hn)
      rw [e24, cps, e2 _ hlt, nI_l (by omega), lN_add]
      refine ⟨vp_in_nI hlt (by decide), fun x10 e10 => ⟨⟨s + 1, hs4, nI_1 s, e10⟩, ?_⟩⟩
      show 24 - (nI s + 1).toNatClampNeg < 24 - (nI s).toNatClampNeg
      rw [nI_1, nI_clamp (by omega), nI_clamp (by omega)]
      omega
  · exact e4_spread (hB.x x2 (by decide)) (hT.x x2 (by decide) (by decide)) hd (by omega) e2 (hz t) (fun τ3 x3 e3 => zl_leaf (J := fun t τ2 => zx τ τ2 [] [24, 25] ∧ ∀ y, y < 1728 → τ2.2.1 24 y = nI (zC (zs_st r c k tl pr) x0 1728 t y)) q (by omega) ⟨x2.tr x3, e3⟩)
theorem e7_partInLeastTerms {Q : Int64 → Prop} {a n v : Nat} (hn : n ≤ 12) (ha : a ≤ 4 ^ n) (hv : v < 2) (h : Q (lN ((if v = 0 then a else 4 ^ n) / Nat.gcd a (4 ^ n)))) : zq7_partInLeastTerms (lN a) ((2 : Int32) * nI n) (nI v) Q := by
  have h24 := z412 hn
  have e2 : (2 : Int32) * nI n = nI (2 * n) := pk_mul 2 n
  have e4 : 4 ^ n = 2 ^ (2 * n) := by rw [Nat.pow_mul]
  have l0 : lN a = 0 ↔ a = 0 := lN_eq (b := 0) (by omega) (by decide)
  unfold zq7_partInLeastTerms
  rw [e2, lg_cmp_eq, l0]
  refine ⟨fun na => ?_, fun z => ?_⟩
  · have fin : ∀ i b, a = 2 ^ i * b → i ≤ 2 * n → (i = 2 * n ∨ b % 2 = 1) → zq7_partInLeastTerms_52 (nI v) (lN b) (nI (2 * n - i)) Q := by
      intro i b hab hi hor
      have hg : Nat.gcd a (4 ^ n) = 2 ^ i := by rw [e4]; exact zg_gcd hab hi hor
      have hp : 0 < 2 ^ i := Nat.pow_pos (by decide)
      rw [hg] at h
      unfold zq7_partInLeastTerms_52
      have v0 : nI v = 0 ↔ v = 0 := nI_eq (b := 0) (by omega) (by decide)
      rw [v0]
      refine ⟨fun nv => ?_, fun yv => ?_⟩
      · rw [zb_shl1 (by omega)]
        rw [if_neg nv, e4, Nat.pow_div hi (by decide)] at h
        exact h
      · rw [if_pos yv, hab, Nat.mul_div_cancel_left _ hp] at h
        exact h
    unfold zq7_partInLeastTerms_18
    refine ⟨fun v4 v6 v7 => ∃ i b, i ≤ 2 * n ∧ v7 = nI i ∧ v6 = nI (2 * n - i) ∧ v4 = lN b ∧ a = 2 ^ i * b, fun _ _ v7 => 2 * n - v7.toNatClampNeg, ⟨0, a, Nat.zero_le _, rfl, rfl, rfl, by rw [Nat.pow_zero, Nat.one_mul]⟩, ?_⟩
    rintro v4 v6 v7 ⟨i, b, hi, rfl, rfl, rfl, hab⟩
    have hp : 0 < 2 ^ i := Nat.pow_pos (by decide)
    have hb : b ≤ a := by rw [hab]; exact Nat.le_mul_of_pos_left b hp
    have er : lN b - lN b / 2 * 2 = lN (b % 2) := pk_lRem (b := 2) (by omega) (by decide) (by decide)
    have ed : lN b / 2 = lN (b / 2) := pk_lDiv (b := 2) (by omega) (by decide) (by decide)
    have l2 : lN (b % 2) = 0 ↔ b % 2 = 0 := lN_eq (b := 0) (by omega) (by decide)
    refine pk_le (2 * n) i (fun q => fin i b hab hi (Or.inl (by omega))) (fun q => ?_)
    rw [er, lg_cmp_eq, l2]
    refine ⟨fun u => fin i b hab hi (Or.inr (by omega)), fun u x9 e9 => ?_⟩
    rw [ed] at e9
    refine ⟨⟨i + 1, b / 2, q, nI_1 i, ?_, e9, ?_⟩, ?_⟩
    · rw [← Int32.sub_eq_add_neg, show nI (2 * n - i) - 1 = nI (2 * n - i - 1) from pk_sub (b := 1) (by omega)]
      rw [show 2 * n - i - 1 = 2 * n - (i + 1) from by omega]
    · rw [hab, Nat.pow_succ, Nat.mul_assoc]
      congr 1
      omega
    · show 2 * n - (nI i + 1).toNatClampNeg < 2 * n - (nI i).toNatClampNeg
      rw [nI_1, nI_clamp (by omega), nI_clamp (by omega)]
      omega
  · rw [z, Nat.gcd_zero_left] at h
    have hp : 0 < 4 ^ n := Nat.pow_pos (by decide)
    rcases (by omega : v = 0 ∨ v = 1) with rfl | rfl
    · rw [if_pos rfl, Nat.zero_div] at h
      exact h
    · rw [if_neg (by decide), Nat.div_self hp] at h
      exact h
end SO
