/-! a roll, truly: both sides -/
theorem zn_lt4 {v : Int32} {n : Nat} (hn : n < 2 ^ 31) {A B : Prop} (h1 : vp_in v n → B) (h0 : ¬ vp_in v n → A) : (v < 0 → A) ∧ (¬ v < 0 → (v < nI n → B) ∧ (¬ v < nI n → A)) := by
  have := zn_ix (v := v) hn h1 h0
  exact ⟨this.1, fun q => ⟨fun q2 => (this.2 q).2 (Int32.not_le.mpr q2), fun q2 => (this.2 q).1 (Int32.not_lt.mp q2)⟩⟩
/-- what the class's roll to a state leaves -/
def CS (r c k x y : Nat) (τ τ' : zz_St) : Prop := ∃ d nx, d ≤ 20 ∧ nx < 20 ∧ τ.1 15 = nI d ∧ τ.1 14 = nI nx ∧ zx τ τ' [8, 14, 15] [16, 26, 27] ∧ τ'.1 8 = nI y ∧ τ'.1 14 = nI ((nx + 1) % 20) ∧ τ'.1 15 = nI (min (d + 1) 20) ∧ τ'.2.1 26 = upd (τ.2.1 26) nx (nI x) ∧ (∀ j, τ'.2.1 27 j = if 36 * nx ≤ j ∧ j < 36 * nx + 36 then τ.2.1 16 (j - 36 * nx) else τ.2.1 27 j) ∧ ∀ i, i < 36 → τ'.2.1 16 i = if τ.1 10 = 1 then (if (zs_um c k y).testBit i then nI (zs_bel (zs_te k) (y % 24)) else τ.2.1 16 i) else τ.2.1 16 i
section CH
variable {σ τ : zz_St} {r c k : Nat} {tl pr : Nat → Int32}
theorem e0_keep {Q : zz_St → Prop} {d nx x : Nat} (hd : d ≤ 20) (hn : nx < 20) (h14 : τ.1 14 = nI nx) (h15 : τ.1 15 = nI d) (h8 : τ.1 8 = nI x)
    (h : ∀ τ2, zx τ τ2 [14, 15] [26, 27] → τ2.1 14 = nI ((nx + 1) % 20) → τ2.1 15 = nI (min (d + 1) 20) → τ2.2.1 26 = upd (τ.2.1 26) nx (nI x) → (∀ j, τ2.2.1 27 j = if 36 * nx ≤ j ∧ j < 36 * nx + 36 then τ.2.1 16 (j - 36 * nx) else τ.2.1 27 j) → Q τ2) : zq0_keep τ Q := by
  unfold zq0_keep
  have cn : (nI nx).toNatClampNeg = nx := nI_clamp (by omega)
  rw [h14, cn, h8]
  refine ⟨vp_in_nI hn (by decide), fun g5 h5 => ?_⟩
  have x5 : zx τ g5 [] [26] := by rw [h5]; exact zx.A 26 _ (by decide)
  have e36 : nI nx * 36 = nI (nx * 36) := pk_mul nx 36
  have c36 : (nI (nx * 36)).toNatClampNeg = nx * 36 := nI_clamp (by omega)
  rw [x5.1 14 (by decide), h14, e36, c36]
  refine ⟨by decide, nI_pos (by omega), by decide, by decide, ?_, fun g6 h6 g7 h7 g8 h8' => ?_⟩
  · show nx * 36 + 36 ≤ 720
    omega
  have x6 : zx g5 g6 [] [27] := by rw [h6]; exact zx.A 27 _ (by decide)
  have x7 : zx g6 g7 [14] [] := by rw [h7]; exact zx.I 14 _ (by decide)
  have x8 : zx g7 g8 [15] [] := by rw [h8']; exact zx.I 15 _ (by decide)
  have e14 : g6.1 14 = nI nx := by rw [x6.1 14 (by decide), x5.1 14 (by decide), h14]
  refine h g8 ((((x5.mono (by decide) (by decide)).tr (x6.mono (by decide) (by decide))).tr (x7.mono (by decide) (by decide))).tr (x8.mono (by decide) (by decide))) ?_ ?_ ?_ (fun j => ?_)
  · rw [x8.1 14 (by decide), h7, zz_I1, if_pos rfl, e14, nI_1]
    exact pk_rem (d := 20) (by omega) (by decide) (by decide)
  · rw [h8', zz_I1, if_pos rfl, x7.1 15 (by decide), x6.1 15 (by decide), x5.1 15 (by decide), h15, nI_1]
    have e20 : (20 : Int32) < nI (d + 1) ↔ 20 < d + 1 := nI_ltI (a := 20) (by decide) (by omega)
    by_cases z : 20 < d + 1
    · rw [if_pos (e20.mpr z), show min (d + 1) 20 = 20 from by omega]; rfl
    · rw [if_neg (fun q => z (e20.mp q)), show min (d + 1) 20 = d + 1 from by omega]
  · rw [x8.2.1 26 (by decide), x7.2.1 26 (by decide), x6.2.1 26 (by decide), h5, zz_A2, if_pos rfl]
  · rw [x8.2.1 27 (by decide), x7.2.1 27 (by decide), h6, zz_A2, if_pos rfl, x5.2.1 16 (by decide), x5.2.1 27 (by decide)]
    show va_cpy (τ.2.1 16) (τ.2.1 27) 0 (nx * 36) 36 j = _
    rw [Nat.mul_comm nx 36]
    by_cases z : 36 * nx ≤ j ∧ j < 36 * nx + 36
    · rw [if_pos z, pk_cpy_in z.1 z.2, Nat.zero_add]
    · rw [if_neg z, pk_cpy_out (by omega)]
theorem e6_printBelow {Q : zz_St → Prop} {x : Nat} (hB : CB τ r c k tl pr) (hT : CT τ) (hd : zs_dim r c k) (hV : zs_V r c k x) (h8 : τ.1 8 = nI x) (h : ∀ τ2, zx τ τ2 [] [16] → (∀ i, i < 36 → τ2.2.1 16 i = if (zs_um c k x).testBit i then nI (zs_bel (zs_te k) (x % 24)) else pr i) → Q τ2) : zq6_printBelow τ Q := by
  have hx := zs_V_lt hd hV
  unfold zq6_printBelow
  rw [h8]
  refine e6_tilesUnder hB hT hd hV ?_
  unfold zq6_printBelow_11 zq6_printBelow_41
  refine ⟨fun v τ2 => ∃ i, i ≤ 36 ∧ v = nI i ∧ (zx τ τ2 [] [16] ∧ ∀ j, τ2.2.1 16 j = if j < i ∧ (zs_um c k x).testBit j then nI (zs_bel (zs_te k) (x % 24)) else pr j), fun v _ => 36 - v.toNatClampNeg, ⟨0, Nat.zero_le _, rfl, zx.rf, fun j => by rw [if_neg (by omega), hB.2.2.2.2]⟩, ?_⟩
  rintro v τ2 ⟨i, hi, rfl, hx2, hp⟩
  refine ⟨fun q => ?_, fun q => ?_⟩
  · have := zl_end (N := 36) hi (by decide) q
    subst this
    refine h τ2 hx2 (fun i hi => ?_)
    rw [hp i]
    by_cases z : (zs_um c k x).testBit i = true
    · rw [if_pos ⟨hi, z⟩, if_pos z]
    · rw [if_neg (fun y => z y.2), if_neg z]
  · have hlt := zl_go (N := 36) hi (by decide) q
    have ci : (nI i).toNatClampNeg = i := nI_clamp (by omega)
    rw [zb_test (Nat.lt_trans (zs_um_lt hd hV) (by decide)) (show i < 64 by omega)]
    have hB2 : CB τ2 r c k tl (τ2.2.1 16) := ⟨(hx2.1 2 (by decide)).trans hB.1, (hx2.1 4 (by decide)).trans hB.2.1, (hx2.1 6 (by decide)).trans hB.2.2.1, (hx2.2.1 14 (by decide)).trans hB.2.2.2.1, rfl⟩
    refine ⟨fun z => ?_, fun z => ?_⟩
    · refine zl_leaf (J := fun i τ2 => zx τ τ2 [] [16] ∧ ∀ j, τ2.2.1 16 j = if j < i ∧ (zs_um c k x).testBit j then nI (zs_bel (zs_te k) (x % 24)) else pr j) (N := 36) hlt (by decide) ⟨hx2, fun j => ?_⟩
      rw [hp j]
      by_cases y : j = i
      · subst y
        rw [if_neg (fun u => z u.2), if_neg (fun u => z u.2)]
      · by_cases w : j < i ∧ (zs_um c k x).testBit j = true
        · rw [if_pos w, if_pos ⟨by omega, w.2⟩]
        · rw [if_neg w, if_neg (fun u => w ⟨by omega, u.2⟩)]
    · rw [hx2.1 8 (by decide), h8]
      refine e6_faceBelow hB2 (hT.x hx2 (by decide) (by decide)) hd.2.2.2.2 (by omega) ⟨vp_in_nI hlt (by decide), fun g9 h9 => ?_⟩
      rw [ci] at h9
      refine zl_leaf (J := fun i τ2 => zx τ τ2 [] [16] ∧ ∀ j, τ2.2.1 16 j = if j < i ∧ (zs_um c k x).testBit j then nI (zs_bel (zs_te k) (x % 24)) else pr j) (N := 36) hlt (by decide) ⟨?_, fun j => ?_⟩
      · rw [h9]; exact hx2.tr (zx.A 16 _ (by decide))
      · rw [h9, zz_A2, if_pos rfl]
        by_cases y : j = i
        · subst y
          rw [pk_us, if_pos ⟨Nat.lt_succ_self j, z⟩]
        · rw [pk_un y, hp j]
          by_cases w : j < i ∧ (zs_um c k x).testBit j = true
          · rw [if_pos w, if_pos ⟨by omega, w.2⟩]
          · rw [if_neg w, if_neg (fun u => w ⟨by omega, u.2⟩)]
theorem e7_rollTruly {Q : Int32 → zz_St → Prop} {x w d nx : Nat} (hB : CB τ r c k (τ.2.1 14) (τ.2.1 16)) (hT : CT τ) (hd : zs_dim r c k) (hV : zs_V r c k x) (h8 : τ.1 8 = nI x) (hw : w < 4) (hd20 : d ≤ 20) (hn : nx < 20) (h14 : τ.1 14 = nI nx) (h15 : τ.1 15 = nI d)
    (h1 : ∀ y τ', zs_st r c k (τ.2.1 14) (τ.2.1 16) x w = some y → CS r c k x y τ τ' → Q 1 τ') (h0 : zs_st r c k (τ.2.1 14) (τ.2.1 16) x w = none → Q 0 τ) : zq7_rollTruly (nI w) τ Q := by
  obtain ⟨hp, hss, hp72⟩ := zs_V_dm hd hV
  unfold zq7_rollTruly
  rw [h8]
  refine e6_rolledx hB hT hd hw hss hp (fun y hy => ?_) (fun hn' => ?_)
  · have hVy := zs_st_V hV hw hy
    have hy17 := (zs_V_lt hd hVy).1
    refine ⟨fun _ => e0_keep hd20 hn h14 h15 h8 (fun τ2 x2 k14 k15 k26 k27 g10 h10 => ?_), fun q => absurd (nI_pos' (by omega)) q⟩
    have x10 : zx τ2 g10 [8] [] := by rw [h10]; exact zx.I 8 _ (by decide)
    have xg : zx τ g10 [8, 14, 15] [26, 27] := (x2.mono (by decide) (by decide)).tr (x10.mono (by decide) (by decide))
    have e8 : g10.1 8 = nI y := by rw [h10, zz_I1, if_pos rfl]
    have fin : ∀ τ', zx g10 τ' [] [16] → (∀ i, i < 36 → τ'.2.1 16 i = if τ.1 10 = 1 then (if (zs_um c k y).testBit i then nI (zs_bel (zs_te k) (y % 24)) else τ.2.1 16 i) else τ.2.1 16 i) → Q 1 τ' := by
      intro τ' x' hp'
      refine h1 y τ' hy ⟨d, nx, hd20, hn, h15, h14, (xg.mono (by decide) (by decide)).tr (x'.mono (by decide) (by decide)), (x'.1 8 (by decide)).trans e8, ?_, ?_, ?_, fun j => ?_, hp'⟩
      · rw [x'.1 14 (by decide), x10.1 14 (by decide)]; exact k14
      · rw [x'.1 15 (by decide), x10.1 15 (by decide)]; exact k15
      · rw [x'.2.1 26 (by decide), x10.2.1 26 (by decide)]; exact k26
      · rw [x'.2.1 27 (by decide), x10.2.1 27 (by decide)]; exact k27 j
    rw [xg.1 10 (by decide)]
    refine ⟨fun q => fin g10 zx.rf (fun i _ => by rw [if_neg q, xg.2.1 16 (by decide)]), fun q => ?_⟩
    refine e6_printBelow (hB.x xg (by decide)) (hT.x xg (by decide) (by decide)) hd hVy e8 (fun τ' x' hp' => fin τ' x' (fun i hi => by rw [if_pos q]; exact hp' i hi))
  · exact ⟨fun q => absurd q (by decide), fun _ => h0 hn'⟩
/-- the reference keeps what was -/
theorem e8_keeps_50 {Q : zz_St → Prop} {d pl : Nat} (hd : d < 20) (h19 : σ.1 19 = nI d) (h8 : σ.1 8 = nI pl)
    (h : ∀ σ2, zx σ σ2 [19] [18] → σ2.1 19 = nI (d + 1) → (∀ j, j < 64 * d → σ2.2.1 18 j = σ.2.1 18 j) → σ2.2.1 18 (64 * d) = nI pl → (∀ i, i < 6 → σ2.2.1 18 (64 * d + 1 + i) = σ.2.1 10 i) → (∀ t, t < 36 → σ2.2.1 18 (64 * d + 7 + t) = σ.2.1 5 t) → Q σ2) : zq8_keeps_50 σ Q := by
  unfold zq8_keeps_50
  rw [h19, show (64 : Int32) * nI d = nI (64 * d) from pk_mul 64 d]
  intro x17 e17
  subst e17
  have c64 : (nI (64 * d)).toNatClampNeg = 64 * d := nI_clamp (by omega)
  rw [c64, h8]
  refine ⟨vp_in_nI (by omega) (by decide), fun g18 h18 => ?_⟩
  have x18 : zx σ g18 [] [18] := by rw [h18]; exact zx.A 18 _ (by decide)
  unfold zq8_keeps_70
  refine zl_copyo (src := 10) (dst := 18) (N := 6) (Ms := 6) (Md := 1280) (os := 0) (od := 64 * d + 1) (by decide) (fun v => v) (fun v => (nI (64 * d) + 1) + v) (fun i _ => by rw [Nat.zero_add]) (fun i _ => by rw [nI_1, nI_add]) (by decide) (by decide) (by omega) (by decide) (by decide) (fun σ3 x3 f1 f2 => ?_)
  unfold zq8_keeps_100
  refine zl_copyo (src := 5) (dst := 18) (N := 36) (Ms := 36) (Md := 1280) (os := 0) (od := 64 * d + 7) (by decide) (fun v => v) (fun v => (nI (64 * d) + 7) + v) (fun i _ => by rw [Nat.zero_add]) (fun i _ => by rw [show nI (64 * d) + 7 = nI (64 * d + 7) from nI_add _ 7, nI_add]) (by decide) (by decide) (by omega) (by decide) (by decide) (fun σ4 x4 p1 p2 g13 h13 => ?_)
  have x13 : zx σ4 g13 [19] [] := by rw [h13]; exact zx.I 19 _ (by decide)
  refine h g13 ((((x18.mono (by decide) (by decide)).tr (x3.mono (by decide) (by decide))).tr (x4.mono (by decide) (by decide))).tr (x13.mono (by decide) (by decide))) ?_ (fun j hj => ?_) ?_ (fun i hi => ?_) (fun t ht => ?_)
  · rw [h13, zz_I1, if_pos rfl, x4.1 19 (by decide), x3.1 19 (by decide), x18.1 19 (by decide), h19, nI_1]
  · rw [x13.2.1 18 (by decide), p2 j (by omega), f2 j (by omega), h18, zz_A2, if_pos rfl, pk_un (by omega)]
  · rw [x13.2.1 18 (by decide), p2 _ (by omega), f2 _ (by omega), h18, zz_A2, if_pos rfl, pk_us]
  · rw [x13.2.1 18 (by decide), p2 _ (by omega), f1 i hi, Nat.zero_add, x18.2.1 10 (by decide)]
  · rw [x13.2.1 18 (by decide), p1 t ht, Nat.zero_add, x3.2.1 5 (by decide), x18.2.1 5 (by decide)]
theorem e8_keeps {Q : zz_St → Prop} {d pl : Nat} (hd : d ≤ 20) (h19 : σ.1 19 = nI d) (h8 : σ.1 8 = nI pl)
    (h : ∀ b o σ2, (d < 20 ∧ b = d ∧ o = 0) ∨ (d = 20 ∧ b = 19 ∧ o = 64) → zx σ σ2 [19] [18] → σ2.1 19 = nI (b + 1) → (∀ j, j < 64 * b → σ2.2.1 18 j = σ.2.1 18 (j + o)) → σ2.2.1 18 (64 * b) = nI pl → (∀ i, i < 6 → σ2.2.1 18 (64 * b + 1 + i) = σ.2.1 10 i) → (∀ t, t < 36 → σ2.2.1 18 (64 * b + 7 + t) = σ.2.1 5 t) → Q σ2) : zq8_keeps σ Q := by
  unfold zq8_keeps
  have e20 : nI d = 20 ↔ d = 20 := nI_eq (b := 20) (by omega) (by decide)
  rw [h19, e20]
  refine ⟨fun q => e8_keeps_50 (by omega) h19 h8 (fun σ2 x2 a b c2 d2 e2 => h d 0 σ2 (Or.inl ⟨by omega, rfl, rfl⟩) x2 a (fun j hj => by rw [Nat.add_zero]; exact b j hj) c2 d2 e2), fun q => ?_⟩
  unfold zq8_keeps_12
  refine ⟨fun v σ2 => ∃ i, i ≤ 1216 ∧ v = nI (64 + i) ∧ (zx σ σ2 [] [18] ∧ (∀ j, j < i → σ2.2.1 18 j = σ.2.1 18 (j + 64)) ∧ ∀ j, i ≤ j → σ2.2.1 18 j = σ.2.1 18 j), fun v _ => 1280 - v.toNatClampNeg, ⟨0, by decide, rfl, zx.rf, fun j hj => absurd hj (Nat.not_lt_zero j), fun _ _ => rfl⟩, ?_⟩
  rintro v σ2 ⟨i, hi, rfl, hx, f1, f2⟩
  refine pk_le 1280 (64 + i) (fun z g20 h20 => ?_) (fun z => ?_)
  · have hi' : i = 1216 := by omega
    subst hi'
    have x20 : zx σ2 g20 [19] [] := by rw [h20]; exact zx.I 19 _ (by decide)
    have x0 : zx σ g20 [19] [18] := (hx.mono (by decide) (by decide)).tr (x20.mono (by decide) (by decide))
    have e19 : g20.1 19 = nI 19 := by
      rw [h20, zz_I1, if_pos rfl, hx.1 19 (by decide), h19, q]
      decide
    refine e8_keeps_50 (d := 19) (by decide) e19 ((x0.1 8 (by decide)).trans h8) (fun σ3 x3 a b c2 d2 e2 => h 19 64 σ3 (Or.inr ⟨q, rfl, rfl⟩) (x0.tr x3) a (fun j hj => ?_) c2 (fun i hi => ?_) (fun t ht => ?_))
    · rw [b j hj, x20.2.1 18 (by decide)]; exact f1 j (by omega)
    · rw [d2 i hi, x0.2.1 10 (by decide)]
    · rw [e2 t ht, x0.2.1 5 (by decide)]
  · have ci : (nI (64 + i)).toNatClampNeg = 64 + i := nI_clamp (by omega)
    have es : nI (64 + i) - 64 = nI i := by rw [show nI (64 + i) - 64 = nI (64 + i - 64) from pk_sub (b := 64) (by omega), Nat.add_sub_cancel_left]
    have cs : (nI i).toNatClampNeg = i := nI_clamp (by omega)
    rw [es, ci, cs]
    refine ⟨vp_in_nI (by omega) (by decide), vp_in_nI (by omega) (by decide), fun g21 h21 => ?_⟩
    have c1 : (nI (64 + i + 1)).toNatClampNeg = 64 + i + 1 := nI_clamp (by omega)
    refine ⟨⟨i + 1, by omega, nI_1 (64 + i), ?_, fun j hj => ?_, fun j hj => ?_⟩, ?_⟩
    · rw [h21]; exact hx.tr (zx.A 18 _ (by decide))
    · rw [h21, zz_A2, if_pos rfl]
      rcases Nat.lt_succ_iff_lt_or_eq.mp hj with y | y
      · rw [pk_un (by omega)]; exact f1 j y
      · rw [y, pk_us, f2 _ (by omega), Nat.add_comm]
    · rw [h21, zz_A2, if_pos rfl, pk_un (by omega)]
      exact f2 j (by omega)
    · show 1280 - (nI (64 + i) + 1).toNatClampNeg < 1280 - (nI (64 + i)).toNatClampNeg
      rw [nI_1, c1, ci]
      omega
end CH
