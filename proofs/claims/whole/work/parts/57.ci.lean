/-! a roll, truly: the reference; the two agree -/
section CI
variable {σ τ : zz_St} {r c k : Nat} {tl pr : Nat → Int32}
theorem e8_rt_122 {Q : Int32 → zz_St → Prop} {y : Nat} (hB : MB σ r c k tl pr) (hd : zs_dim r c k) (hV : zs_V r c k y) (hF : MF σ (zs_te k) (y / 24) (y % 24)) (hu : MU2 σ c k y)
    (h : ∀ σ', zx σ σ' [] [5] → (∀ j, j < 36 → σ'.2.1 5 j = if σ.1 6 = 1 then (if (zs_um c k y).testBit j then nI (zs_bel (zs_te k) (y % 24)) else pr j) else pr j) → Q 1 σ') : zq8_rollsTruly_122 0 σ Q := by
  have hrc := zs_rc hd.2.1 hd.2.2.2.1
  have a0 := zs_t0_lt hd hV
  have key : ∀ n (u : Nat → Nat), n ≤ 2 → σ.1 12 = nI n → (∀ i, i < n → σ.2.1 11 i = nI (u i) ∧ u i < 36) → (∀ j, (∃ m, m < n ∧ j = u m) ↔ (zs_um c k y).testBit j = true) → zq8_rollsTruly_122 0 σ Q := by
    intro n u hn hm hui hbit
    unfold zq8_rollsTruly_122
    by_cases ink : σ.1 6 = 1
    · refine ⟨fun v σ2 => ∃ i, i ≤ n ∧ v = nI i ∧ (zx σ σ2 [] [5] ∧ ∀ j, ((∃ m, m < i ∧ j = u m) → σ2.2.1 5 j = nI (zs_bel (zs_te k) (y % 24))) ∧ ((¬ ∃ m, m < i ∧ j = u m) → σ2.2.1 5 j = pr j)), fun v _ => n - v.toNatClampNeg, ⟨0, Nat.zero_le _, rfl, zx.rf, fun j => ⟨fun ⟨m, h, _⟩ => absurd h (Nat.not_lt_zero m), fun _ => by rw [hB.2.2.2.2]⟩⟩, ?_⟩
      rintro v σ2 ⟨i, hi, rfl, hx, hp⟩
      rw [hx.1 12 (by decide), hm, hx.1 6 (by decide)]
      refine pk_le n i (fun q => ?_) (fun q => zNt ink ?_)
      · have hin : i = n := by omega
        subst hin
        refine h σ2 hx (fun j hj => ?_)
        rw [if_pos ink]
        by_cases z : (zs_um c k y).testBit j = true
        · rw [if_pos z]; exact (hp j).1 ((hbit j).mpr z)
        · rw [if_neg z]; exact (hp j).2 (fun w => z ((hbit j).mp w))
      · obtain ⟨hu1, hu2⟩ := hui i q
        have ci : (nI i).toNatClampNeg = i := nI_clamp (by omega)
        have cu : (nI (u i)).toNatClampNeg = u i := nI_clamp (by omega)
        have hB2 : MB σ2 r c k tl (σ2.2.1 5) := ⟨(hx.1 2 (by decide)).trans hB.1, (hx.1 3 (by decide)).trans hB.2.1, (hx.1 7 (by decide)).trans hB.2.2.1, (hx.2.1 4 (by decide)).trans hB.2.2.2.1, rfl⟩
        refine ⟨vp_in_nI (by omega) (by decide), e8_below hB2 hd (hF.x hx (by decide)) ?_⟩
        rw [ci, hx.2.1 11 (by decide), hu1, cu]
        refine ⟨vp_in_nI hu2 (by decide), fun g hg => zl_leaf (J := fun i σ2 => zx σ σ2 [] [5] ∧ ∀ j, ((∃ m, m < i ∧ j = u m) → σ2.2.1 5 j = nI (zs_bel (zs_te k) (y % 24))) ∧ ((¬ ∃ m, m < i ∧ j = u m) → σ2.2.1 5 j = pr j)) q (by omega) ⟨?_, fun j => ⟨fun w => ?_, fun w => ?_⟩⟩⟩
        · rw [hg]; exact hx.tr (zx.A 5 _ (by decide))
        · rw [hg, zz_A2, if_pos rfl]
          by_cases z : j = u i
          · rw [z, pk_us]
          · rw [pk_un z]
            obtain ⟨m, m1, m2⟩ := w
            have : m < i := by
              rcases Nat.lt_succ_iff_lt_or_eq.mp m1 with y | y
              · exact y
              · rw [y] at m2; exact absurd m2 z
            exact (hp j).1 ⟨m, this, m2⟩
        · rw [hg, zz_A2, if_pos rfl, pk_un (fun z => w ⟨i, Nat.lt_succ_self i, z⟩)]
          exact (hp j).2 (fun ⟨m, m1, m2⟩ => w ⟨m, by omega, m2⟩)
    · refine ⟨fun v σ2 => v = 0 ∧ σ2 = σ, fun _ _ => 0, ⟨rfl, rfl⟩, ?_⟩
      rintro v σ2 ⟨rfl, rfl⟩
      have e := h σ2 zx.rf (fun j hj => by rw [if_neg ink, hB.2.2.2.2])
      exact ⟨fun _ => e, fun _ => zNf ink e⟩
  by_cases hl : zs_lie k (y % 24) = 0
  · refine key 1 (fun _ => zs_t0 k y) (by decide) (hu.2.1 hl) (fun i hi => ?_) (fun j => ?_)
    · have : i = 0 := by omega
      rw [this]; exact ⟨hu.1, by omega⟩
    · rw [zs_um_bit]
      exact ⟨fun ⟨m, _, e⟩ => Or.inl e, fun z => ⟨0, by decide, z.elim (fun w => w) (fun w => absurd hl w.1)⟩⟩
  · have a1 := zs_t1_lt hd hV hl
    refine key 2 (fun i => if i = 0 then zs_t0 k y else zs_t1 c k y) (by decide) (hu.2.2 hl).1 (fun i hi => ?_) (fun j => ?_)
    · by_cases e : i = 0
      · rw [e]; exact ⟨hu.1, by rw [if_pos rfl]; omega⟩
      · have : i = 1 := by omega
        rw [this]; exact ⟨(hu.2.2 hl).2, by rw [if_neg (by decide)]; omega⟩
    · rw [zs_um_bit]
      constructor
      · rintro ⟨m, _, e⟩
        by_cases z : m = 0
        · rw [if_pos z] at e; exact Or.inl e
        · rw [if_neg z] at e; exact Or.inr ⟨hl, e⟩
      · rintro (z | ⟨_, z⟩)
        · exact ⟨0, by decide, z⟩
        · exact ⟨1, by decide, z⟩
/-- the reference has rolled as the class -/
theorem R0.push {σ' τ' : zz_St} {x y b o d : Nat} (h0 : R0 r c k σ τ) (hth : σ.1 9 = 1) (hV : zs_V r c k x) (hVy : zs_V r c k y) (hF : MF σ (zs_te k) (x / 24) (x % 24)) (hC : CS r c k x y τ τ') (h19 : σ.1 19 = nI d) (hd20 : d ≤ 20) (hbo : (d < 20 ∧ b = d ∧ o = 0) ∨ (d = 20 ∧ b = 19 ∧ o = 64))
    (hx : zx σ σ' [8, 12, 19, 20] [5, 10, 11, 13, 18, 21]) (k19 : σ'.1 19 = nI (b + 1)) (kj : ∀ j, j < 64 * b → σ'.2.1 18 j = σ.2.1 18 (j + o)) (kp : σ'.2.1 18 (64 * b) = nI (x / 24)) (kf : ∀ i, i < 6 → σ'.2.1 18 (64 * b + 1 + i) = nI (zs_FA (zs_te k) (x % 24) i)) (kt : ∀ t, t < 36 → σ'.2.1 18 (64 * b + 7 + t) = σ.2.1 5 t)
    (hFy : MF σ' (zs_te k) (y / 24) (y % 24)) (hp : ∀ j, j < 36 → σ'.2.1 5 j = if σ.1 6 = 1 then (if (zs_um c k y).testBit j then nI (zs_bel (zs_te k) (y % 24)) else σ.2.1 5 j) else σ.2.1 5 j) : R0 r c k σ' τ' := by
  have hd := h0.dim
  obtain ⟨d', nx, c1, c2, c3, c4, cx, c8, c14, c15, c26, c27, c16⟩ := hC
  obtain ⟨d2, nx2, a1, a2, a3, a4, a5, a6, a7⟩ := h0.2.2.2
  have e1 : d' = d2 := (nI_eq (by omega) (by omega)).mp (c3.symm.trans a4)
  have e2 : nx = nx2 := (nI_eq (by omega) (by omega)).mp (c4.symm.trans a5)
  have e3 : d = d2 := (nI_eq (by omega) (by omega)).mp (h19.symm.trans a3)
  subst e1; subst e2; subst e3
  have hsy : y % 24 < zs_ns (zs_te k) := hVy.2.1
  refine ⟨h0.1.x hx.y (by decide), h0.2.1.x cx.y (by decide), ?_, b + 1, (nx + 1) % 20, by omega, Nat.mod_lt _ (by decide), ?_, ?_, c14, Or.inr ((hx.1 9 (by decide)).trans hth), fun j hj => ?_⟩
  · obtain ⟨w1, w2, w3, w4, w5⟩ := h0.2.2.1
    unfold RW
    rw [hx.1 9 (by decide), hx.1 6 (by decide), cx.1 10 (by decide), hx.2.1 4 (by decide), cx.2.1 14 (by decide)]
    refine ⟨w1, w2, fun i hi => ?_, w4, Or.inr ⟨hth, y, hVy, hFy.1, hFy.2, c8⟩⟩
    rw [hp i hi, c16 i hi, w4, (w3 i hi).1]
    refine ⟨rfl, ?_⟩
    have hb := zs_bel_lt _ _ hsy
    have hold : τ.2.1 16 i = -1 ∨ 0 ≤ τ.2.1 16 i := by rw [← (w3 i hi).1]; exact (w3 i hi).2
    split
    · split
      · exact Or.inr (nI_pos' (by omega))
      · exact hold
    · exact hold
  · exact k19
  · rw [c15]; congr 1
    omega
  · by_cases hjb : j = b
    · subst hjb
      refine ⟨x, hV, kp, kf, ?_, fun t ht => ?_⟩
      · have hidx : ((nx + 1) % 20 + 20 - (j + 1) + j) % 20 = nx := by omega
        rw [hidx, c26, pk_us]
      · have hidx : ((nx + 1) % 20 + 20 - (j + 1) + j) % 20 = nx := by omega
        rw [hidx, kt t ht, c27, if_pos (by omega), show 36 * nx + t - 36 * nx = t from by omega]
        exact h0.2.2.1.2.2.1 t ht
    · have hjlt : j < b := by omega
      obtain ⟨j0, hj0, hj0d, hji⟩ : ∃ j0, 64 * j0 = 64 * j + o ∧ j0 < d ∧ ((nx + 1) % 20 + 20 - (b + 1) + j) % 20 = (nx + 20 - d + j0) % 20 := by
        rcases hbo with ⟨z1, z2, z3⟩ | ⟨z1, z2, z3⟩
        · exact ⟨j, by omega, by omega, by omega⟩
        · exact ⟨j + 1, by omega, by omega, by omega⟩
      obtain ⟨x', v1, v2, v3, v4, v5⟩ := a7 j0 hj0d
      have hne : (nx + 20 - d + j0) % 20 ≠ nx := by omega
      rw [hji]
      generalize (nx + 20 - d + j0) % 20 = q at *
      refine ⟨x', v1, ?_, fun i hi => ?_, ?_, fun t ht => ?_⟩
      · rw [kj _ (by omega), ← hj0]; exact v2
      · rw [kj _ (by omega), show 64 * j + 1 + i + o = 64 * j0 + 1 + i from by omega]; exact v3 i hi
      · rw [c26, pk_un hne]; exact v4
      · rw [kj _ (by omega), show 64 * j + 7 + t + o = 64 * j0 + 7 + t from by omega, c27, if_neg (by omega)]
        exact v5 t ht
theorem e8_rollsTruly {Q : Int32 → zz_St → Prop} {x w : Nat} (h0 : R0 r c k σ τ) (hE : RE σ τ) (hth : σ.1 9 = 1) (hV : zs_V r c k x) (hF : MF σ (zs_te k) (x / 24) (x % 24)) (h8 : τ.1 8 = nI x) (hw : w < 4)
    (h1 : ∀ y σ', zs_st r c k (τ.2.1 14) (τ.2.1 16) x w = some y → zs_V r c k y → MF σ' (zs_te k) (y / 24) (y % 24) → σ'.1 9 = 1 → (∀ τ', CS r c k x y τ τ' → R0 r c k σ' τ' ∧ RE σ' τ') → Q 1 σ')
    (hn : zs_st r c k (τ.2.1 14) (τ.2.1 16) x w = none → ∀ σ', R0 r c k σ' τ → RE σ' τ → MF σ' (zs_te k) (x / 24) (x % 24) → Q 0 σ') : zq8_rollsTruly (nI w) σ Q := by
  have hd := h0.dim
  obtain ⟨hp, hss, hp72⟩ := zs_V_dm hd hV
  have hcode : 24 * (x / 24) + x % 24 = x := Nat.div_add_mod _ _
  have hs24 : x % 24 < 24 := Nat.mod_lt _ (by decide)
  rw [h0.st] at h1 hn
  unfold zq8_rollsTruly
  refine e8_keeps1 hF (fun g36 x36 hK => ?_)
  refine e8_rolls (h0.mb.x x36 (by decide)) hd h0.pr hw (hF.x x36 (by decide)) hp hss (fun pl2 s2 hroll σ3 x3 hF3 => zNf n10 (fun x40 e40 => ?_)) (fun hroll σ3 x3 hF3 => zNt n00 ?_)
  · have hst : zs_st r c k (σ.2.1 4) (σ.2.1 5) x w = some (24 * pl2 + s2) := by
      have := zs_st_some hs24 hroll
      rw [hcode] at this
      exact this
    have hVy := zs_st_V hV hw hst
    have hsl : s2 < 24 := Nat.lt_of_lt_of_le (zs_roll_ok hss hw hroll).2.1 (zs_ns_le _)
    generalize hy : 24 * pl2 + s2 = y at *
    have ey1 : pl2 = y / 24 := by omega
    have ey2 : s2 = y % 24 := by omega
    subst ey1; subst ey2
    obtain ⟨d, nx, hd20, _, h19, _, _, _, _⟩ := h0.2.2.2
    have y3 : zx σ σ3 [8, 12, 19, 20] [5, 10, 11, 13, 18, 21] := (x36.mono (by decide) (by decide)).tr (x3.mono (by decide) (by decide))
    have z3 : zx σ σ3 [8, 12, 20] [10, 11, 13, 21] := (x36.mono (by decide) (by decide)).tr (x3.mono (by decide) (by decide))
    have K3 := hK.x x3 (by decide)
    unfold zq8_rollsTruly_21
    refine zl_copy (src := 10) (dst := 13) (N := 6) (by decide) (by decide) (fun σ4 x4 hc4 _ g34 h34 => ?_)
    have x34 : zx σ4 g34 [8] [] := by rw [h34]; exact zx.I 8 _ (by decide)
    have K4 := K3.x x4 (by decide)
    have e34 : g34.1 8 = nI (x / 24) := by rw [h34, zz_I1, if_pos rfl]; exact K4.1
    unfold zq8_rollsTruly_55
    refine zl_copy (src := 21) (dst := 10) (N := 6) (by decide) (by decide) (fun σ5 x5 hc5 _ => ?_)
    have z5 : zx σ σ5 [8, 12, 20] [10, 11, 13, 21] := ((z3.tr (x4.mono (by decide) (by decide))).tr (x34.mono (by decide) (by decide))).tr (x5.mono (by decide) (by decide))
    have f5 : ∀ i, i < 6 → σ5.2.1 10 i = nI (zs_FA (zs_te k) (x % 24) i) := fun i hi => by
      rw [hc5 i hi, x34.2.1 21 (by decide)]; exact K4.2 i hi
    refine e8_keeps hd20 ((z5.1 19 (by decide)).trans h19) ((x5.1 8 (by decide)).trans e34) (fun b o σ6 hbo x6 k19 kj kp kf kt g31 h31 => ?_)
    have x31 : zx σ6 g31 [8] [] := by rw [h31]; exact zx.I 8 _ (by decide)
    unfold zq8_rollsTruly_90
    refine zl_copy (src := 13) (dst := 10) (N := 6) (by decide) (by decide) (fun σ7 x7 hc7 _ => ?_)
    have x67 : zx σ6 σ7 [8] [10] := (x31.mono (by decide) (by decide)).tr (x7.mono (by decide) (by decide))
    have z7 : zx σ σ7 [8, 12, 19, 20] [10, 11, 13, 18, 21] := ((z5.mono (by decide) (by decide)).tr (x6.mono (by decide) (by decide))).tr (x67.mono (by decide) (by decide))
    have F7 : MF σ7 (zs_te k) (y / 24) (y % 24) := by
      refine ⟨?_, fun i hi => ?_⟩
      · rw [x7.1 8 (by decide), h31, zz_I1, if_pos rfl, e40]; exact hF3.1
      · rw [hc7 i hi, x31.2.1 13 (by decide), x6.2.1 13 (by decide), x5.2.1 13 (by decide), x34.2.1 13 (by decide), hc4 i hi]; exact hF3.2 i hi
    have hB7 : MB σ7 r c k (σ.2.1 4) (σ.2.1 5) := h0.mb.x z7 (by decide)
    refine e8_under hB7 hd hVy F7 (fun σ8 x8 hu => ?_)
    refine e8_rt_122 (hB7.x x8 (by decide)) hd hVy (F7.x x8 (by decide)) hu (fun σ9 x9 hp9 => ?_)
    have x79 : zx σ7 σ9 [12] [5, 11] := (x8.mono (by decide) (by decide)).tr (x9.mono (by decide) (by decide))
    have z9 : zx σ σ9 [8, 12, 19, 20] [5, 10, 11, 13, 18, 21] := (z7.mono (by decide) (by decide)).tr (x79.mono (by decide) (by decide))
    have F9 : MF σ9 (zs_te k) (y / 24) (y % 24) := F7.x x79 (by decide)
    refine h1 y σ9 hst hVy F9 ((z9.1 9 (by decide)).trans hth) (fun τ' hC => ⟨?_, ?_⟩)
    · have e18 : σ9.2.1 18 = σ6.2.1 18 := by rw [x79.2.1 18 (by decide), x67.2.1 18 (by decide)]
      refine h0.push (b := b) (o := o) (d := d) hth hV hVy hF hC h19 hd20 hbo z9 ?_ (fun j hj => ?_) ?_ (fun i hi => ?_) (fun t ht => ?_) F9 (fun j hj => ?_)
      · rw [x79.1 19 (by decide), x67.1 19 (by decide)]; exact k19
      · rw [e18, kj j hj, z5.2.1 18 (by decide)]
      · rw [e18]; exact kp
      · rw [e18, kf i hi]; exact f5 i hi
      · rw [e18, kt t ht, z5.2.1 5 (by decide)]
      · rw [hp9 j hj, x8.1 6 (by decide), z7.1 6 (by decide)]
    · obtain ⟨_, _, _, _, _, _, cx, _⟩ := hC
      exact hE.x z9.y cx.y (by decide)
  · have z3 : zx σ σ3 [8, 12, 20] [10, 11, 13, 21] := (x36.mono (by decide) (by decide)).tr (x3.mono (by decide) (by decide))
    have hst : zs_st r c k (σ.2.1 4) (σ.2.1 5) x w = none := by
      have := zs_st_none hs24 hroll
      rw [hcode] at this
      exact this
    exact hn hst σ3 (h0.mv hth hV z3.y zy.rf (ks' := []) (js' := []) (by decide) hF3 h8) (hE.x z3.y zy.rf (ks' := []) (js' := []) (by decide)) hF3
end CI
