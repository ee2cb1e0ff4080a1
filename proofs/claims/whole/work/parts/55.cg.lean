/-! calls: image, on -/
section CG
variable {σ τ : zz_St}
theorem e6_copyFrom {Q : zz_St → Prop} {a b : Nat} (ha : a < 2) (hb : b < 2) (hne : ¬ a = b)
    (h : ∀ τ2, zx τ τ2 [2 + b, 4 + b, 6 + b, 8 + b, 10 + b] [14 + b, 16 + b] → (τ2.1 (2 + b) = τ.1 (2 + a) ∧ τ2.1 (4 + b) = τ.1 (4 + a) ∧ τ2.1 (6 + b) = τ.1 (6 + a) ∧ τ2.1 (8 + b) = τ.1 (8 + a) ∧ τ2.1 (10 + b) = τ.1 (10 + a)) → (∀ i, i < 36 → τ2.2.1 (14 + b) i = τ.2.1 (14 + a) i) → (∀ i, i < 36 → τ2.2.1 (16 + b) i = τ.2.1 (16 + a) i) → Q τ2) : zq6_copyFrom a b τ Q := by
  unfold zq6_copyFrom
  refine ⟨by decide, by decide, by decide, by decide, by decide, fun g8 h8 => ⟨by decide, by decide, by decide, by decide, by decide, fun g9 h9 g10 h10 g11 h11 g12 h12 g13 h13 g14 h14 => ?_⟩⟩
  have x8 : zx τ g8 [] [14 + b] := by rw [h8]; exact zx.A (14 + b) _ List.mem_cons_self
  have x9 : zx g8 g9 [] [16 + b] := by rw [h9]; exact zx.A (16 + b) _ List.mem_cons_self
  have x10 : zx g9 g10 [2 + b] [] := by rw [h10]; exact zx.I (2 + b) _ List.mem_cons_self
  have x11 : zx g10 g11 [4 + b] [] := by rw [h11]; exact zx.I (4 + b) _ List.mem_cons_self
  have x12 : zx g11 g12 [6 + b] [] := by rw [h12]; exact zx.I (6 + b) _ List.mem_cons_self
  have x13 : zx g12 g13 [8 + b] [] := by rw [h13]; exact zx.I (8 + b) _ List.mem_cons_self
  have x14 : zx g13 g14 [10 + b] [] := by rw [h14]; exact zx.I (10 + b) _ List.mem_cons_self
  have s1 : ∀ {z : Nat} {L : List Nat}, z ∈ L → ∀ k ∈ [z], k ∈ L := fun hz k hk => by rw [List.mem_singleton.mp hk]; exact hz
  have e0 : ∀ {L : List Nat}, ∀ k ∈ ([] : List Nat), k ∈ L := fun k hk => absurd hk List.not_mem_nil
  have ne : ∀ {p q : Nat}, p ≠ q → p ∉ [q] := fun hpq hm => hpq (List.mem_singleton.mp hm)
  have c9 : ∀ p, g9.1 p = τ.1 p := fun p => (x9.1 p List.not_mem_nil).trans (x8.1 p List.not_mem_nil)
  refine h g14 (((((((x8.mono e0 (s1 List.mem_cons_self)).tr (x9.mono e0 (s1 (by simp)))).tr (x10.mono (s1 (by simp)) e0)).tr (x11.mono (s1 (by simp)) e0)).tr (x12.mono (s1 (by simp)) e0)).tr (x13.mono (s1 (by simp)) e0)).tr (x14.mono (s1 (by simp)) e0)) ⟨?_, ?_, ?_, ?_, ?_⟩ (fun i hi => ?_) (fun i hi => ?_)
  · rw [x14.1 _ (ne (by omega)), x13.1 _ (ne (by omega)), x12.1 _ (ne (by omega)), x11.1 _ (ne (by omega)), h10, zz_I1, if_pos rfl, c9]
  · rw [x14.1 _ (ne (by omega)), x13.1 _ (ne (by omega)), x12.1 _ (ne (by omega)), h11, zz_I1, if_pos rfl, x10.1 _ (ne (by omega)), c9]
  · rw [x14.1 _ (ne (by omega)), x13.1 _ (ne (by omega)), h12, zz_I1, if_pos rfl, x11.1 _ (ne (by omega)), x10.1 _ (ne (by omega)), c9]
  · rw [x14.1 _ (ne (by omega)), h13, zz_I1, if_pos rfl, x12.1 _ (ne (by omega)), x11.1 _ (ne (by omega)), x10.1 _ (ne (by omega)), c9]
  · rw [h14, zz_I1, if_pos rfl, x13.1 _ (ne (by omega)), x12.1 _ (ne (by omega)), x11.1 _ (ne (by omega)), x10.1 _ (ne (by omega)), c9]
  · rw [x14.2.1 _ List.not_mem_nil, x13.2.1 _ List.not_mem_nil, x12.2.1 _ List.not_mem_nil, x11.2.1 _ List.not_mem_nil, x10.2.1 _ List.not_mem_nil, x9.2.1 _ (ne (by omega)), h8, zz_A2, if_pos rfl, zcp0 (N := 36) 36 (by decide), if_pos hi]
  · rw [x14.2.1 _ List.not_mem_nil, x13.2.1 _ List.not_mem_nil, x12.2.1 _ List.not_mem_nil, x11.2.1 _ List.not_mem_nil, x10.2.1 _ List.not_mem_nil, h9, zz_A2, if_pos rfl, zcp0 (N := 36) 36 (by decide), if_pos hi, x8.2.1 _ (ne (by omega))]
theorem e7_placeOr {Q : Int32 → Prop} {x : Nat} (hx : x < 2 ^ 31) (h : (τ.1 8 < 0 ∧ Q (-9)) ∨ (τ.1 8 = nI x ∧ Q (nI (x / 24)))) : zq7_placeOrNothing τ Q := by
  unfold zq7_placeOrNothing zq6_placeNow
  rcases h with ⟨a, b⟩ | ⟨a, b⟩
  · exact e6_none0 a (zYf n10 b)
  · refine e6_none1 hx a (zYt n00 ?_)
    rw [a, zs_div24 hx]
    exact b
theorem R_image (h : Rel σ τ) : zq7_image τ (fun a τ' => zq8_image σ (fun b σ' => RQ τ' a b σ')) := by
  obtain ⟨⟨r, c, k, h0⟩, hE⟩ := id h
  have hth : σ.1 9 = 0 ∨ σ.1 9 = 1 := h0.there.elim (fun z => Or.inl z.1) (fun z => Or.inr z.1)
  unfold zq7_image
  refine e6_copyFrom (a := 0) (b := 1) (by decide) (by decide) (by decide) (fun τ2 y2 hi ht hp g5 h5 => ?_)
  have y5 : zx τ2 g5 [0] [] := by rw [h5]; exact zx.I 0 _ (by decide)
  have y : zx τ g5 [0, 3, 5, 7, 9, 11] [15, 17] := (y2.mono (by decide) (by decide)).tr (y5.mono (by decide) (by decide))
  have M : ∀ a : Int32, (σ.1 9 = 0 → a = -9) → (σ.1 9 = 1 → a = σ.1 8) → zq8_image σ (fun b σ' => RQ g5 a b σ') := by
    intro a m0 m1
    unfold zq8_image zq8_image_65
    intro g20 h20
    have x20 : zx σ g20 [42] [] := by rw [h20]; exact zx.I 42 _ (by decide)
    refine ⟨by rw [x20.1 9 (by decide)]; exact hth, fun g21 h21 => ?_⟩
    have x21 : zx g20 g21 [43] [] := by rw [h21]; exact zx.I 43 _ (by decide)
    have v5 : ∀ n, n < 5 → vp_in (nI n) 5 := fun n hn => vp_in_nI hn (by decide)
    refine ⟨v5 0 (by decide), fun g22 h22 => ⟨v5 1 (by decide), fun g23 h23 => ⟨v5 2 (by decide), fun g24 h24 => ⟨v5 3 (by decide), fun g25 h25 => ⟨v5 4 (by decide), fun g26 h26 => ?_⟩⟩⟩⟩⟩
    have x22 : zx g21 g22 [] [44] := by rw [h22]; exact zx.A 44 _ (by decide)
    have x23 : zx g22 g23 [] [44] := by rw [h23]; exact zx.A 44 _ (by decide)
    have x24 : zx g23 g24 [] [44] := by rw [h24]; exact zx.A 44 _ (by decide)
    have x25 : zx g24 g25 [] [44] := by rw [h25]; exact zx.A 44 _ (by decide)
    have x26 : zx g25 g26 [] [44] := by rw [h26]; exact zx.A 44 _ (by decide)
    have x022 : zx σ g21 [42, 43] [] := (x20.mono (by decide) (by decide)).tr (x21.mono (by decide) (by decide))
    have e44 : g26.2.1 44 = upd (upd (upd (upd (upd (σ.2.1 44) 0 (σ.1 2)) 1 (σ.1 3)) 2 (σ.1 7)) 3 (σ.1 8)) 4 (σ.1 6) := by
      rw [h26, zz_A2, if_pos rfl, zt_4, h25, zz_A2, if_pos rfl, zt_3, zz_A1, h24, zz_A2, if_pos rfl, zt_2, zz_A1, h23, zz_A2, if_pos rfl, zt_1, zz_A1, h22, zz_A2, if_pos rfl, zt_0, zz_A1, x022.2.1 44 (by decide), x022.1 2 (by decide), x022.1 3 (by decide), x022.1 7 (by decide), x022.1 8 (by decide), x022.1 6 (by decide)]
    have x026 : zx σ g26 [42, 43] [44] := (((((x022.mono (by decide) (by decide)).tr (x22.mono (by decide) (by decide))).tr (x23.mono (by decide) (by decide))).tr (x24.mono (by decide) (by decide))).tr (x25.mono (by decide) (by decide))).tr (x26.mono (by decide) (by decide))
    have e42 : g26.1 42 = 1 := by rw [x26.1 42 (by decide), x25.1 42 (by decide), x24.1 42 (by decide), x23.1 42 (by decide), x22.1 42 (by decide), x21.1 42 (by decide), h20, zz_I1, if_pos rfl]
    have e43 : g26.1 43 = σ.1 9 := by rw [x26.1 43 (by decide), x25.1 43 (by decide), x24.1 43 (by decide), x23.1 43 (by decide), x22.1 43 (by decide), h21, zz_I1, if_pos rfl, x20.1 9 (by decide)]
    refine zl_copy (src := 10) (dst := 45) (N := 6) (by decide) (by decide) (fun σ3 x3 hc3 _ => ?_)
    unfold zq8_image_91
    refine zl_copy2 (s1 := 4) (d1 := 46) (s2 := 5) (d2 := 47) (N := 36) (by decide) (by decide) (fun σ4 x4 hc4 hd4 => ?_)
    have xx : zx σ σ4 [42, 43] [44, 45, 46, 47] := ((x026.mono (by decide) (by decide)).tr (x3.mono (by decide) (by decide))).tr (x4.mono (by decide) (by decide))
    have rel : Rel σ4 g5 := by
      have k42 : σ4.1 42 = 1 := by rw [x4.1 42 (by decide), x3.1 42 (by decide)]; exact e42
      have k43 : σ4.1 43 = σ.1 9 := by rw [x4.1 43 (by decide), x3.1 43 (by decide)]; exact e43
      have k44 : σ4.2.1 44 = upd (upd (upd (upd (upd (σ.2.1 44) 0 (σ.1 2)) 1 (σ.1 3)) 2 (σ.1 7)) 3 (σ.1 8)) 4 (σ.1 6) := by rw [x4.2.1 44 (by decide), x3.2.1 44 (by decide)]; exact e44
      refine h.ri xx.y y.y ⟨?_, Or.inr ⟨k42, r, c, k, ?_, ?_, ?_⟩⟩
      · rw [k42, h5, zz_I1, if_pos rfl]
      · rw [k44]
        exact ⟨h0.1.1, h0.1.2.1, h0.1.2.2⟩
      · rw [y5.1 3 (by decide), y5.1 5 (by decide), y5.1 7 (by decide)]
        exact ⟨hi.1.trans h0.2.1.1, hi.2.1.trans h0.2.1.2.1, hi.2.2.1.trans h0.2.1.2.2⟩
      · rw [k43, k44, y5.1 9 (by decide), y5.1 11 (by decide), y5.2.1 15 (by decide), y5.2.1 17 (by decide), show τ2.1 9 = τ.1 8 from hi.2.2.2.1, show τ2.1 11 = τ.1 10 from hi.2.2.2.2]
        refine WR.congr (h0.2.2.1 : WR r c k (σ.1 9) (σ.1 8) (σ.1 6) (τ.1 8) (τ.1 10) (σ.2.1 10) (σ.2.1 4) (σ.2.1 5) (τ.2.1 14) (τ.2.1 16)) (fun i hi6 => ?_) (fun i hi6 => ?_) (fun i hi6 => ?_) ht hp
        · rw [x4.2.1 45 (by decide), hc3 i hi6, x026.2.1 10 (by decide)]
        · rw [hc4 i hi6, x3.2.1 4 (by decide), x026.2.1 4 (by decide)]
        · rw [hd4 i hi6, x3.2.1 5 (by decide), x026.2.1 5 (by decide)]
    rw [xx.1 9 (by decide), xx.1 8 (by decide)]
    exact ⟨fun z => ⟨m0 z, rel⟩, fun z => ⟨m1 (hth.resolve_left z), rel⟩⟩
  rcases h0.there with ⟨z1, z2⟩ | ⟨z1, x, hV, hF, z2⟩
  · exact e7_placeOr (x := 0) (by decide) (Or.inl ⟨by rw [y.1 8 (by decide)]; exact z2, M _ (fun _ => rfl) (fun z => by rw [z] at z1; exact absurd z1 n10)⟩)
  · have hx := zs_V_lt h0.dim hV
    exact e7_placeOr (x := x) (by omega) (Or.inr ⟨by rw [y.1 8 (by decide)]; exact z2, M _ (fun z => by rw [z] at z1; exact absurd z1.symm n10) (fun _ => hF.1.symm)⟩)
theorem R_on (h : Rel σ τ) : zq7_on τ (fun a τ' => zq8_on σ (fun b σ' => RQ τ' a b σ')) := by
  obtain ⟨⟨r, c, k, h0⟩, hL, hS, hK, hF, hI, hT⟩ := id h
  obtain ⟨i0, i1⟩ := hI
  unfold zq7_on zq8_on
  rcases i1 with z | ⟨z, r', c', k', ⟨a0, a1, a2⟩, ⟨b0, b1, b2⟩, hW⟩
  · exact zNt (by rw [← i0]; exact z) (e7_refuse 3 (by decide) (by decide) (zNt z (RQ.no8 h 3 (by decide) (by decide) (by decide))))
  · have zn : ¬ σ.1 42 = 0 := by rw [z]; decide
    refine zNf (by rw [← i0]; exact zn) ?_
    refine e6_copyFrom (a := 1) (b := 0) (by decide) (by decide) (by decide) (fun τ2 y2 hi ht hp => ?_)
    unfold zq0_forget
    intro g9 h9
    have y9 : zx τ2 g9 [15] [] := by rw [h9]; exact zx.I 15 _ (by decide)
    have y : zx τ g9 [2, 4, 6, 8, 10, 15] [14, 16] := (y2.mono (by decide) (by decide)).tr (y9.mono (by decide) (by decide))
    have hth : σ.1 43 = 0 ∨ σ.1 43 = 1 := hW.2.2.2.2.elim (fun z => Or.inl z.1) (fun z => Or.inr z.1)
    have M : ∀ a : Int32, (σ.1 43 = 0 → a = -9) → (σ.1 43 = 1 → a = σ.2.1 44 3) → ((¬ σ.1 42 = 0) → ((σ.1 43 = 0 ∨ σ.1 43 = 1) ∧ ∀ g25 : zz_St, g25 = zz_I σ 9 ((σ).1 43) → vp_in (0 : Int32) 5 ∧ ∀ g26 : zz_St, g26 = zz_I g25 2 (g25.2.1 44 (0 : Int32).toNatClampNeg) → vp_in (1 : Int32) 5 ∧ ∀ g27 : zz_St, g27 = zz_I g26 3 (g26.2.1 44 (1 : Int32).toNatClampNeg) → vp_in (2 : Int32) 5 ∧ ∀ g28 : zz_St, g28 = zz_I g27 7 (g27.2.1 44 (2 : Int32).toNatClampNeg) → vp_in (3 : Int32) 5 ∧ ∀ g29 : zz_St, g29 = zz_I g28 8 (g28.2.1 44 (3 : Int32).toNatClampNeg) → vp_in (4 : Int32) 5 ∧ ∀ g30 : zz_St, g30 = zz_I g29 6 (g29.2.1 44 (4 : Int32).toNatClampNeg) → zq8_on_74 (0 : Int32) g30 (fun b σ' => RQ g9 a b σ'))) ∧ (((σ).1 42) = 0 → zq8_no (-3 : Int32) σ (fun r31 g32 => RQ g9 a r31 g32)) := by
      intro a m0 m1
      refine zNf zn ⟨hth, fun g25 h25 => ?_⟩
      have v5 : ∀ n, n < 5 → vp_in (nI n) 5 := fun n hn => vp_in_nI hn (by decide)
      refine ⟨v5 0 (by decide), fun g26 h26 => ⟨v5 1 (by decide), fun g27 h27 => ⟨v5 2 (by decide), fun g28 h28 => ⟨v5 3 (by decide), fun g29 h29 => ⟨v5 4 (by decide), fun g30 h30 => ?_⟩⟩⟩⟩⟩
      have x25 : zx σ g25 [9] [] := by rw [h25]; exact zx.I 9 _ (by decide)
      have x26 : zx g25 g26 [2] [] := by rw [h26]; exact zx.I 2 _ (by decide)
      have x27 : zx g26 g27 [3] [] := by rw [h27]; exact zx.I 3 _ (by decide)
      have x28 : zx g27 g28 [7] [] := by rw [h28]; exact zx.I 7 _ (by decide)
      have x29 : zx g28 g29 [8] [] := by rw [h29]; exact zx.I 8 _ (by decide)
      have x30 : zx g29 g30 [6] [] := by rw [h30]; exact zx.I 6 _ (by decide)
      have e25 : g25.2.1 44 = σ.2.1 44 := x25.2.1 44 (by decide)
      have e26 : g26.2.1 44 = σ.2.1 44 := (x26.2.1 44 (by decide)).trans e25
      have e27 : g27.2.1 44 = σ.2.1 44 := (x27.2.1 44 (by decide)).trans e26
      have e28 : g28.2.1 44 = σ.2.1 44 := (x28.2.1 44 (by decide)).trans e27
      have e29 : g29.2.1 44 = σ.2.1 44 := (x29.2.1 44 (by decide)).trans e28
      have k9 : g30.1 9 = σ.1 43 := by rw [x30.1 9 (by decide), x29.1 9 (by decide), x28.1 9 (by decide), x27.1 9 (by decide), x26.1 9 (by decide), h25, zz_I1, if_pos rfl]
      have k2 : g30.1 2 = σ.2.1 44 0 := by rw [x30.1 2 (by decide), x29.1 2 (by decide), x28.1 2 (by decide), x27.1 2 (by decide), h26, zz_I1, if_pos rfl, e25, zt_0]
      have k3 : g30.1 3 = σ.2.1 44 1 := by rw [x30.1 3 (by decide), x29.1 3 (by decide), x28.1 3 (by decide), h27, zz_I1, if_pos rfl, e26, zt_1]
      have k7 : g30.1 7 = σ.2.1 44 2 := by rw [x30.1 7 (by decide), x29.1 7 (by decide), h28, zz_I1, if_pos rfl, e27, zt_2]
      have k8 : g30.1 8 = σ.2.1 44 3 := by rw [x30.1 8 (by decide), h29, zz_I1, if_pos rfl, e28, zt_3]
      have k6 : g30.1 6 = σ.2.1 44 4 := by rw [h30, zz_I1, if_pos rfl, e29, zt_4]
      have x030 : zx σ g30 [2, 3, 6, 7, 8, 9] [] := ((((((x25.mono (by decide) (by decide)).tr (x26.mono (by decide) (by decide))).tr (x27.mono (by decide) (by decide))).tr (x28.mono (by decide) (by decide))).tr (x29.mono (by decide) (by decide))).tr (x30.mono (by decide) (by decide)))
      unfold zq8_on_74
      refine zl_copy (src := 45) (dst := 10) (N := 6) (by decide) (by decide) (fun σ3 x3 hc3 _ => ?_)
      unfold zq8_on_100
      refine zl_copy2 (s1 := 46) (d1 := 4) (s2 := 47) (d2 := 5) (N := 36) (by decide) (by decide) (fun σ4 x4 hc4 hd4 => fun g18 h18 => ?_)
      have x18 : zx σ4 g18 [19] [] := by rw [h18]; exact zx.I 19 _ (by decide)
      have x34 : zx g30 g18 [19] [4, 5, 10] := ((x3.mono (by decide) (by decide)).tr (x4.mono (by decide) (by decide))).tr (x18.mono (by decide) (by decide))
      have xx : zx σ g18 [2, 3, 6, 7, 8, 9, 19] [4, 5, 10] := (x030.mono (by decide) (by decide)).tr (x34.mono (by decide) (by decide))
      have rel : Rel g18 g9 := by
        obtain ⟨d, nx, _, hnx, _, _, hnx2, _⟩ := h0.2.2.2
        refine h.r0 (r := r') (c := c') (k := k') xx.y y.y (by decide) ⟨⟨?_, ?_, ?_⟩, ⟨?_, ?_, ?_⟩, ?_, RH.none (nx := nx) ?_ ?_ ?_ hnx⟩
        · rw [x34.1 2 (by decide), k2]; exact a0
        · rw [x34.1 3 (by decide), k3]; exact a1
        · rw [x34.1 7 (by decide), k7]; exact a2
        · rw [y9.1 2 (by decide)]; exact hi.1.trans b0
        · rw [y9.1 4 (by decide)]; exact hi.2.1.trans b1
        · rw [y9.1 6 (by decide)]; exact hi.2.2.1.trans b2
        · unfold RW
          rw [x34.1 9 (by decide), x34.1 8 (by decide), x34.1 6 (by decide), k9, k8, k6, y9.1 8 (by decide), y9.1 10 (by decide), y9.2.1 14 (by decide), y9.2.1 16 (by decide), show τ2.1 8 = τ.1 9 from hi.2.2.2.1, show τ2.1 10 = τ.1 11 from hi.2.2.2.2]
          refine WR.congr hW (fun i hi6 => ?_) (fun i hi6 => ?_) (fun i hi6 => ?_) ht hp
          · rw [x18.2.1 10 (by decide), x4.2.1 10 (by decide), hc3 i hi6, x030.2.1 45 (by decide)]
          · rw [x18.2.1 4 (by decide), hc4 i hi6, x3.2.1 46 (by decide), x030.2.1 46 (by decide)]
          · rw [x18.2.1 5 (by decide), hd4 i hi6, x3.2.1 47 (by decide), x030.2.1 47 (by decide)]
        · rw [h18, zz_I1, if_pos rfl]
        · rw [h9, zz_I1, if_pos rfl]
        · rw [y.1 14 (by decide)]; exact hnx2
      rw [x34.1 9 (by decide), x34.1 8 (by decide), k9, k8]
      exact ⟨fun z => ⟨m0 z, rel⟩, fun z => ⟨m1 (hth.resolve_left z), rel⟩⟩
    rcases hW.2.2.2.2 with ⟨z1, z2⟩ | ⟨z1, x, hV, z3, _, z4⟩
    · exact e7_placeOr (x := 0) (by decide) (Or.inl ⟨by rw [y9.1 8 (by decide), show τ2.1 8 = τ.1 9 from hi.2.2.2.1]; exact z2, M _ (fun _ => rfl) (fun z => by rw [z] at z1; exact absurd z1 n10)⟩)
    · have hx := zs_V_lt hW.1 hV
      exact e7_placeOr (x := x) (by omega) (Or.inr ⟨by rw [y9.1 8 (by decide), show τ2.1 8 = τ.1 9 from hi.2.2.2.1]; exact z4, M _ (fun z => by rw [z] at z1; exact absurd z1.symm n10) (fun _ => z3.symm)⟩)
end CG
