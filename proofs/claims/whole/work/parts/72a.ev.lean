/-! call: reached; the class: each roll changes the parity of the fewest rolls -/
section EV
variable {τ : zz_St} {r c k x0 : Nat} {tl pr : Nat → Int32}
theorem bfx_par (hV : zs_V r c k x0) : ∀ (i : Nat) (e : Nat × Nat × Nat), (bfx r c k tl pr x0)[i]? = some e → zs_pp k x0 e.1 = e.2.2 % 2 := by
  intro i
  induction i using Nat.strongRecOn with
  | ind i ih =>
    intro e he
    rcases Nat.eq_zero_or_pos i with q | q
    · subst q
      have h0 : (bfx r c k tl pr x0)[0]? = some (x0, 0, 0) := bf_0 _
      rw [h0] at he
      cases he
      exact zs_pp_0 k x0
    · obtain ⟨_, _, a3, p, a4, a5, a6, _⟩ := bf_ent 3600 i e he q
      have h1 := ih _ a3 p a4
      have h2 := zs_pp_st (x0 := x0) (bfx_V hV a4) (Nat.mod_lt _ (by decide)) a5
      rw [h2, h1, a6]
      omega
theorem zn_even {a b : Nat} (h : b ≤ a + 1) (ha : a ≤ 900) (hp : (a + 1) % 2 = b % 2) : nI a + 1 - nI b - (nI a + 1 - nI b) / 2 * 2 = 0 := by
  rw [nI_1, pk_sub h, zs_r2 (by omega), show (a + 1 - b) % 2 = 0 from by omega]
  rfl
theorem e4_hasEven {Q : Int32 → zz_St → Prop} (hB : CB τ r c k tl pr) (hT : CT τ) (hd : zs_dim r c k) (hV : zs_V r c k x0) (h8 : τ.1 8 = nI x0) (h : ∀ τ2, zx τ τ2 [13] [19, 20, 21, 22] → Q 0 τ2) : zq4_hasEven τ Q := by
  unfold zq4_hasEven zq4_floodAll
  refine e4_all hB hT hd hV h8 (fun τ2 x2 hC => ?_)
  have hlen := bfx_len (tl := tl) (pr := pr) hd hV
  have hl := hC.1
  unfold zq4_hasEven_7
  refine ⟨fun v => ∃ i, i ≤ (bfx r c k tl pr x0).length ∧ v = nI i, fun v => (bfx r c k tl pr x0).length - v.toNatClampNeg, ⟨0, Nat.zero_le _, rfl⟩, ?_⟩
  rintro v ⟨i, hi, rfl⟩
  rw [hl]
  refine pk_le (bfx r c k tl pr x0).length i (fun _ => h τ2 x2) (fun q => ?_)
  obtain ⟨e, he⟩ : ∃ e, (bfx r c k tl pr x0)[i]? = some e := ⟨_, List.getElem?_eq_getElem q⟩
  have leaf1 : (∃ j, j ≤ (bfx r c k tl pr x0).length ∧ nI i + 1 = nI j) ∧ (bfx r c k tl pr x0).length - (nI i + 1).toNatClampNeg < (bfx r c k tl pr x0).length - (nI i).toNatClampNeg := by
    obtain ⟨⟨j, a, b, _⟩, d⟩ := zl_leaf0 (J := fun _ => True) q (by omega) trivial
    exact ⟨⟨j, a, b⟩, d⟩
  have ci : (nI i).toNatClampNeg = i := nI_clamp (by omega)
  obtain ⟨c1, c2, _⟩ := hC.2.1 i e he
  have hVe := bfx_V hV he
  have he17 := zs_V_lt hd hVe
  obtain ⟨hp, hss, _⟩ := zs_V_dm hd hVe
  have ce : (nI e.1).toNatClampNeg = e.1 := nI_clamp (by omega)
  have hfe := bf_far_le 3600 i e he
  unfold zq4_hasEven_17 zq4_hasEven_68
  refine ⟨fun v => ∃ w, w ≤ 4 ∧ v = nI w, fun v => 4 - v.toNatClampNeg, ⟨0, Nat.zero_le _, rfl⟩, ?_⟩
  rintro v ⟨w, hw4, rfl⟩
  refine ⟨fun _ => leaf1, fun q2 => ?_⟩
  have hw := zl_go (N := 4) hw4 (by decide) q2
  have leaf2 : (∃ j, j ≤ 4 ∧ nI w + 1 = nI j) ∧ 4 - (nI w + 1).toNatClampNeg < 4 - (nI w).toNatClampNeg := by
    obtain ⟨⟨j, a, b, _⟩, d⟩ := zl_leaf0 (J := fun _ => True) hw (by decide) trivial
    exact ⟨⟨j, a, b⟩, d⟩
  rw [ci, c1, ce, c2]
  refine ⟨vp_in_nI (by omega) (by decide), e6_rolledx (hB.x x2 (by decide)) (hT.x x2 (by decide) (by decide)) hd hw hss hp (fun y hy => zYf (nI_pos ?_) ?_) (fun hn => zYt (by decide) leaf2)⟩
  · have := (zs_V_lt hd (zs_st_V hVe hw hy)).1
    omega
  · obtain ⟨j, f, b1, b2, b3⟩ := bf_to 3600 i w y e he (by omega) hw hy
    have hy17 := (zs_V_lt hd (zs_st_V hVe hw hy)).1
    have cy : (nI y).toNatClampNeg = y := nI_clamp (by omega)
    have p1 := bfx_par hV i e he
    have p2 := bfx_par hV j f b1
    have p3 := zs_pp_st (x0 := x0) hVe hw hy
    have cf := (hC.2.1 j f b1).2.1
    rw [b2] at p2 cf
    rw [cy, cf]
    exact ⟨vp_in_nI (by omega) (by decide), vp_in_nI he17.1 (by decide), vp_in_nI hy17 (by decide), zYt (zn_even b3 (by omega) (by omega)) leaf2⟩
end EV
section SD
variable {σ τ : zz_St}
theorem R_reached (h : Rel σ τ) (v : Int32) : zq7_reached v τ (fun a τ' => zq8_reached v σ (fun b σ' => RQ τ' a b σ')) := by
  obtain ⟨⟨r, c, k, h0⟩, hE⟩ := id h
  have hT := h.ct
  have hd := h0.dim
  unfold zq7_reached zq8_reached zq7_reached_9
  refine zn_le (n := 3) (by decide) (fun q => ?_) (fun q => e7_refuse 2 (by decide) (by decide) (e8_in4 (fun u => absurd u q) (fun _ => zNt n00 (RQ.no8 h 2 (by decide) (by decide) (by decide)))))
  rcases h0.there with ⟨z1, z2⟩ | ⟨z1, x, hV, hF, z2⟩
  · exact e6_none0 z2 (zYf n10 (e7_refuse 3 (by decide) (by decide) (e8_in4 (fun _ => zNf n10 (zNt z1 (RQ.no8 h 3 (by decide) (by decide) (by decide)))) (fun u => absurd q u))))
  · have hx := zs_V_lt hd hV
    have th : ¬ σ.1 9 = 0 := by rw [z1]; decide
    have est : bfx r c k (τ.2.1 14) (τ.2.1 16) x = bfx r c k (σ.2.1 4) (σ.2.1 5) x := by unfold bfx; rw [h0.st]
    have hlen := bfx_len (tl := σ.2.1 4) (pr := σ.2.1 5) hd hV
    have hl0 : (bfx r c k (σ.2.1 4) (σ.2.1 5) x)[0]? = some (x, 0, 0) := bf_0 _
    have hlpos : 0 < (bfx r c k (σ.2.1 4) (σ.2.1 5) x).length := bf_pos _
    have hVl : ∀ (i : Nat) (e : Nat × Nat × Nat), (bfx r c k (σ.2.1 4) (σ.2.1 5) x)[i]? = some e → zs_V r c k e.1 := fun i e he => bfx_V hV he
    have M : ∀ {Q : Int32 → zz_St → Prop}, (∀ σ2, zx σ σ2 [8, 12, 20, 27, 28] [10, 11, 13, 21, 22, 23, 24, 25, 26] → MF σ2 (zs_te k) (x / 24) (x % 24) → MG σ2 (zs_te k) (zs_st r c k (σ.2.1 4) (σ.2.1 5)) x (bfx r c k (σ.2.1 4) (σ.2.1 5) x) → ((¬ v = 0) → ((¬ v = (1 : Int32)) → ((¬ v = (2 : Int32)) → vp_in ((σ2.1 27) - (1 : Int32)) 900 ∧ Q (σ2.2.1 25 ((σ2.1 27) - (1 : Int32)).toNatClampNeg) σ2) ∧ (v = (2 : Int32) → zq8_isEven σ2 (fun r24 g25 => ((r24 = 0) → Q (0 : Int32) g25) ∧ (¬ (r24 = 0) → Q (1 : Int32) g25)))) ∧ (v = (1 : Int32) → zq8_placesReached σ2 (fun r27 g28 => Q r27 g28))) ∧ (v = 0 → Q (σ2.1 27) σ2)) → zq8_in (v.toInt64) (0 : Int64) (3 : Int64) (fun r17 => ((¬ r17 = 0) → ((¬ ((σ).1 9) = 0) → zq8_goesThrough σ (fun g20 => ((¬ v = 0) → ((¬ v = (1 : Int32)) → ((¬ v = (2 : Int32)) → vp_in ((g20.1 27) - (1 : Int32)) 900 ∧ Q (g20.2.1 25 ((g20.1 27) - (1 : Int32)).toNatClampNeg) g20) ∧ (v = (2 : Int32) → zq8_isEven g20 (fun r24 g25 => ((r24 = 0) → Q (0 : Int32) g25) ∧ (¬ (r24 = 0) → Q (1 : Int32) g25)))) ∧ (v = (1 : Int32) → zq8_placesReached g20 (fun r27 g28 => Q r27 g28))) ∧ (v = 0 → Q (g20.1 27) g20))) ∧ (((σ).1 9) = 0 → zq8_no (-3 : Int32) σ (fun r29 g30 => Q r29 g30))) ∧ (r17 = 0 → zq8_no (-2 : Int32) σ (fun r31 g32 => Q r31 g32))) := by
      intro Q m
      exact e8_in4 (fun _ => zNf n10 (zNf th (e8_goesThrough h0.mb hd h0.pr hV hF (fun σ2 x2 F2 hG => m σ2 x2 F2 hG)))) (fun u => absurd q u)
    have rel : ∀ σ2 σ3 τ2, zx σ σ2 [8, 12, 20, 27, 28] [10, 11, 13, 21, 22, 23, 24, 25, 26] → zx σ2 σ3 [] [29, 30] → MF σ2 (zs_te k) (x / 24) (x % 24) → zx τ τ2 [13] [19, 20, 21, 22, 23] → Rel σ3 τ2 := fun σ2 σ3 τ2 a b c' d => h.sr h0 z1 hV z2 ((a.mono (by decide) (by decide)).tr (b.mono (by decide) (by decide))).y (d.mono (by decide) (by decide)).y (c'.x b (by decide))
    unfold zq4_floodAll
    refine e6_none1 (by omega) z2 (zYt n00 ⟨fun n2 => e4_all h0.cb hT hd hV z2 (fun τ2 y2 hC => ?_), fun y2 => ?_⟩)
    · rw [est] at hC
      refine ⟨fun n0 => ⟨fun n1 => ?_, fun y1 => ?_⟩, fun y0 => ?_⟩
      · unfold zq4_farthest
        generalize hll : bfx r c k (σ.2.1 4) (σ.2.1 5) x = l at *
        have el : l[l.length - 1]? = some l[l.length - 1] := List.getElem?_eq_getElem (by omega)
        generalize l[l.length - 1] = e at el
        have he17 := zs_V_lt hd (hVl _ e el)
        rw [hC.1, show nI l.length - 1 = nI (l.length - 1) from pk_sub (b := 1) (by omega)]
        have cl : (nI (l.length - 1)).toNatClampNeg = l.length - 1 := nI_clamp (by omega)
        have ce : (nI e.1).toNatClampNeg = e.1 := nI_clamp (by omega)
        rw [cl, (hC.2.1 _ e el).1, ce, (hC.2.1 _ e el).2.1]
        refine zYf (nI_nle (by omega) (by omega)) ⟨vp_in_nI (by omega) (by decide), vp_in_nI he17.1 (by decide), M (fun σ2 x2 F2 hG => ?_)⟩
        refine zNf n0 (zNf n1 (zNf n2 ?_))
        rw [hG.1.1, show nI l.length - 1 = nI (l.length - 1) from pk_sub (b := 1) (by omega), cl, (hG.1.2 _ e el).2.2]
        exact ⟨vp_in_nI (by omega) (by decide), rfl, rel σ2 σ2 τ2 x2 zx.rf F2 (y2.mono (by decide) (by decide))⟩
      · refine e4_countPlaces hd hC hlen hVl (fun τ3 y3 => M (fun σ2 x2 F2 hG => zNf n0 (zNt y1 (e8_placesReached hd hG.1 hlen hVl (fun σ3 x3 => ⟨rfl, rel σ2 σ3 τ3 x2 (x3.mono (by decide) (by decide)) F2 ((y2.mono (by decide) (by decide)).tr (y3.mono (by decide) (by decide)))⟩)))))
      · rw [hC.1]
        refine M (fun σ2 x2 F2 hG => zNt y0 ⟨hG.1.1.symm, rel σ2 σ2 τ2 x2 zx.rf F2 (y2.mono (by decide) (by decide))⟩)
    · have n0 : ¬ v = 0 := by rw [y2]; decide
      have n1 : ¬ v = 1 := by rw [y2]; decide
      refine e4_hasEven h0.cb hT hd hV z2 (fun τ2 t2 => zYt n00 (M (fun σ2 x2 F2 hG => zNf n0 (zNf n1 (zNt y2 (e8_isEven hG.1 hlen hl0 hVl hG.2.1 (fun σ3 x3 => zYt n00 ⟨rfl, rel σ2 σ3 τ2 x2 (x3.mono (by decide) (by decide)) F2 (t2.mono (by decide) (by decide))⟩)))))))
end SD
