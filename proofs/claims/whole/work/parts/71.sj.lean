section WC
variable {σ τ : zz_St} {r c k x0 : Nat} {tl pr : Nat → Int32}
theorem e8_wayAt_36 {Q : Int32 → zz_St → Prop} {l : List (Nat × Nat × Nat)} {p f : Int32} {D g kk : Nat} (hl : l = bf (zs_st r c k tl pr) x0 3600) (hB : MB σ r c k tl pr) (hd : zs_dim r c k) (hF : MF σ (zs_te k) (x0 / 24) (x0 % 24)) (hL : ML σ (zs_te k) l) (hN : MN σ (zs_st r c k tl pr) l (4 * l.length)) (hlen : l.length ≤ 864) (hVl : ∀ (i : Nat) (e : Nat × Nat × Nat), l[i]? = some e → zs_V r c k e.1) (hf : f = -1 ∨ 0 ≤ f) (hg : FX l (zs_goal k p f) D g) (hk : kk < D)
    (h : ∀ (e : Nat × Nat × Nat) σ2, l[zan l g (D - 1 - kk)]? = some e → zx σ σ2 [8, 31] [10, 32, 33] → MF σ2 (zs_te k) (x0 / 24) (x0 % 24) → Q (nI (e.2.1 % 4)) σ2) : zq8_wayAt_36 p f (nI kk) (nI D) (nI l.length - 1) σ Q := by
  have hfar : ∀ (i : Nat) (e : Nat × Nat × Nat), l[i]? = some e → e.2.2 ≤ i := fun i e he => by rw [hl] at he; exact bf_far_le _ i e he
  have hD : D ≤ 864 := by
    obtain ⟨e, a, _, b, _⟩ := hg
    have := hfar g e a
    have := (List.getElem?_eq_some_iff.mp a).1
    omega
  have hmono : ∀ (j i : Nat) (e f : Nat × Nat × Nat), l[i]? = some e → l[j]? = some f → i ≤ j → e.2.2 ≤ f.2.2 := fun j i e f h1 h2 h3 => by rw [hl] at h1 h2; exact bf_mono _ j i e f h1 h2 h3
  have hnd : ∀ (i j : Nat) (e f : Nat × Nat × Nat), l[i]? = some e → l[j]? = some f → e.1 = f.1 → i = j := fun i j e f h1 h2 => by rw [hl] at h1 h2; exact bf_nodup _ i j e f h1 h2
  unfold zq8_wayAt_36
  refine ⟨fun v5 σ2 => ∃ i, i ≤ l.length ∧ v5 = nI i - 1 ∧ (zx σ σ2 [8, 31] [10, 32, 33] ∧ MF σ2 (zs_te k) (x0 / 24) (x0 % 24) ∧ OB σ2 (OKx (zs_st r c k tl pr) l (zs_goal k p f) D) i l.length), fun v5 _ => (v5 + 1).toNatClampNeg, ⟨l.length, Nat.le_refl _, rfl, zx.rf, hF, fun j h1 h2 => absurd h2 (Nat.not_lt.mpr h1)⟩, ?_⟩
  rintro v5 σ2 ⟨i, hi, rfl, x2, F2, ob⟩
  have hL2 := hL.x x2 (by decide)
  have hN2 := hN.x x2 (by decide)
  have hB2 := hB.x x2 (by decide)
  cases i with
  | zero => exact ⟨fun _ => e8_wayAt_188 hl hL2 hN2 hlen hg hk ob (fun e he => h e σ2 he x2 F2), fun q => absurd (by decide) q⟩
  | succ i =>
    have e5 : nI (i + 1) - 1 = nI i := pk_sub (b := 1) (by omega)
    rw [e5]
    have ci : (nI i).toNatClampNeg = i := nI_clamp (by omega)
    have vi : vp_in (nI i) 900 := vp_in_nI (by omega) (by decide)
    have he : l[i]? = some l[i] := List.getElem?_eq_getElem (by omega)
    generalize l[i] = e at he
    have hVe := hVl i e he
    have leaf : ∀ σ3, zx σ σ3 [8, 31] [10, 32, 33] → MF σ3 (zs_te k) (x0 / 24) (x0 % 24) → OB σ3 (OKx (zs_st r c k tl pr) l (zs_goal k p f) D) i l.length → (∃ j, j ≤ l.length ∧ nI i + -1 = nI j - 1 ∧ (zx σ σ3 [8, 31] [10, 32, 33] ∧ MF σ3 (zs_te k) (x0 / 24) (x0 % 24) ∧ OB σ3 (OKx (zs_st r c k tl pr) l (zs_goal k p f) D) j l.length)) ∧ (nI i + -1 + 1).toNatClampNeg < (nI i + 1).toNatClampNeg := by
      intro σ3 x3 F3 ob3
      refine ⟨⟨i, by omega, (Int32.sub_eq_add_neg _ _).symm, x3, F3, ob3⟩, ?_⟩
      rw [← Int32.sub_eq_add_neg, Int32.sub_add_cancel, nI_1, ci, nI_clamp (by omega)]
      omega
    have set : ∀ (b : Int32) σ3, vp_nar .boolean b = b → zx σ2 σ3 [8, 31] [10, 32] → MF σ3 (zs_te k) (x0 / 24) (x0 % 24) → (((e.2.2 = D ∧ zs_goal k p f e.1) ∧ b = 1) ∨ (¬ (e.2.2 = D ∧ zs_goal k p f e.1) ∧ b = 0)) → zq8_wayAt_75 p f (nI kk) (nI D) (nI i) b (nI i) σ3 Q (fun v5' σ' => (∃ j, j ≤ l.length ∧ v5' = nI j - 1 ∧ (zx σ σ' [8, 31] [10, 32, 33] ∧ MF σ' (zs_te k) (x0 / 24) (x0 % 24) ∧ OB σ' (OKx (zs_st r c k tl pr) l (zs_goal k p f) D) j l.length)) ∧ (v5' + 1).toNatClampNeg < (nI i + 1).toNatClampNeg) := by
      intro b σ3 hb x3 F3 hph
      unfold zq8_wayAt_75
      refine ⟨vi, fun g34 e34 => ?_⟩
      rw [ci, hb] at e34
      have x34 : zx σ3 g34 [] [33] := by rw [e34]; exact zx.A 33 _ (by decide)
      have h34 : g34.2.1 33 = upd (σ3.2.1 33) i b := by rw [e34, zz_A2, if_pos rfl]
      have x24 : zx σ g34 [8, 31] [10, 32, 33] := x2.tr ((x3.mono (by decide) (by decide)).tr (x34.mono (by decide) (by decide)))
      refine e8_wayAt_79 (hL.x x24 (by decide)) (hN.x x24 (by decide)) hlen hfar hmono hnd (by omega) he (fun j h1 h2 => ?_) ?_ (fun σ4 x4 ob4 => leaf σ4 (x24.tr (x4.mono (by decide) (by decide))) ((F3.x x34 (by decide)).x x4 (by decide)) ob4)
      · rw [h34, pk_un (by omega), x3.2.1 33 (by decide)]
        exact ob j h1 h2
      · rw [h34, pk_us]; exact hph
    refine ⟨fun q => absurd q (nI_pos (by omega)), fun _ => ⟨vi, ?_⟩⟩
    have hfe := hfar i e he
    rw [ci, (hL2.2 i e he).2.2, nI_eq (a := e.2.2) (b := D) (by omega) (by omega)]
    unfold zq8_wayAt_74
    refine ⟨fun q => set 0 σ2 vp_nar_b0 zx.rf F2 (Or.inr ⟨fun z => q z.1, rfl⟩), fun q => ?_⟩
    refine e8_isGoal hB2 hd F2 hL2 (by omega) he hVe hf (fun gy σ3 x3 F3 => zYf n10 (set 1 σ3 vp_nar_b1 x3 F3 (Or.inl ⟨⟨q, gy⟩, rfl⟩))) (fun gn σ3 x3 F3 => zYt rfl (set 0 σ3 vp_nar_b0 x3 F3 (Or.inr ⟨fun z => gn z.2, rfl⟩)))
theorem e4_wayToward {Q : Int32 → Prop} {l l' : List (Nat × Nat × Nat)} {D g kk : Nat} {G : Nat → Prop} (hl : l = bf (zs_st r c k tl pr) x0 3600) (hC : CQ τ l') (hpre : ∀ (i : Nat) (e : Nat × Nat × Nat), l'[i]? = some e → l[i]? = some e) (h17 : ∀ (i : Nat) (e : Nat × Nat × Nat), l[i]? = some e → e.1 < 1728 ∧ e.2.2 ≤ 864) (hg : FX l G D g) (hk : kk < D) {e : Nat × Nat × Nat} (he : l'[g]? = some e)
    (h : ∀ e : Nat × Nat × Nat, l[zan l g (D - 1 - kk)]? = some e → Q (nI (e.2.1 % 4))) : zq4_wayToward (nI e.1) (nI kk) τ Q := by
  have he1 := h17 _ e (hpre _ e he)
  have hzok := fun m hm => zan_ok (st := zs_st r c k tl pr) (x0 := x0) (n := 3600) (G := G) (D := D) (g := g) (by rw [← hl]; exact hg) m hm
  have hzpos := fun m hm => zan_pos (st := zs_st r c k tl pr) (x0 := x0) (n := 3600) (G := G) (D := D) (g := g) (by rw [← hl]; exact hg) (m := m) hm
  rw [← hl] at hzok hzpos
  have hDe : e.2.2 = D := by
    obtain ⟨e', a, _, b, _⟩ := hg
    rw [hpre _ e he] at a
    cases a
    exact b
  unfold zq4_wayToward zq4_wayToward_12
  have ce : (nI e.1).toNatClampNeg = e.1 := nI_clamp (by omega)
  rw [ce, (hC.2.1 g e he).2.1]
  refine ⟨vp_in_nI he1.1 (by decide), fun x6 e6 => ?_⟩
  rw [show nI e.2.2 - 1 = nI (D - 1) from by rw [hDe]; exact pk_sub (b := 1) (by omega)] at e6
  subst e6
  refine ⟨fun v3 v4 => ∃ m, m + kk + 1 ≤ D ∧ v4 = nI (D - 1 - m) ∧ ∃ e : Nat × Nat × Nat, l'[zan l g m]? = some e ∧ v3 = nI e.1, fun _ v4 => v4.toNatClampNeg, ⟨0, by omega, rfl, e, he, rfl⟩, ?_⟩
  rintro v3 v4 ⟨m, hm, rfl, em, hem, rfl⟩
  have hm1 := h17 _ em (hpre _ em hem)
  have cm : (nI em.1).toNatClampNeg = em.1 := nI_clamp (by omega)
  have vm : vp_in (nI em.1) 1728 := vp_in_nI hm1.1 (by decide)
  obtain ⟨p, p1, p2, p3⟩ := (hC.2.1 _ em hem).2.2 (hzpos m (by omega))
  rw [cm]
  refine pk_le (D - 1 - m) kk (fun q => ⟨vm, ?_⟩) (fun q => ⟨vm, fun x5 e5 => ?_⟩)
  · rw [p3]
    have : m = D - 1 - kk := by omega
    subst this
    exact h em (hpre _ em hem)
  · rw [p2] at e5
    subst e5
    have ez : zan l g (m + 1) = em.2.1 / 4 := zpa_e (hpre _ em hem)
    have e6 : nI (D - 1 - m) + -1 = nI (D - 1 - (m + 1)) := by
      rw [← Int32.sub_eq_add_neg, show nI (D - 1 - m) - 1 = nI (D - 1 - m - 1) from pk_sub (b := 1) (by omega)]
      rw [show D - 1 - m - 1 = D - 1 - (m + 1) from by omega]
    refine ⟨⟨m + 1, by omega, e6, p, by rw [ez]; exact p1, rfl⟩, ?_⟩
    show (nI (D - 1 - m) + -1).toNatClampNeg < (nI (D - 1 - m)).toNatClampNeg
    rw [e6, nI_clamp (by omega), nI_clamp (by omega)]
    omega
theorem R_walk (h : Rel σ τ) (p f v : Int32) : zq7_walk p f v τ (fun a τ' => zq8_walk p f v σ (fun b σ' => RQ τ' a b σ')) := by
  obtain ⟨⟨r, c, k, h0⟩, hE⟩ := id h
  have hT := h.ct
  have hd := h0.dim
  unfold zq7_walk zq8_walk
  refine e7_isGoal h0.2.1 hT hd (fun q => zNf n10 ?_) (fun q => zNt n00 (e7_refuse 1 (by decide) (by decide) (e8_areAsked h0.mb hd (fun z => absurd z q) (fun _ => zNt n00 (RQ.no8 h 1 (by decide) (by decide) (by decide))))))
  refine ⟨fun v0 => ?_, fun v0 => e7_refuse 4 (by decide) (by decide) (e8_areAsked h0.mb hd (fun _ => zNf n10 ⟨fun z => absurd z v0, fun _ => RQ.no8 h 4 (by decide) (by decide) (by decide)⟩) (fun z => absurd q z))⟩
  rcases h0.there with ⟨z1, z2⟩ | ⟨z1, x, hV, hF, z2⟩
  · exact e6_none0 z2 (zYf n10 (e7_refuse 3 (by decide) (by decide) (e8_areAsked h0.mb hd (fun _ => zNf n10 ⟨fun _ => zNt z1 (RQ.no8 h 3 (by decide) (by decide) (by decide)), fun z => absurd v0 z⟩) (fun z => absurd q z))))
  · have hx := zs_V_lt hd hV
    have th : ¬ σ.1 9 = 0 := by rw [z1]; decide
    obtain ⟨kk, hkk, ev⟩ := nI_of (Int32.not_lt.mpr v0)
    subst ev
    have est : zs_st r c k (τ.2.1 14) (τ.2.1 16) = zs_st r c k (σ.2.1 4) (σ.2.1 5) := h0.st
    have ebf : bfx r c k (τ.2.1 14) (τ.2.1 16) x = bfx r c k (σ.2.1 4) (σ.2.1 5) x := by unfold bfx; rw [h0.st]
    have hlen := bfx_len (tl := σ.2.1 4) (pr := σ.2.1 5) hd hV
    have hlx : bfx r c k (σ.2.1 4) (σ.2.1 5) x = bf (zs_st r c k (σ.2.1 4) (σ.2.1 5)) x 3600 := rfl
    have hVl : ∀ (i : Nat) (e : Nat × Nat × Nat), (bfx r c k (σ.2.1 4) (σ.2.1 5) x)[i]? = some e → zs_V r c k e.1 := fun i e he => bfx_V hV he
    have hfar : ∀ (i : Nat) (e : Nat × Nat × Nat), (bfx r c k (σ.2.1 4) (σ.2.1 5) x)[i]? = some e → e.2.2 ≤ 864 := fun i e he => by
      have := bf_far_le _ i e he
      have := (List.getElem?_eq_some_iff.mp he).1
      omega
    have M : ∀ τ2, zx τ τ2 [13] [19, 20, 21, 22] → ∀ a, (∀ g eg, FG k p f (bfx r c k (σ.2.1 4) (σ.2.1 5) x) g eg → (eg.2.2 ≤ kk → a = -9) ∧ (kk < eg.2.2 → ∀ e : Nat × Nat × Nat, (bfx r c k (σ.2.1 4) (σ.2.1 5) x)[zan (bfx r c k (σ.2.1 4) (σ.2.1 5) x) g (eg.2.2 - 1 - kk)]? = some e → a = nI (e.2.1 % 4))) → (NG k p f (bfx r c k (σ.2.1 4) (σ.2.1 5) x) → a = -9) → zq8_areAsked p f σ (fun r13 => ((¬ r13 = 0) → ((0 ≤ nI kk) → ((¬ ((σ).1 9) = 0) → zq8_wayAt p f (nI kk) σ (fun r17 g18 => RQ τ2 a r17 g18)) ∧ (((σ).1 9) = 0 → zq8_no (-3 : Int32) σ (fun r19 g20 => RQ τ2 a r19 g20))) ∧ (¬ (0 ≤ nI kk) → zq8_no (-4 : Int32) σ (fun r21 g22 => RQ τ2 a r21 g22))) ∧ (r13 = 0 → zq8_no (-1 : Int32) σ (fun r23 g24 => RQ τ2 a r23 g24))) := by
      intro τ2 y2 a m1 m0
      refine e8_areAsked h0.mb hd (fun _ => zNf n10 ⟨fun _ => zNf th ?_, fun z => absurd v0 z⟩) (fun z => absurd q z)
      unfold zq8_wayAt
      refine e8_goesThrough h0.mb hd h0.pr hV hF (fun σ2 x2 F2 hG => ?_)
      have rel : ∀ σ3, zx σ2 σ3 [8, 31] [10, 32, 33] → MF σ3 (zs_te k) (x / 24) (x % 24) → Rel σ3 τ2 := fun σ3 x3 F3 => h.sr h0 z1 hV z2 ((x2.mono (by decide) (by decide)).tr (x3.mono (by decide) (by decide))).y (y2.mono (by decide) (by decide)).y F3
      refine e8_soonestTo (h0.mb.x x2 (by decide)) hd F2 hG.1 hlen hVl (zs_ask_f q) (fun g eg σ3 hFG x3 F3 => ?_) (fun σ3 hNG x3 F3 => zYt rfl ⟨m0 hNG, rel σ3 (x3.mono (by decide) (by decide)) F3⟩)
      have hfe := hfar g eg hFG.1
      refine zYf (by intro z; exact nI_pos (n := eg.2.2) (by omega) (by rw [z]; decide)) (pk_lt kk eg.2.2 (fun u x50 e50 => ?_) (fun u => ⟨(m1 g eg hFG).1 u, rel σ3 (x3.mono (by decide) (by decide)) F3⟩))
      have hB3 := (h0.mb.x x2 (by decide)).x x3 (by decide)
      rw [x3.1 27 (by decide), hG.1.1] at e50
      subst e50
      exact e8_wayAt_36 hlx hB3 hd F3 (hG.1.x x3 (by decide)) (hG.2.1.x x3 (by decide)) hlen hVl (zs_ask_f q) ⟨eg, hFG.1, hFG.2.1, rfl, hFG.2.2⟩ u (fun e σ4 he x4 F4 => ⟨(m1 g eg hFG).2 u e he, rel σ4 ((x3.mono (by decide) (by decide)).tr x4) F4⟩)
    refine e6_none1 (by omega) z2 (zYt n00 (e4_flood h0.cb hT hd hV z2 (fun i e n τ2 y2 hFG hn hC he => ?_) (fun τ2 y2 hC hNG => ?_)))
    · rw [ebf] at hFG
      rw [est] at hC he
      have hVe := bfx_V hV hFG.1
      have he17 := zs_V_lt hd hVe
      have hfe := hfar i e hFG.1
      have ce : (nI e.1).toNatClampNeg = e.1 := nI_clamp (by omega)
      refine zYf (nI_pos (by omega)) ⟨vp_in_nI he17.1 (by decide), ?_⟩
      rw [ce, (hC.2.1 i e he).2.1]
      refine pk_lt kk e.2.2 (fun u => ?_) (fun u => M τ2 y2 _ (fun g eg h' => ?_) (fun h' => (hFG.no h').elim))
      · refine e4_wayToward hlx hC (fun i' e' h' => bfx_pre n hn h') (fun i' e' h' => ⟨(zs_V_lt hd (hVl i' e' h')).1, hfar i' e' h'⟩) ⟨e, hFG.1, hFG.2.1, rfl, hFG.2.2⟩ u he (fun e2 he2 => ?_)
        refine M τ2 y2 _ (fun g eg h' => ?_) (fun h' => (hFG.no h').elim)
        obtain ⟨u1, u2⟩ := hFG.uni h'
        subst u1
        subst u2
        refine ⟨fun z => absurd z (Nat.not_le.mpr u), fun _ e3 he3 => ?_⟩
        rw [he2] at he3
        cases he3
        rfl
      · obtain ⟨u1, u2⟩ := hFG.uni h'
        subst u1
        subst u2
        exact ⟨fun _ => rfl, fun z => absurd z (Nat.not_lt.mpr u)⟩
    · rw [ebf] at hNG
      exact zYt (by decide) (M τ2 y2 _ (fun g eg h' => (h'.no hNG).elim) (fun _ => rfl))
end WC
