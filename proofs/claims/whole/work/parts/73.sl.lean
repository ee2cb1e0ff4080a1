/-! call: needed, both sides -/
def ZA (N : Nat → Prop) : Nat → Int64 → Prop
  | 0, a => a = 0
  | t + 1, a => ∃ b, ZA N t b ∧ ((N t ∧ a = b ||| ((1 : Int64) <<< ((nI t).toInt64 &&& 63))) ∨ (¬ N t ∧ a = b))
theorem ZA_uni {N N' : Nat → Prop} (n : Nat) (h : ∀ t, t < n → (N t ↔ N' t)) : ∀ t, t ≤ n → ∀ a a', ZA N t a → ZA N' t a' → a = a' := by
  intro t
  induction t with
  | zero => intro _ a a' h1 h2; exact h1.trans h2.symm
  | succ t ih =>
    rintro ht a a' ⟨b, b1, b2⟩ ⟨b', b1', b2'⟩
    have e := ih (by omega) b b' b1 b1'
    have hn := h t (by omega)
    rcases b2 with ⟨c1, c2⟩ | ⟨c1, c2⟩ <;> rcases b2' with ⟨d1, d2⟩ | ⟨d1, d2⟩
    · rw [c2, d2, e]
    · exact absurd (hn.mp c1) d1
    · exact absurd (hn.mpr d1) c1
    · rw [c2, d2, e]
theorem zb_andn {M u : Nat} (hM : M < 2 ^ 36) (hu : u < 2 ^ 36) : ∃ m, m < 2 ^ 62 ∧ lN M &&& (lN u ^^^ (-1 : Int64)) = lN m ∧ ∀ t, t < 64 → (m.testBit t = true ↔ M.testBit t = true ∧ ¬ u.testBit t = true) := by
  have hux : u ^^^ (2 ^ 64 - 1) < 2 ^ 64 := Nat.xor_lt_two_pow (by omega) (by decide)
  have e1 : lN u ^^^ (-1 : Int64) = lN (u ^^^ (2 ^ 64 - 1)) := by
    apply wb_inj
    rw [Int64.toBitVec_xor]
    apply BitVec.eq_of_toNat_eq
    rw [BitVec.toNat_xor, wb_tn (by omega), wb_tn hux]
    rfl
  refine ⟨M &&& (u ^^^ (2 ^ 64 - 1)), ?_, ?_, fun t ht => ?_⟩
  · exact Nat.lt_of_le_of_lt Nat.and_le_left (by omega)
  · rw [e1, wb_and (by omega) hux]
  · rw [Nat.testBit_and, Nat.testBit_xor, Nat.testBit_two_pow_sub_one, decide_eq_true ht]
    cases M.testBit t <;> cases u.testBit t <;> decide
section SL
variable {σ τ : zz_St} {r c k x0 : Nat} {tl pr : Nat → Int32}
theorem e4_tilesToward {Q : Int64 → Prop} {l' : List (Nat × Nat × Nat)} {D g : Nat} {G : Nat → Prop} (hB : CB τ r c k tl pr) (hT : CT τ) (hd : zs_dim r c k) (hV : zs_V r c k x0) (hC : CQ τ l') (hpre : ∀ (i : Nat) (e : Nat × Nat × Nat), l'[i]? = some e → (bfx r c k tl pr x0)[i]? = some e) (hD : D ≤ 864) (hg : FX (bfx r c k tl pr x0) G D g) {e : Nat × Nat × Nat} (he : l'[g]? = some e)
    (h : ∀ M, M < 2 ^ 36 → (∀ t, M.testBit t = true ↔ UW c k (bfx r c k tl pr x0) g D t) → Q (lN M)) : zq4_tilesToward (nI e.1) τ Q := by
  have hVe := bfx_V hV (hpre _ e he)
  have he17 := zs_V_lt hd hVe
  have hDe : e.2.2 = D := by
    obtain ⟨e', a, _, b, _⟩ := hg
    rw [hpre _ e he] at a
    cases a
    exact b
  have ce : (nI e.1).toNatClampNeg = e.1 := nI_clamp (by omega)
  unfold zq4_tilesToward zq4_tilesToward_13
  rw [ce, (hC.2.1 g e he).2.1, hDe]
  refine ⟨vp_in_nI he17.1 (by decide), fun x10 e10 => ?_⟩
  subst e10
  refine ⟨fun v3 v5 v6 => ∃ m, m ≤ D ∧ v6 = nI (D - m) ∧ (∃ e : Nat × Nat × Nat, l'[zan (bfx r c k tl pr x0) g m]? = some e ∧ v5 = nI e.1) ∧ ∃ M, M < 2 ^ 36 ∧ v3 = lN M ∧ ∀ t, M.testBit t = true ↔ UW c k (bfx r c k tl pr x0) g m t, fun _ _ v6 => v6.toNatClampNeg, ⟨0, Nat.zero_le _, rfl, ⟨e, he, rfl⟩, 0, by decide, rfl, fun t => ?_⟩, ?_⟩
  · rw [Nat.zero_testBit]
    exact ⟨fun z => absurd z (by decide), fun ⟨m', hm', _⟩ => absurd hm' (Nat.not_lt_zero _)⟩
  rintro v3 v5 v6 ⟨m, hm, rfl, ⟨em, hem, rfl⟩, M, hM, rfl, hbits⟩
  refine pk_le (D - m) 0 (fun q => ?_) (fun q => ?_)
  · have : m = D := by omega
    subst this
    exact h M hM hbits
  · have hmD : m < D := by omega
    have hVm := bfx_V hV (hpre _ em hem)
    have hm17 := zs_V_lt hd hVm
    have cm : (nI em.1).toNatClampNeg = em.1 := nI_clamp (by omega)
    have hum := zs_um_lt hd hVm
    refine e6_tilesUnder hB hT hd hVm (fun x8 e8 => ⟨vp_in_nI hm17.1 (by decide), fun x9 e9 => ?_⟩)
    rw [wb_or (by omega) (by omega)] at e8
    subst e8
    obtain ⟨p, p1, p2, p3⟩ := (hC.2.1 _ em hem).2.2 (zan_pos (n := 3600) hg hmD)
    rw [cm, p2] at e9
    subst e9
    have ez : zan (bfx r c k tl pr x0) g (m + 1) = em.2.1 / 4 := zpa_e (hpre _ em hem)
    have e6 : nI (D - m) + -1 = nI (D - (m + 1)) := by
      rw [← Int32.sub_eq_add_neg, show nI (D - m) - 1 = nI (D - m - 1) from pk_sub (b := 1) (by omega)]
      rw [show D - m - 1 = D - (m + 1) from by omega]
    refine ⟨⟨m + 1, hmD, e6, ⟨p, by rw [ez]; exact p1, rfl⟩, M ||| zs_um c k em.1, Nat.or_lt_two_pow hM hum, rfl, fun t => ?_⟩, ?_⟩
    · rw [Nat.testBit_or, Bool.or_eq_true, hbits t, zs_um_bit]
      constructor
      · rintro (⟨m', h1, h2⟩ | hu)
        · exact ⟨m', by omega, h2⟩
        · exact ⟨m, Nat.lt_succ_self _, em, hpre _ em hem, hu⟩
      · rintro ⟨m', h1, e', h2, h3⟩
        rcases Nat.lt_succ_iff_lt_or_eq.mp h1 with z | z
        · exact Or.inl ⟨m', z, e', h2, h3⟩
        · rw [z] at h2
          have : some e' = some em := h2.symm.trans (hpre _ em hem)
          cases this
          exact Or.inr h3
    · show (nI (D - m) + -1).toNatClampNeg < (nI (D - m)).toNatClampNeg
      rw [e6, nI_clamp (by omega), nI_clamp (by omega)]
      omega
theorem e4_isLaterWithout {Q : Int32 → zz_St → Prop} {t D : Nat} {p : Int32} (hB : CB τ r c k tl pr) (hT : CT τ) (hd : zs_dim r c k) (hV : zs_V r c k x0) (h8 : τ.1 8 = nI x0) (ht : t < 36) (hD : D ≤ 864)
    (h1 : ∀ τ2, zx τ τ2 [13] [19, 20, 21, 22] → Later (bfx r c k (upd tl t 1) pr x0) (zs_goal k p (-1)) D → Q 1 τ2) (h0 : ∀ τ2, zx τ τ2 [13] [19, 20, 21, 22] → ¬ Later (bfx r c k (upd tl t 1) pr x0) (zs_goal k p (-1)) D → Q 0 τ2) : zq4_isLaterWithout (nI t) p (nI D) τ Q := by
  unfold zq4_isLaterWithout
  have ct : (nI t).toNatClampNeg = t := nI_clamp (by omega)
  have vt : vp_in (nI t) 36 := vp_in_nI ht (by decide)
  rw [ct]
  refine ⟨vt, fun x8 e8 => ⟨vt, fun g5 h5 => ?_⟩⟩
  have x5 : zx τ g5 [] [14] := by rw [h5]; exact zx.A 14 _ (by decide)
  have e14 : g5.2.1 14 = upd tl t 1 := by rw [h5, zz_A2, if_pos rfl, hB.2.2.2.1]
  have hB5 : CB g5 r c k (upd tl t 1) pr := ⟨(x5.1 2 (by decide)).trans hB.1, (x5.1 4 (by decide)).trans hB.2.1, (x5.1 6 (by decide)).trans hB.2.2.1, e14, (x5.2.1 16 (by decide)).trans hB.2.2.2.2⟩
  have back : ∀ τ2 g8, zx g5 τ2 [13] [19, 20, 21, 22] → g8 = zz_A τ2 14 (upd (τ2.2.1 14) t x8) → zx τ g8 [13] [19, 20, 21, 22] ∧ zx τ2 g8 [] [14] := by
    intro τ2 g8 x2 h8'
    have x8' : zx τ2 g8 [] [14] := by rw [h8']; exact zx.A 14 _ (by decide)
    have bk : g8.2.1 14 = τ.2.1 14 := by
      rw [h8', zz_A2, if_pos rfl, x2.2.1 14 (by decide), e14, ← hB.2.2.2.1, upd_back e8.symm]
    have xx : zx τ g8 [13] [14, 19, 20, 21, 22] := ((x5.mono (by decide) (by decide)).tr (x2.mono (by decide) (by decide))).tr (x8'.mono (by decide) (by decide))
    exact ⟨⟨xx.1, fun j hj => by
      by_cases y : j = 14
      · rw [y]; exact bk
      · exact xx.2.1 j (by simp only [List.mem_cons, List.not_mem_nil, or_false] at hj ⊢; omega), xx.2.2⟩, x8'⟩
  refine e4_flood hB5 (hT.x x5 (by decide) (by decide)) hd hV ((x5.1 8 (by decide)).trans h8) (fun i e n τ2 x2 hFG hn hC he => ⟨vt, fun g12 h12 => ?_⟩) (fun τ2 x2 hC hNG => ⟨vt, fun g12 h12 => ?_⟩)
  · obtain ⟨b1, b2⟩ := back τ2 g12 x2 h12
    have hVe := bfx_V hV hFG.1
    have he17 := zs_V_lt hd hVe
    have hlen := bfx_len (tl := upd tl t 1) (pr := pr) hd hV
    have hfe := bf_far_le 3600 _ _ hFG.1
    have hi := (List.getElem?_eq_some_iff.mp hFG.1).1
    have ce : (nI e.1).toNatClampNeg = e.1 := nI_clamp (by omega)
    refine zYf (nI_pos (by omega)) ⟨vp_in_nI he17.1 (by decide), ?_⟩
    rw [ce, b2.2.1 19 (by decide), (hC.2.1 i e he).2.1]
    exact pk_le e.2.2 D (fun u => h0 g12 b1 (fun z => by have := (Later.fg hFG).mp z; omega)) (fun u => h1 g12 b1 ((Later.fg hFG).mpr u))
  · obtain ⟨b1, b2⟩ := back τ2 g12 x2 h12
    exact zYt (by decide) (h1 g12 b1 (Later.ng hNG))
theorem e4_tilesNeeded_49 {Q : Int64 → zz_St → Prop} {D m : Nat} {p : Int32} {W : Nat → Prop} (hB : CB τ r c k tl pr) (hT : CT τ) (hd : zs_dim r c k) (hV : zs_V r c k x0) (h8 : τ.1 8 = nI x0) (hD : D ≤ 864) (hm : m < 2 ^ 62) (hW : ∀ t, t < 64 → (m.testBit t = true ↔ W t))
    (h : ∀ a τ2, zx τ τ2 [13] [19, 20, 21, 22] → ZA (fun t => W t ∧ Later (bfx r c k (upd tl t 1) pr x0) (zs_goal k p (-1)) D) (r * c) a → Q a τ2) : zq4_tilesNeeded_49 p (nI D) (lN m) 0 0 τ Q := by
  have hrc := zs_rc hd.2.1 hd.2.2.2.1
  generalize hND : (fun t => W t ∧ Later (bfx r c k (upd tl t 1) pr x0) (zs_goal k p (-1)) D) = ND at *
  have eND : ∀ t, ND t ↔ (W t ∧ Later (bfx r c k (upd tl t 1) pr x0) (zs_goal k p (-1)) D) := fun t => by rw [← hND]
  unfold zq4_tilesNeeded_49
  refine ⟨fun v7 v9 τ2 => ∃ t, t ≤ r * c ∧ v9 = nI t ∧ (zx τ τ2 [13] [19, 20, 21, 22] ∧ ZA ND t v7), fun _ v9 _ => r * c - v9.toNatClampNeg, ⟨0, Nat.zero_le _, rfl, zx.rf, rfl⟩, ?_⟩
  rintro v7 v9 τ2 ⟨t, ht, rfl, x2, hz⟩
  have hB2 := hB.x x2 (by decide)
  refine e6_tileCount (k := k) ⟨hB2.1, hB2.2.1, hB2.2.2.1⟩ (pk_le (r * c) t (fun q => ?_) (fun q => ?_))
  · have e : t = r * c := by omega
    subst e
    exact h v7 τ2 x2 hz
  · have leaf : ∀ v7' τ3, zx τ τ3 [13] [19, 20, 21, 22] → ZA ND (t + 1) v7' → (∃ j, j ≤ r * c ∧ nI t + 1 = nI j ∧ (zx τ τ3 [13] [19, 20, 21, 22] ∧ ZA ND j v7')) ∧ r * c - (nI t + 1).toNatClampNeg < r * c - (nI t).toNatClampNeg := fun v7' τ3 a b => zl_leaf (J := fun j τ3 => zx τ τ3 [13] [19, 20, 21, 22] ∧ ZA ND j v7') q (by omega) ⟨a, b⟩
    rw [zb_test hm (by omega), hW t (by omega)]
    unfold zq4_tilesNeeded_92
    refine ⟨fun n => leaf v7 τ2 x2 ⟨v7, hz, Or.inr ⟨fun z => n ((eND t).mp z).1, rfl⟩⟩, fun y => ?_⟩
    refine e4_isLaterWithout hB2 (hT.x x2 (by decide) (by decide)) hd hV ((x2.1 8 (by decide)).trans h8) (by omega) hD (fun τ3 x3 hl => zYf n10 (fun x21 e21 => leaf x21 τ3 (x2.tr x3) ⟨v7, hz, Or.inl ⟨(eND t).mpr ⟨y, hl⟩, e21⟩⟩)) (fun τ3 x3 hl => zYt rfl (leaf v7 τ3 (x2.tr x3) ⟨v7, hz, Or.inr ⟨fun z => hl ((eND t).mp z).2, rfl⟩⟩))
theorem e8_needed_none {Q : Int64 → zz_St → Prop} {p : Int32} (hB : MB σ r c k tl pr) (h : Q 0 σ) : zq8_needed_44 p (-9) 0 0 σ Q := by
  unfold zq8_needed_44
  refine ⟨fun v3 v5 σ2 => v3 = 0 ∧ σ2 = σ, fun _ _ _ => 0, ⟨rfl, rfl⟩, ?_⟩
  rintro v3 v5 σ2 ⟨rfl, rfl⟩
  exact e8_tileMany hB ⟨fun _ => h, fun _ => ⟨fun _ => h, fun z => absurd rfl z⟩⟩
theorem e8_needed_44 {Q : Int64 → zz_St → Prop} {D : Nat} {p : Int32} (hB : MB σ r c k tl pr) (hd : zs_dim r c k) (hpr : ∀ t, t < 36 → pr t = -1 ∨ 0 ≤ pr t) (hV : zs_V r c k x0) (hF : MF σ (zs_te k) (x0 / 24) (x0 % 24)) (hD : D ≤ 864)
    (h : ∀ a σ2, zx σ σ2 [8, 12, 20, 27, 28, 31] [10, 11, 13, 21, 22, 23, 24, 25, 26, 32] → MF σ2 (zs_te k) (x0 / 24) (x0 % 24) → ZA (fun t => ¬ zs_un c k x0 t ∧ ¬ tl t = 1 ∧ Later (bfx r c k (upd tl t 1) pr x0) (zs_goal k p (-1)) D) (r * c) a → Q a σ2) : zq8_needed_44 p (nI D) 0 0 σ Q := by
  have hrc := zs_rc hd.2.1 hd.2.2.2.1
  have hx := zs_V_lt hd hV
  generalize hND : (fun t => ¬ zs_un c k x0 t ∧ ¬ tl t = 1 ∧ Later (bfx r c k (upd tl t 1) pr x0) (zs_goal k p (-1)) D) = ND at *
  have eND : ∀ t, ND t ↔ (¬ zs_un c k x0 t ∧ ¬ tl t = 1 ∧ Later (bfx r c k (upd tl t 1) pr x0) (zs_goal k p (-1)) D) := fun t => by rw [← hND]
  have nD9 : ¬ nI D = -9 := fun z => nI_pos (n := D) (by omega) (by rw [z]; decide)
  unfold zq8_needed_44
  refine ⟨fun v3 v5 σ2 => ∃ t, t ≤ r * c ∧ v5 = nI t ∧ (ZA ND t v3 ∧ zx σ σ2 [8, 12, 20, 27, 28, 31] [10, 11, 13, 21, 22, 23, 24, 25, 26, 32] ∧ MF σ2 (zs_te k) (x0 / 24) (x0 % 24)), fun _ v5 _ => r * c - v5.toNatClampNeg, ⟨0, Nat.zero_le _, rfl, rfl, zx.rf, hF⟩, ?_⟩
  rintro v3 v5 σ2 ⟨t, ht, rfl, hz, x2, F2⟩
  have hB2 := hB.x x2 (by decide)
  refine e8_tileMany hB2 (pk_le (r * c) t (fun q => ?_) (fun q => zYf nD9 ?_))
  · have e : t = r * c := by omega
    subst e
    exact h v3 σ2 x2 F2 hz
  · have ct : (nI t).toNatClampNeg = t := nI_clamp (by omega)
    have vt : vp_in (nI t) 36 := vp_in_nI (by omega) (by decide)
    have leaf : ∀ v3' σ3, zx σ σ3 [8, 12, 20, 27, 28, 31] [10, 11, 13, 21, 22, 23, 24, 25, 26, 32] → MF σ3 (zs_te k) (x0 / 24) (x0 % 24) → ZA ND (t + 1) v3' → (∃ j, j ≤ r * c ∧ nI t + 1 = nI j ∧ (ZA ND j v3' ∧ zx σ σ3 [8, 12, 20, 27, 28, 31] [10, 11, 13, 21, 22, 23, 24, 25, 26, 32] ∧ MF σ3 (zs_te k) (x0 / 24) (x0 % 24))) ∧ r * c - (nI t + 1).toNatClampNeg < r * c - (nI t).toNatClampNeg := fun v3' σ3 a b c' => zl_leaf (J := fun j σ3 => ZA ND j v3' ∧ zx σ σ3 [8, 12, 20, 27, 28, 31] [10, 11, 13, 21, 22, 23, 24, 25, 26, 32] ∧ MF σ3 (zs_te k) (x0 / 24) (x0 % 24)) q (by omega) ⟨c', a, b⟩
    unfold zq8_needed_140 zq8_needed_133
    refine e8_isUnder hB2 hd hV F2 (by omega) (fun un σ3 x3 => zNf n10 (leaf v3 σ3 (x2.tr (x3.mono (by decide) (by decide))) (F2.x x3 (by decide)) ⟨v3, hz, Or.inr ⟨fun z => ((eND t).mp z).1 un, rfl⟩⟩)) (fun un σ3 x3 => zNt rfl ⟨vt, ?_⟩)
    have x03 : zx σ σ3 [8, 12, 20, 27, 28, 31] [10, 11, 13, 21, 22, 23, 24, 25, 26, 32] := x2.tr (x3.mono (by decide) (by decide))
    have F3 := F2.x x3 (by decide)
    have hB3 := hB.x x03 (by decide)
    rw [ct, hB3.2.2.2.1]
    refine ⟨fun n1 => ⟨vt, fun x35 e35 => ⟨vt, fun g36 h36 => ?_⟩⟩, fun y1 => leaf v3 σ3 x03 F3 ⟨v3, hz, Or.inr ⟨fun z => ((eND t).mp z).2.1 y1, rfl⟩⟩⟩
    have x36 : zx σ3 g36 [] [4] := by rw [h36]; exact zx.A 4 _ (by decide)
    have e4' : g36.2.1 4 = upd tl t 1 := by rw [h36, zz_A2, if_pos rfl]
    have hB36 : MB g36 r c k (upd tl t 1) pr := ⟨(x36.1 2 (by decide)).trans hB3.1, (x36.1 3 (by decide)).trans hB3.2.1, (x36.1 7 (by decide)).trans hB3.2.2.1, e4', (x36.2.1 5 (by decide)).trans hB3.2.2.2.2⟩
    have hlen := bfx_len (tl := upd tl t 1) (pr := pr) hd hV
    refine e8_goesThrough hB36 hd hpr hV (F3.x x36 (by decide)) (fun σ4 x4 F4 hG => ?_)
    have back : ∀ σ5 g40, zx σ4 σ5 [8, 31] [10, 32] → g40 = zz_A σ5 4 (upd (σ5.2.1 4) t x35) → zx σ g40 [8, 12, 20, 27, 28, 31] [10, 11, 13, 21, 22, 23, 24, 25, 26, 32] ∧ zx σ5 g40 [] [4] := by
      intro σ5 g40 x5 h40
      have x40 : zx σ5 g40 [] [4] := by rw [h40]; exact zx.A 4 _ (by decide)
      have bk : g40.2.1 4 = σ.2.1 4 := by
        rw [h40, zz_A2, if_pos rfl, x5.2.1 4 (by decide), x4.2.1 4 (by decide), e4', hB.2.2.2.1, upd_back e35.symm]
      have xx : zx σ g40 [8, 12, 20, 27, 28, 31] [4, 10, 11, 13, 21, 22, 23, 24, 25, 26, 32] := (((x03.mono (by decide) (by decide)).tr (x36.mono (by decide) (by decide))).tr ((x4.mono (by decide) (by decide)).tr (x5.mono (by decide) (by decide)))).tr (x40.mono (by decide) (by decide))
      exact ⟨⟨xx.1, fun j hj => by
        by_cases y : j = 4
        · rw [y]; exact bk
        · exact xx.2.1 j (by simp only [List.mem_cons, List.not_mem_nil, or_false] at hj ⊢; omega), xx.2.2⟩, x40⟩
    refine e8_soonestTo (hB36.x x4 (by decide)) hd F4 hG.1 hlen (fun i e he => bfx_V hV he) (Or.inl rfl) (fun i e σ5 hFG x5 F5 => ⟨vt, fun g40 h40 => ?_⟩) (fun σ5 hNG x5 F5 => ⟨vt, fun g40 h40 => ?_⟩)
    · obtain ⟨b1, b2⟩ := back σ5 g40 x5 h40
      have hfe := bf_far_le 3600 _ _ hFG.1
      have hi := (List.getElem?_eq_some_iff.mp hFG.1).1
      refine zYf (fun z => nI_pos (n := e.2.2) (by omega) (by rw [z]; decide)) (pk_le e.2.2 D (fun u => leaf v3 g40 b1 (F5.x b2 (by decide)) ⟨v3, hz, Or.inr ⟨fun z => by have := (Later.fg hFG).mp ((eND t).mp z).2.2; omega, rfl⟩⟩) (fun u x27 e27 => leaf x27 g40 b1 (F5.x b2 (by decide)) ⟨v3, hz, Or.inl ⟨(eND t).mpr ⟨un, n1, (Later.fg hFG).mpr u⟩, e27⟩⟩))
    · obtain ⟨b1, b2⟩ := back σ5 g40 x5 h40
      exact zYt rfl (fun x27 e27 => leaf x27 g40 b1 (F5.x b2 (by decide)) ⟨v3, hz, Or.inl ⟨(eND t).mpr ⟨un, n1, Later.ng hNG⟩, e27⟩⟩)
end SL
