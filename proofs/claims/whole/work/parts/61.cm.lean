/-! call: board; what the letters lay -/
def zs_sg (v : Int32) : Int32 := match zs_sgn v with
  | some w => nI w
  | none => -1
def zs_tl (L : Nat → Int32) (f : Nat → Int32) : Nat → Nat × (Nat → Int32)
  | 0 => (0, f)
  | i + 1 => if L i = 59 then zs_tl L f i else ((zs_tl L f i).1 + 1, upd (zs_tl L f i).2 (zs_tl L f i).1 (zs_sg (L i)))
theorem zs_tl59 {L f : Nat → Int32} {i : Nat} (h : L i = 59) : zs_tl L f (i + 1) = zs_tl L f i := if_pos h
theorem zs_tlno {L f : Nat → Int32} {i : Nat} (h : ¬ L i = 59) : zs_tl L f (i + 1) = ((zs_tl L f i).1 + 1, upd (zs_tl L f i).2 (zs_tl L f i).1 (zs_sg (L i))) := if_neg h
theorem zs_tl_cnt {L f : Nat → Int32} : ∀ (i : Nat) (q : Nat × Nat × Nat), BS L i q → (zs_tl L f i).1 = q.1 * q.2.1 + q.2.2 := by
  intro i
  induction i with
  | zero => intro q h; rw [h]; rfl
  | succ i ih =>
    rintro q ⟨⟨R, C, W⟩, a1, a2, a3⟩
    have h := ih _ a1
    unfold zs_bad at a2
    unfold zs_nxt at a3
    dsimp only at *
    by_cases z : L i = 59
    · rw [if_pos z] at a2 a3
      rw [zs_tl59 z, h, a3]
      dsimp only
      rw [Nat.succ_mul]
      by_cases r : R = 0
      · rw [r]; simp
      · have : W = C := Classical.byContradiction fun u => a2 (Or.inr ⟨by omega, u⟩)
        rw [this]
        omega
    · rw [if_neg z] at a3
      rw [zs_tlno z, h, a3]
      show R * C + W + 1 = R * C + (W + 1)
      omega
theorem zs_tl_lt {L f : Nat → Int32} {i : Nat} {q : Nat × Nat × Nat} (h : BS L i q) (hb : ¬ zs_bad (L i) q) (hn : ¬ L i = 59) : (zs_tl L f i).1 < 36 := by
  rw [zs_tl_cnt i q h]
  obtain ⟨b1, b2, b3, b4⟩ := BS_inv i q h
  obtain ⟨R, C, W⟩ := q
  unfold zs_bad at hb
  rw [if_neg hn] at hb
  dsimp only at *
  have h6 : ¬ R = 6 := fun u => hb (Or.inr (Or.inl u))
  have hw : ¬ W = (if R = 0 then 6 else C) := fun u => hb (Or.inr (Or.inr u))
  by_cases r : R = 0
  · rw [if_pos r] at hw
    rw [r, Nat.zero_mul]
    omega
  · rw [if_neg r] at hw
    have := b3 (by omega)
    have h2 : (R + 1) * C ≤ 6 * 6 := Nat.mul_le_mul (by omega) this.2.1
    rw [Nat.succ_mul] at h2
    omega
theorem zs_tl_le {L f : Nat → Int32} : ∀ i j, i ≤ j → (zs_tl L f i).1 ≤ (zs_tl L f j).1 := by
  intro i j
  induction j with
  | zero => intro h; rw [show i = 0 from by omega]; exact Nat.le_refl _
  | succ j ih =>
    intro h
    rcases Nat.lt_or_ge j i with z | z
    · rw [show i = j + 1 from by omega]; exact Nat.le_refl _
    · refine Nat.le_trans (ih z) ?_
      by_cases y : L j = 59
      · rw [zs_tl59 y]; exact Nat.le_refl _
      · rw [zs_tlno y]; exact Nat.le_succ _
theorem zs_tl_congr {L L' f f' : Nat → Int32} (n : Nat) (hL : ∀ i, i < n → L i = L' i) (hf : ∀ t, t < 36 → f t = f' t) : ∀ i, i ≤ n → (zs_tl L f i).1 = (zs_tl L' f' i).1 ∧ ∀ t, t < 36 → (zs_tl L f i).2 t = (zs_tl L' f' i).2 t := by
  intro i
  induction i with
  | zero => intro _; exact ⟨rfl, hf⟩
  | succ i ih =>
    intro hi
    obtain ⟨h1, h2⟩ := ih (by omega)
    have e := hL i (by omega)
    by_cases z : L i = 59
    · rw [zs_tl59 z, zs_tl59 (by rw [← e]; exact z)]
      exact ⟨h1, h2⟩
    · rw [zs_tlno z, zs_tlno (by rw [← e]; exact z), h1, e]
      refine ⟨rfl, fun t ht => ?_⟩
      show upd _ _ _ t = upd _ _ _ t
      by_cases y : t = (zs_tl L' f' i).1
      · rw [y, pk_us, pk_us]
      · rw [pk_un y, pk_un y]; exact h2 t ht
/-- the letters are a board without fault -/
def BOK (L : Nat → Int32) (n R C : Nat) : Prop := ∃ q, BS L n q ∧ q.1 = R ∧ q.2.1 = C ∧ q.2.2 = 0 ∧ 0 < R
theorem BOK.at {L : Nat → Int32} {n R C i : Nat} (h : BOK L n R C) (hi : i < n) : ∃ q, BS L i q ∧ ¬ zs_bad (L i) q := by
  obtain ⟨q, a, _⟩ := h
  obtain ⟨q1, q0, b1, b2, b3⟩ := BS_down a (i + 1) hi
  exact ⟨q0, b1, b2⟩
theorem BOK.dim {L : Nat → Int32} {n R C k : Nat} (h : BOK L n R C) (hk : k < 6) : zs_dim R C k := by
  obtain ⟨q, a, b, c, d, e⟩ := h
  obtain ⟨b1, b2, b3, b4⟩ := BS_inv n q a
  have := b3 (by omega)
  exact ⟨e, by omega, by omega, by omega, hk⟩
theorem Rel.rl2 {σ σ' τ τ' : zz_St} (h : Rel σ τ) (hx : zy σ σ' [15, 16, 17] [14]) (hy : zy τ τ' [12] [18]) (hL : RLt σ' τ') : Rel σ' τ' := by
  obtain ⟨⟨r, c, k, h0⟩, _, hS, hK, hF, hI, hT⟩ := h
  exact ⟨⟨r, c, k, h0.x hx hy (by decide) (by decide)⟩, hL, hS.x hx hy (by decide), hK.x hx hy (by decide), hF.x hx hy (by decide), hI.x hx hy (by decide) (by decide), hT.y hy (by decide) (by decide)⟩
section CM
variable {σ τ : zz_St} {r c k : Nat}
theorem e6_clearPrints {Q : zz_St → Prop} (h : ∀ τ2, zx τ τ2 [] [16] → (∀ i, i < 36 → τ2.2.1 16 i = -1) → Q τ2) : zq6_clearPrints τ Q := by
  unfold zq6_clearPrints
  intro f hf g hg
  refine h g (by rw [hg]; exact zx.A 16 _ (by decide)) (fun i hi => ?_)
  rw [hg, zz_A2, if_pos rfl]
  exact hf i hi
theorem e6_readBoard {Q : zz_St → Prop} {n R C : Nat} (hn : n ≤ 72) (h12 : τ.1 12 = nI n) (hO : BOK (τ.2.1 18) n R C) (h6 : τ.1 6 = nI k) (hk : k < 6)
    (h : ∀ τ2, zx τ τ2 [2, 4, 8] [14, 16] → τ2.1 2 = nI R → τ2.1 4 = nI C → τ2.2.1 14 = (zs_tl (τ.2.1 18) (τ.2.1 14) n).2 → (∀ i, i < 36 → τ2.2.1 16 i = -1) → ((zs_pl k 0 (τ2.2.1 14) ∧ τ2.1 8 = 0) ∨ (¬ zs_pl k 0 (τ2.2.1 14) ∧ τ2.1 8 = -1)) → Q τ2) : zq6_readBoard τ Q := by
  have hdim := hO.dim hk
  obtain ⟨qn, q1, q2, q3, q4, q5⟩ := id hO
  unfold zq6_readBoard
  intro g28 h28
  have x28 : zx τ g28 [2] [] := by rw [h28]; exact zx.I 2 _ (by decide)
  unfold zq6_readBoard_9 zq6_readBoard_59
  refine ⟨fun v2 v3 τ2 => ∃ i, i ≤ n ∧ v3 = nI i ∧ (zx τ τ2 [2] [14] ∧ v2 = nI (zs_tl (τ.2.1 18) (τ.2.1 14) i).1 ∧ τ2.2.1 14 = (zs_tl (τ.2.1 18) (τ.2.1 14) i).2 ∧ ∃ q, BS (τ.2.1 18) i q ∧ τ2.1 2 = nI q.1), fun _ v3 _ => n - v3.toNatClampNeg, ⟨0, Nat.zero_le _, rfl, x28.mono (by decide) (by decide), rfl, x28.2.1 14 (by decide), (0, 0, 0), rfl, ?_⟩, ?_⟩
  · rw [h28, zz_I1, if_pos rfl]; rfl
  rintro v2 v3 τ2 ⟨i, hi, rfl, hx, rfl, e14, q, hq, e2⟩
  rw [hx.1 12 (by decide), h12]
  refine pk_le n i (fun z => ?_) (fun z => ?_)
  · have hin : i = n := by omega
    subst hin
    have eq := BS_uni i q qn hq q1
    subst eq
    rw [e2, q2]
    refine zYf (nI_nle q5 (by have := hdim.2.1; omega)) ⟨nI_ne0 q5 (by have := hdim.2.1; omega), ?_⟩
    have hcnt := zs_tl_cnt (f := τ.2.1 14) i q hq
    rw [q2, q3, q4, Nat.add_zero] at hcnt
    have hrc := zs_rc hdim.2.1 hdim.2.2.2.1
    have ediv : nI (zs_tl (τ.2.1 18) (τ.2.1 14) i).1 / nI R = nI C := by
      rw [hcnt, pk_div (by omega) q5 (by have := hdim.2.1; omega), Nat.mul_div_cancel_left C q5]
    rw [ediv]
    unfold zq6_readBoard_83
    intro g15 h15
    have x15 : zx τ2 g15 [4] [] := by rw [h15]; exact zx.I 4 _ (by decide)
    refine e6_clearPrints (fun g16 x16 hp => ?_)
    have xx : zx τ g16 [2, 4] [14, 16] := ((hx.mono (by decide) (by decide)).tr (x15.mono (by decide) (by decide))).tr (x16.mono (by decide) (by decide))
    have k2 : g16.1 2 = nI R := by rw [x16.1 2 (by decide), x15.1 2 (by decide), e2, q2]
    have k4 : g16.1 4 = nI C := by rw [x16.1 4 (by decide), h15, zz_I1, if_pos rfl]
    have k6 : g16.1 6 = nI k := (xx.1 6 (by decide)).trans h6
    have k14 : g16.2.1 14 = (zs_tl (τ.2.1 18) (τ.2.1 14) i).2 := by rw [x16.2.1 14 (by decide), x15.2.1 14 (by decide)]; exact e14
    rw [k6]
    have hnp : 0 < zs_np R C k := by
      have : 0 < R * C := Nat.mul_pos hdim.1 hdim.2.2.1
      unfold zs_np
      split <;> omega
    refine e6_mayBePlaced (tl := g16.2.1 14) (pr := g16.2.1 16) (r := R) (c := C) (k := k) (j := k) (p := 0) ⟨k2, k4, k6, rfl, rfl⟩ hdim hnp (fun y => zYf n10 ?_) (fun y => zYt n00 (fun g19 h19 => ?_))
    · unfold zq6_setSolid
      intro g3 h3 g4 h4
      have x3 : zx g16 g3 [6] [] := by rw [h3]; exact zx.I 6 _ (by decide)
      have x4 : zx g3 g4 [8] [] := by rw [h4]; exact zx.I 8 _ (by decide)
      have e6 : g3.1 6 = g16.1 6 := by rw [h3, zz_I1, if_pos rfl, k6]
      have x34 : zx g16 g4 [6, 8] [] := (x3.mono (by decide) (by decide)).tr (x4.mono (by decide) (by decide))
      have y34 : zx g16 g4 [8] [] := ⟨fun a ha => by
        by_cases u : a = 6
        · rw [u, x4.1 6 (by decide), e6]
        · exact x34.1 a (by simp only [List.mem_cons, List.not_mem_nil, or_false] at ha ⊢; omega), x34.2.1, x34.2.2⟩
      refine h g4 ((xx.mono (by decide) (by decide)).tr (y34.mono (by decide) (by decide))) ?_ ?_ ?_ (fun i hi => ?_) (Or.inl ⟨?_, ?_⟩)
      · rw [y34.1 2 (by decide)]; exact k2
      · rw [y34.1 4 (by decide)]; exact k4
      · rw [y34.2.1 14 (by decide)]; exact k14
      · rw [y34.2.1 16 (by decide)]; exact hp i hi
      · rw [y34.2.1 14 (by decide)]; exact y
      · rw [h4, zz_I1, if_pos rfl]; decide
    · have x19 : zx g16 g19 [8] [] := by rw [h19]; exact zx.I 8 _ (by decide)
      refine h g19 ((xx.mono (by decide) (by decide)).tr (x19.mono (by decide) (by decide))) ?_ ?_ ?_ (fun i hi => ?_) (Or.inr ⟨?_, ?_⟩)
      · rw [x19.1 2 (by decide)]; exact k2
      · rw [x19.1 4 (by decide)]; exact k4
      · rw [x19.2.1 14 (by decide)]; exact k14
      · rw [x19.2.1 16 (by decide)]; exact hp i hi
      · rw [x19.2.1 14 (by decide)]; exact y
      · rw [h19, zz_I1, if_pos rfl]
  · obtain ⟨q0, c1, c2⟩ := hO.at z
    have eq := BS_uni i q q0 hq c1
    subst eq
    have hb := BS_inv i q hq
    have eL : τ2.2.1 18 = τ.2.1 18 := hx.2.1 18 (by decide)
    refine e1_tileAt (by omega) (fun w hw => zYt (nI_pos' (by have := zs_sgn_lt hw; omega)) ?_) (fun hw => zYf (by decide) (fun g27 h27 => ?_))
    · rw [eL] at hw
      have n59 : ¬ τ.2.1 18 i = 59 := fun u => by rw [u, zs_sgn59] at hw; cases hw
      have hc := zs_tl_lt (f := τ.2.1 14) hq c2 n59
      refine zYf (fun u => absurd u (nI_ge (b := 36) hc (by decide))) ?_
      have cc : (nI (zs_tl (τ.2.1 18) (τ.2.1 14) i).1).toNatClampNeg = (zs_tl (τ.2.1 18) (τ.2.1 14) i).1 := nI_clamp (by omega)
      rw [cc]
      refine ⟨vp_in_nI hc (by decide), fun g26 h26 => ?_⟩
      have x26 : zx τ2 g26 [] [14] := by rw [h26]; exact zx.A 14 _ (by decide)
      have := zl_leaf (J := fun j τ2 => zx τ τ2 [2] [14] ∧ nI (zs_tl (τ.2.1 18) (τ.2.1 14) i).1 + 1 = nI (zs_tl (τ.2.1 18) (τ.2.1 14) j).1 ∧ τ2.2.1 14 = (zs_tl (τ.2.1 18) (τ.2.1 14) j).2 ∧ ∃ q, BS (τ.2.1 18) j q ∧ τ2.1 2 = nI q.1) (g := g26) z (by omega) ⟨hx.tr (x26.mono (by decide) (by decide)), ?_, ?_, zs_nxt (τ.2.1 18 i) q, ⟨q, hq, c2, rfl⟩, ?_⟩
      · exact this
      · rw [zs_tlno n59, nI_1]
      · rw [h26, zz_A2, if_pos rfl, e14, zs_tlno n59]
        show upd _ _ _ = upd _ _ _
        unfold zs_sg
        rw [hw]
      · rw [x26.1 2 (by decide), e2]
        unfold zs_nxt
        rw [if_neg n59]
    · rw [eL] at hw
      have y59 : τ.2.1 18 i = 59 := Classical.byContradiction fun u => c2 (by unfold zs_bad; rw [if_neg u]; exact Or.inl hw)
      have x27 : zx τ2 g27 [2] [] := by rw [h27]; exact zx.I 2 _ (by decide)
      have := zl_leaf (J := fun j τ2 => zx τ τ2 [2] [14] ∧ nI (zs_tl (τ.2.1 18) (τ.2.1 14) i).1 = nI (zs_tl (τ.2.1 18) (τ.2.1 14) j).1 ∧ τ2.2.1 14 = (zs_tl (τ.2.1 18) (τ.2.1 14) j).2 ∧ ∃ q, BS (τ.2.1 18) j q ∧ τ2.1 2 = nI q.1) (g := g27) z (by omega) ⟨hx.tr (x27.mono (by decide) (by decide)), ?_, ?_, zs_nxt (τ.2.1 18 i) q, ⟨q, hq, c2, rfl⟩, ?_⟩
      · exact this
      · rw [zs_tl59 y59]
      · rw [x27.2.1 14 (by decide), e14, zs_tl59 y59]
      · rw [h27, zz_I1, if_pos rfl, e2, nI_1]
        unfold zs_nxt
        rw [if_pos y59]
theorem e8_board_40 {Q : Int32 → zz_St → Prop} {n R C : Nat} (hn : n ≤ 72) (h15 : σ.1 15 = nI n) (hO : BOK (σ.2.1 14) n R C) (h2 : σ.1 2 = nI R) (h3 : σ.1 3 = nI C) (h7 : σ.1 7 = nI k) (hk : k < 6)
    (h : ∀ σ2, zx σ σ2 [8, 9, 12, 15, 19] [4, 5, 10, 11] → σ2.2.1 4 = (zs_tl (σ.2.1 14) (σ.2.1 4) n).2 → (∀ i, i < 36 → σ2.2.1 5 i = -1) → σ2.1 15 = 0 → σ2.1 19 = 0 → σ2.1 8 = 0 → (∀ i, i < 6 → σ2.2.1 10 i = nI i) → ((zs_pl k 0 (σ2.2.1 4) ∧ σ2.1 9 = 1) ∨ (¬ zs_pl k 0 (σ2.2.1 4) ∧ σ2.1 9 = 0)) → Q (nI (R * C)) σ2) : zq8_board_40 0 0 σ Q := by
  have hdim := hO.dim hk
  unfold zq8_board_40 zq8_board_80
  refine ⟨fun v2 v3 σ2 => ∃ i, i ≤ n ∧ v3 = nI i ∧ (zx σ σ2 [] [4] ∧ v2 = nI (zs_tl (σ.2.1 14) (σ.2.1 4) i).1 ∧ σ2.2.1 4 = (zs_tl (σ.2.1 14) (σ.2.1 4) i).2), fun _ v3 _ => n - v3.toNatClampNeg, ⟨0, Nat.zero_le _, rfl, zx.rf, rfl, rfl⟩, ?_⟩
  rintro v2 v3 σ2 ⟨i, hi, rfl, hx, rfl, e4⟩
  rw [hx.1 15 (by decide), h15]
  refine pk_le n i (fun z => ?_) (fun z => ⟨vp_in_nI (by omega) (by decide), ?_⟩)
  · have hin : i = n := by omega
    subst hin
    unfold zq8_board_88
    refine zl_fill (dst := 5) (N := 36) (by decide) (fun σ3 x3 hp _ => fun g21 h21 g22 h22 => ?_)
    have x21 : zx σ3 g21 [15] [] := by rw [h21]; exact zx.I 15 _ (by decide)
    have x22 : zx g21 g22 [19] [] := by rw [h22]; exact zx.I 19 _ (by decide)
    refine e8_placesAt (fun g23 x23 b8 b10 => ?_)
    have xx : zx σ g23 [8, 15, 19] [4, 5, 10] := ((((hx.mono (by decide) (by decide)).tr (x3.mono (by decide) (by decide))).tr (x21.mono (by decide) (by decide))).tr (x22.mono (by decide) (by decide))).tr (x23.mono (by decide) (by decide))
    have k4 : g23.2.1 4 = (zs_tl (σ.2.1 14) (σ.2.1 4) i).2 := by rw [x23.2.1 4 (by decide), x22.2.1 4 (by decide), x21.2.1 4 (by decide), x3.2.1 4 (by decide)]; exact e4
    have k5 : ∀ j, j < 36 → g23.2.1 5 j = -1 := fun j hj => by rw [x23.2.1 5 (by decide), x22.2.1 5 (by decide), x21.2.1 5 (by decide)]; exact hp j hj
    have k15 : g23.1 15 = 0 := by rw [x23.1 15 (by decide), x22.1 15 (by decide), h21, zz_I1, if_pos rfl]
    have k19 : g23.1 19 = 0 := by rw [x23.1 19 (by decide), h22, zz_I1, if_pos rfl]
    have hB : MB g23 R C k (g23.2.1 4) (g23.2.1 5) := ⟨(xx.1 2 (by decide)).trans h2, (xx.1 3 (by decide)).trans h3, (xx.1 7 (by decide)).trans h7, rfl, rfl⟩
    have hnp : 0 < zs_np R C k := by
      have : 0 < R * C := Nat.mul_pos hdim.1 hdim.2.2.1
      unfold zs_np
      split <;> omega
    have fin : ∀ (rr : Int32) (σ4 : zz_St), zx g23 σ4 [12] [11] → ((zs_pl k 0 (g23.2.1 4) ∧ rr = 1) ∨ (¬ zs_pl k 0 (g23.2.1 4) ∧ rr = 0)) → (rr = 0 ∨ rr = 1) ∧ ∀ g26 : zz_St, g26 = zz_I σ4 9 rr → zq8_tileMany g26 (fun r27 => Q r27 g26) := by
      intro rr σ4 x4 hr
      refine ⟨hr.elim (fun y => Or.inr y.2) (fun y => Or.inl y.2), fun g26 h26 => ?_⟩
      have x26 : zx σ4 g26 [9] [] := by rw [h26]; exact zx.I 9 _ (by decide)
      have y : zx g23 g26 [9, 12] [11] := (x4.mono (by decide) (by decide)).tr (x26.mono (by decide) (by decide))
      refine e8_tileMany (hB.x y (by decide)) (h g26 ((xx.mono (by decide) (by decide)).tr (y.mono (by decide) (by decide))) ?_ (fun j hj => ?_) ?_ ?_ ?_ (fun j hj => ?_) ?_)
      · rw [y.2.1 4 (by decide)]; exact k4
      · rw [y.2.1 5 (by decide)]; exact k5 j hj
      · rw [y.1 15 (by decide)]; exact k15
      · rw [y.1 19 (by decide)]; exact k19
      · rw [y.1 8 (by decide)]; exact b8
      · rw [y.2.1 10 (by decide)]; exact b10 j hj
      · rw [y.2.1 4 (by decide), h26, zz_I1, if_pos rfl]; exact hr
    exact e8_mayPlace (p := 0) hB hdim hnp b8 b10 (fun y σ4 x4 => fin 1 σ4 x4 (Or.inl ⟨y, rfl⟩)) (fun y σ4 x4 => fin 0 σ4 x4 (Or.inr ⟨y, rfl⟩))
  · obtain ⟨q, hq, c2⟩ := hO.at z
    have ci : (nI i).toNatClampNeg = i := nI_clamp (by omega)
    have eL : σ2.2.1 14 = σ.2.1 14 := hx.2.1 14 (by decide)
    rw [ci, eL]
    refine ⟨fun n59 => ⟨vp_in_nI (by omega) (by decide), ?_⟩, fun y59 => ?_⟩
    · have hc := zs_tl_lt (f := σ.2.1 4) hq c2 n59
      have cc : (nI (zs_tl (σ.2.1 14) (σ.2.1 4) i).1).toNatClampNeg = (zs_tl (σ.2.1 14) (σ.2.1 4) i).1 := nI_clamp (by omega)
      have lay : ∀ rr : Int32, rr = zs_sg (σ.2.1 14 i) → vp_in (nI (zs_tl (σ.2.1 14) (σ.2.1 4) i).1) 36 ∧ ∀ g32 : zz_St, g32 = zz_A σ2 4 (upd (σ2.2.1 4) (nI (zs_tl (σ.2.1 14) (σ.2.1 4) i).1).toNatClampNeg rr) → (∃ j, j ≤ n ∧ nI i + 1 = nI j ∧ (zx σ g32 [] [4] ∧ nI (zs_tl (σ.2.1 14) (σ.2.1 4) i).1 + 1 = nI (zs_tl (σ.2.1 14) (σ.2.1 4) j).1 ∧ g32.2.1 4 = (zs_tl (σ.2.1 14) (σ.2.1 4) j).2)) ∧ n - (nI i + 1).toNatClampNeg < n - (nI i).toNatClampNeg := by
        intro rr er
        refine ⟨vp_in_nI hc (by decide), fun g32 h32 => ?_⟩
        rw [cc] at h32
        refine zl_leaf (J := fun j g32 => zx σ g32 [] [4] ∧ nI (zs_tl (σ.2.1 14) (σ.2.1 4) i).1 + 1 = nI (zs_tl (σ.2.1 14) (σ.2.1 4) j).1 ∧ g32.2.1 4 = (zs_tl (σ.2.1 14) (σ.2.1 4) j).2) z (by omega) ⟨?_, ?_, ?_⟩
        · rw [h32]; exact hx.tr (zx.A 4 _ (by decide))
        · rw [zs_tlno n59, nI_1]
        · rw [h32, zz_A2, if_pos rfl, e4, zs_tlno n59, er]
      refine e8_signOf (fun w hw => ?_) (fun hw => ?_)
      · have := lay (nI w) (by unfold zs_sg; rw [hw])
        exact this
      · have := lay (-1) (by unfold zs_sg; rw [hw])
        exact this
    · have := zl_leaf (J := fun j g32 => zx σ g32 [] [4] ∧ nI (zs_tl (σ.2.1 14) (σ.2.1 4) i).1 = nI (zs_tl (σ.2.1 14) (σ.2.1 4) j).1 ∧ g32.2.1 4 = (zs_tl (σ.2.1 14) (σ.2.1 4) j).2) (g := σ2) z (by omega) ⟨hx, by rw [zs_tl59 y59], by rw [e4, zs_tl59 y59]⟩
      exact this
theorem R_board (h : Rel σ τ) : zq7_board τ (fun a τ' => zq8_board σ (fun b σ' => RQ τ' a b σ')) := by
  obtain ⟨⟨r, c, k, h0⟩, hE⟩ := id h
  obtain ⟨n, hn, h15, h12, hlt⟩ := hE.1
  have hd := h0.dim
  unfold zq7_board zq8_board
  refine e1_boardFault hn h12 (fun res hres => ?_)
  have hres' : BR (σ.2.1 14) n res := BR_congr (fun i hi => (hlt i hi).symm) hres
  have M : ∀ {Q : Int32 → zz_St → Prop}, (¬ res < 0 → ∀ g38, zx σ g38 [15, 16, 17] [] → g38.1 15 = 0 → Q (-1000 - res) g38) → (res = -1 → ∀ R C σ2, zx σ σ2 [2, 3, 16, 17] [] → BOK (σ.2.1 14) n R C → σ2.1 2 = nI R → σ2.1 3 = nI C → zq8_board_40 0 0 σ2 Q) → zq8_boardFault σ (fun r33 g34 => ((r33 < 0) → ∀ g36 : zz_St, g36 = zz_I g34 2 (g34.1 16) → ∀ g37 : zz_St, g37 = zz_I g36 3 (g36.1 17) → zq8_board_40 (0 : Int32) (0 : Int32) g37 Q) ∧ (¬ (r33 < 0) → ∀ g38 : zz_St, g38 = zz_I g34 15 (0 : Int32) → Q ((-1000 : Int32) - r33) g38)) := by
    intro Q m1 m2
    refine e8_boardFault hn h15 (fun r2 σ2 x2 hb hq => ?_)
    have e := BR_uni hb hres'
    subst e
    refine ⟨fun z g36 h36 g37 h37 => ?_, fun z g38 h38 => ?_⟩
    · have em : r2 = -1 := by
        rcases hb with ⟨i, q, a1, _, _, a4⟩ | ⟨q, _, ⟨_, a⟩ | ⟨_, a⟩⟩
        · rw [a4] at z; exact absurd z (nI_pos (by omega))
        · rw [a] at z; exact absurd z (nI_pos (by omega))
        · exact a
      obtain ⟨q, b1, b2, b3, b4⟩ := hq em
      have x36 : zx σ2 g36 [2] [] := by rw [h36]; exact zx.I 2 _ (by decide)
      have x37 : zx g36 g37 [3] [] := by rw [h37]; exact zx.I 3 _ (by decide)
      refine m2 em q.1 q.2.1 g37 (((x2.mono (by decide) (by decide)).tr (x36.mono (by decide) (by decide))).tr (x37.mono (by decide) (by decide))) ⟨q, b1, rfl, rfl, by omega, by omega⟩ ?_ ?_
      · rw [x37.1 2 (by decide), h36, zz_I1, if_pos rfl, b3]
      · rw [h37, zz_I1, if_pos rfl, x36.1 17 (by decide), b4]
    · have x38 : zx σ2 g38 [15] [] := by rw [h38]; exact zx.I 15 _ (by decide)
      exact m1 z g38 ((x2.mono (by decide) (by decide)).tr (x38.mono (by decide) (by decide))) (by rw [h38, zz_I1, if_pos rfl])
  refine ⟨fun z => ?_, fun z => ?_⟩
  · unfold zq7_board_30 zq1_clear
    intro g8 h8
    have x8 : zx τ g8 [12] [] := by rw [h8]; exact zx.I 12 _ (by decide)
    refine zYt z (M (fun _ g38 x38 e15 => ⟨rfl, ?_⟩) (fun e => absurd z (by rw [e]; decide)))
    exact h.rl2 (x38.mono (by decide) (by decide)).y (x8.mono (by decide) (by decide)).y ⟨0, by decide, e15, by rw [h8, zz_I1, if_pos rfl]; rfl, fun i hi => absurd hi (Nat.not_lt_zero i)⟩
  · have em : res = -1 := by
      rcases hres with ⟨i, q, a1, _, _, a4⟩ | ⟨q, _, ⟨_, a⟩ | ⟨_, a⟩⟩
      · rw [a4] at z; exact absurd (nI_pos' (by omega)) z
      · rw [a] at z; exact absurd (nI_pos' (by omega)) z
      · exact a
    obtain ⟨q, c1, c2, c3⟩ : ∃ q, BS (τ.2.1 18) n q ∧ 0 < q.1 ∧ q.2.2 = 0 := by
      rcases hres with ⟨i, q, a1, _, _, a4⟩ | ⟨q, a0, ⟨_, a⟩ | ⟨b, _⟩⟩
      · rw [a4] at em; exact absurd em (zn_nm1 (by omega))
      · rw [a] at em; exact absurd em (zn_nm1 (by omega))
      · exact ⟨q, a0, by omega, by omega⟩
    have hO : BOK (τ.2.1 18) n q.1 q.2.1 := ⟨q, c1, rfl, rfl, c3, c2⟩
    have hk6 := hd.2.2.2.2
    have hdim := hO.dim hk6
    refine e6_readBoard hn h12 hO h0.2.1.2.2 hk6 (fun τ2 y2 t2 t4 t14 t16 t8 => ?_)
    unfold zq0_forget zq7_board_30 zq1_clear
    intro g14 h14 g8 h8
    have y14 : zx τ2 g14 [15] [] := by rw [h14]; exact zx.I 15 _ (by decide)
    have y8 : zx g14 g8 [12] [] := by rw [h8]; exact zx.I 12 _ (by decide)
    have y28 : zx τ2 g8 [12, 15] [] := (y14.mono (by decide) (by decide)).tr (y8.mono (by decide) (by decide))
    have yy : zx τ g8 [2, 4, 8, 12, 15] [14, 16] := (y2.mono (by decide) (by decide)).tr (y28.mono (by decide) (by decide))
    have u2 : g8.1 2 = nI q.1 := by rw [y28.1 2 (by decide)]; exact t2
    have u4 : g8.1 4 = nI q.2.1 := by rw [y28.1 4 (by decide)]; exact t4
    refine zYf z (e6_tileCount (k := k) ⟨u2, u4, (yy.1 6 (by decide)).trans h0.2.1.2.2⟩ ?_)
    refine M (fun zz => absurd (by rw [em]; decide) zz) (fun _ R C σ2 x2 hO2 s2 s3 => ?_)
    obtain ⟨q2, d1, d2, d3, d4, d5⟩ := id hO2
    have eq := BS_uni n q2 q (BS_congr n hlt n (Nat.le_refl n) q2 d1) c1
    subst eq
    subst d2; subst d3
    refine e8_board_40 (k := k) hn ((x2.1 15 (by decide)).trans h15) (by rw [x2.2.1 14 (by decide)]; exact hO2) s2 s3 ((x2.1 7 (by decide)).trans h0.1.2.2) hk6 (fun σ3 x3 m4 m5 m15 m19 m8 m10 m9 => ⟨rfl, ?_⟩)
    have xx : zx σ σ3 [2, 3, 8, 9, 12, 15, 16, 17, 19] [4, 5, 10, 11] := (x2.mono (by decide) (by decide)).tr (x3.mono (by decide) (by decide))
    have htl : ∀ i, i < 36 → σ3.2.1 4 i = g8.2.1 14 i := by
      intro i hi
      rw [m4, y28.2.1 14 (by decide), t14, x2.2.1 14 (by decide), x2.2.1 4 (by decide)]
      exact (zs_tl_congr n hlt h0.2.2.1.2.1 n (Nat.le_refl n)).2 i hi
    obtain ⟨d, nx, _, hnx, _, _, hnx2, _⟩ := h0.2.2.2
    obtain ⟨w1, w2, w3, w4, w5⟩ := h0.2.2.1
    have r0 : R0 q2.1 q2.2.1 k σ3 g8 := by
      refine ⟨⟨?_, ?_, ?_⟩, ⟨u2, u4, (yy.1 6 (by decide)).trans h0.2.1.2.2⟩, ⟨hdim, htl, fun i hi => ?_, ?_, ?_⟩, RH.none (nx := nx) m19 ?_ ?_ hnx⟩
      · rw [x3.1 2 (by decide)]; exact s2
      · rw [x3.1 3 (by decide)]; exact s3
      · rw [xx.1 7 (by decide)]; exact h0.1.2.2
      · rw [m5 i hi, y28.2.1 16 (by decide), t16 i hi]; exact ⟨rfl, Or.inl rfl⟩
      · rw [xx.1 6 (by decide), yy.1 10 (by decide)]; exact w4
      · have epl : zs_pl k 0 (σ3.2.1 4) ↔ zs_pl k 0 (τ2.2.1 14) := by
          unfold zs_pl
          have e0 : (if 4 ≤ k then 0 / 2 else 0) = 0 := by split <;> rfl
          rw [e0, htl 0 (by decide), y28.2.1 14 (by decide)]
        rcases m9 with ⟨a1, a2⟩ | ⟨a1, a2⟩
        · rcases t8 with ⟨b1, b2⟩ | ⟨b1, b2⟩
          · refine Or.inr ⟨a2, 0, ?_, m8, fun i hi => ?_, ?_⟩
            · have hnp : 0 < zs_np q2.1 q2.2.1 k := by
                have : 0 < q2.1 * q2.2.1 := Nat.mul_pos hdim.1 hdim.2.2.1
                unfold zs_np
                split <;> omega
              exact zs_V_0 hdim hnp
            · rw [m10 i hi]; show nI i = nI (zs_FA (zs_te k) 0 i); rw [zs_FA_0 _ i hi]
            · rw [y28.1 8 (by decide)]; exact b2
          · exact absurd (epl.mp a1) b1
        · rcases t8 with ⟨b1, b2⟩ | ⟨b1, b2⟩
          · exact absurd (epl.mpr b1) a1
          · refine Or.inl ⟨a2, ?_⟩
            rw [y28.1 8 (by decide), b2]; decide
      · rw [y8.1 15 (by decide), h14, zz_I1, if_pos rfl]
      · rw [yy.1 14 (by decide)]; exact hnx2
    have hE2 := hE
    obtain ⟨_, hS, hK, hF, hI, hT⟩ := hE2
    exact ⟨⟨_, _, _, r0⟩, ⟨0, by decide, m15, by rw [h8, zz_I1, if_pos rfl]; rfl, fun i hi => absurd hi (Nat.not_lt_zero i)⟩, hS.x xx.y yy.y (by decide), hK.x xx.y yy.y (by decide), hF.x xx.y yy.y (by decide), hI.x xx.y yy.y (by decide) (by decide), hT.y yy.y (by decide) (by decide)⟩
end CM
