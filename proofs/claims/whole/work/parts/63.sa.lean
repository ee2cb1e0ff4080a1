/-! searches: the first goal; calls soonest, faces -/
/-- the first of the list that is a goal -/
def FG (k : Nat) (p f : Int32) (l : List (Nat × Nat × Nat)) (i : Nat) (e : Nat × Nat × Nat) : Prop := l[i]? = some e ∧ zs_goal k p f e.1 ∧ ∀ j, j < i → ∀ z, l[j]? = some z → ¬ zs_goal k p f z.1
def NG (k : Nat) (p f : Int32) (l : List (Nat × Nat × Nat)) : Prop := ∀ (i : Nat) (z : Nat × Nat × Nat), l[i]? = some z → ¬ zs_goal k p f z.1
theorem FG.uni {k : Nat} {p f : Int32} {l : List (Nat × Nat × Nat)} {i j : Nat} {e e' : Nat × Nat × Nat} (h : FG k p f l i e) (h' : FG k p f l j e') : i = j ∧ e = e' := by
  have : i = j := by
    rcases Nat.lt_trichotomy i j with q | q | q
    · exact absurd h.2.1 (h'.2.2 i q e h.1)
    · exact q
    · exact absurd h'.2.1 (h.2.2 j q e' h'.1)
  subst this
  have := h.1.symm.trans h'.1
  exact ⟨rfl, Option.some.inj this⟩
theorem FG.no {k : Nat} {p f : Int32} {l : List (Nat × Nat × Nat)} {i : Nat} {e : Nat × Nat × Nat} (h : FG k p f l i e) (h' : NG k p f l) : False := h' i e h.1 h.2.1
section SA
variable {σ τ : zz_St} {r c k x0 : Nat} {tl pr : Nat → Int32}
theorem bfx_V (hV : zs_V r c k x0) {i : Nat} {e : Nat × Nat × Nat} (h : (bfx r c k tl pr x0)[i]? = some e) : zs_V r c k e.1 := bf_all (zs_V r c k) hV (fun x w y hx hw h => zs_st_V hx hw h) _ _ e h
theorem bfx_pre (n : Nat) (hn : n ≤ 3600) {i : Nat} {e : Nat × Nat × Nat} (h : (bf (zs_st r c k tl pr) x0 n)[i]? = some e) : (bfx r c k tl pr x0)[i]? = some e := by
  unfold bfx
  rw [bf_pre n 3600 hn i (List.getElem?_eq_some_iff.mp h).1]
  exact h
/-- the class's search, told by the whole list -/
theorem e4_flood {Q : Int32 → zz_St → Prop} {p f : Int32} (hB : CB τ r c k tl pr) (hT : CT τ) (hd : zs_dim r c k) (hV : zs_V r c k x0) (h8 : τ.1 8 = nI x0)
    (h1 : ∀ i e n τ2, zx τ τ2 [13] [19, 20, 21, 22] → FG k p f (bfx r c k tl pr x0) i e → n ≤ 3600 → CQ τ2 (bf (zs_st r c k tl pr) x0 n) → (bf (zs_st r c k tl pr) x0 n)[i]? = some e → Q (nI e.1) τ2)
    (h0 : ∀ τ2, zx τ τ2 [13] [19, 20, 21, 22] → CQ τ2 (bfx r c k tl pr x0) → NG k p f (bfx r c k tl pr x0) → Q (-1) τ2) : zq4_floodTo p f τ Q := by
  refine e4_floodTo hB hT hd hV h8 (fun h e τ2 x2 hC he hg hno => ?_) (fun τ2 x2 hC hno => h0 τ2 x2 hC (fun i z hz => hno z (List.mem_of_getElem? hz)))
  have hl : (bf (zs_st r c k tl pr) x0 (4 * h)).length ≤ 864 := bf_count hd hV _
  have hh := (List.getElem?_eq_some_iff.mp he).1
  refine h1 h e (4 * h) τ2 x2 ⟨bfx_pre (4 * h) (by omega) he, hg, fun j hj z hz => hno j hj z ?_⟩ (by omega) hC he
  unfold bfx at hz
  rw [bf_pre (4 * h) 3600 (by omega) j (by omega)] at hz
  exact hz
theorem zs_goal_none {k : Nat} {f : Int32} {x : Nat} (hx : x / 24 < 72) : ¬ zs_goal k (-1) f x := fun h => zn_nm1 (by omega) h.1
/-- the class's search through all -/
theorem e4_all {Q : zz_St → Prop} (hB : CB τ r c k tl pr) (hT : CT τ) (hd : zs_dim r c k) (hV : zs_V r c k x0) (h8 : τ.1 8 = nI x0)
    (h : ∀ τ2, zx τ τ2 [13] [19, 20, 21, 22] → CQ τ2 (bfx r c k tl pr x0) → Q τ2) : zq4_floodTo (-1) (-1) τ (fun _ g => Q g) := by
  refine e4_flood hB hT hd hV h8 (fun i e n τ2 _ hF _ _ _ => absurd hF.2.1 (zs_goal_none (zs_V_lt hd (bfx_V hV hF.1)).2)) (fun τ2 x2 hC _ => h τ2 x2 hC)
theorem e8_isGoal {Q : Int32 → zz_St → Prop} {p f : Int32} {l : List (Nat × Nat × Nat)} {s : Nat} {e : Nat × Nat × Nat} (hB : MB σ r c k tl pr) (hd : zs_dim r c k) (hF : MF σ (zs_te k) (x0 / 24) (x0 % 24)) (hL : ML σ (zs_te k) l) (hs : s < 900) (he : l[s]? = some e) (hVe : zs_V r c k e.1) (hf : f = -1 ∨ 0 ≤ f)
    (h1 : zs_goal k p f e.1 → ∀ σ2, zx σ σ2 [8, 31] [10, 32] → MF σ2 (zs_te k) (x0 / 24) (x0 % 24) → Q 1 σ2) (h0 : ¬ zs_goal k p f e.1 → ∀ σ2, zx σ σ2 [8, 31] [10, 32] → MF σ2 (zs_te k) (x0 / 24) (x0 % 24) → Q 0 σ2) : zq8_isGoal (nI s) p f σ Q := by
  unfold zq8_isGoal
  obtain ⟨l1, l2, l3⟩ := hL.2 s e he
  have cs : (nI s).toNatClampNeg = s := nI_clamp (by omega)
  rw [cs, l1]
  refine ⟨vp_in_nI hs (by decide), fun q => e8_keeps2 hF (fun σ1 x1 hK => ?_), fun q => h0 (fun z => q z.1) σ zx.rf hF⟩
  refine e8_loads hs (by rw [x1.2.1 23 (by decide)]; exact l1) (fun j hj => by rw [x1.2.1 24 (by decide)]; exact l2 j hj) (fun σ2 x2 F2 => ?_)
  have x12 : zx σ σ2 [8, 31] [10, 32] := (x1.mono (by decide) (by decide)).tr (x2.mono (by decide) (by decide))
  have hB2 := hB.x x12 (by decide)
  have yes : zs_goal k p f e.1 → zq8_isGoal_47 σ2 Q := by
    intro z
    unfold zq8_isGoal_47 zq8_isGoal_52
    exact e8_lays2 (hK.x x2 (by decide)) (fun σ3 x3 F3 => ⟨Or.inr rfl, h1 z σ3 (x12.tr (x3.mono (by decide) (by decide))) F3⟩)
  have no : ¬ zs_goal k p f e.1 → zq8_isGoal_51 σ2 Q := by
    intro z
    unfold zq8_isGoal_51 zq8_isGoal_52
    exact e8_lays2 (hK.x x2 (by decide)) (fun σ3 x3 F3 => ⟨Or.inl rfl, h0 z σ3 (x12.tr (x3.mono (by decide) (by decide))) F3⟩)
  have blk : (f = -1 ∨ nI (zs_bel (zs_te k) (e.1 % 24)) = f) → zq8_isGoal_33 σ2 Q := by
    intro z
    unfold zq8_isGoal_33
    refine e8_isBlock hB2 hd (fun hb => zYf n10 ?_) (fun hb => zYt n00 (yes ⟨q, zs_lie_no hb _, z⟩))
    have hte : zs_te k = false := decide_eq_false (by omega)
    have hlk : zs_lie k (e.1 % 24) = zs_LC (e.1 % 24) := if_pos hb
    rw [hte] at F2
    refine e8_lying F2 (Nat.mod_lt _ (by decide)) ?_
    have hL := zs_LC_lt (e.1 % 24)
    have e0 : nI (zs_LC (e.1 % 24)) = 0 ↔ zs_LC (e.1 % 24) = 0 := nI_eq (b := 0) (by omega) (by decide)
    rw [e0, ← hlk]
    exact ⟨fun u => no (fun y => u y.2.1), fun u => yes ⟨q, u, z⟩⟩
  rcases hf with hf | hf
  · exact zYt (by rw [hf]; decide) (blk (Or.inl hf))
  · have hfn : ¬ f = -1 := fun u => by rw [u] at hf; exact absurd hf (by decide)
    refine zYf (Int32.not_lt.mpr hf) (e8_below hB2 hd F2 ⟨fun u => no (fun y => y.2.2.elim hfn u), fun u => blk (Or.inr u)⟩)
theorem e8_soonestTo {Q : Int32 → zz_St → Prop} {p f : Int32} {l : List (Nat × Nat × Nat)} (hB : MB σ r c k tl pr) (hd : zs_dim r c k) (hF : MF σ (zs_te k) (x0 / 24) (x0 % 24)) (hL : ML σ (zs_te k) l) (hl : l.length ≤ 864) (hVl : ∀ (i : Nat) (e : Nat × Nat × Nat), l[i]? = some e → zs_V r c k e.1) (hf : f = -1 ∨ 0 ≤ f)
    (h1 : ∀ i e σ2, FG k p f l i e → zx σ σ2 [8, 31] [10, 32] → MF σ2 (zs_te k) (x0 / 24) (x0 % 24) → Q (nI e.2.2) σ2) (h0 : ∀ σ2, NG k p f l → zx σ σ2 [8, 31] [10, 32] → MF σ2 (zs_te k) (x0 / 24) (x0 % 24) → Q (-9) σ2) : zq8_soonestTo p f σ Q := by
  unfold zq8_soonestTo zq8_soonestTo_2
  refine ⟨fun v σ2 => ∃ i, i ≤ l.length ∧ v = nI i ∧ (zx σ σ2 [8, 31] [10, 32] ∧ MF σ2 (zs_te k) (x0 / 24) (x0 % 24) ∧ ∀ j, j < i → ∀ z, l[j]? = some z → ¬ zs_goal k p f z.1), fun v _ => l.length - v.toNatClampNeg, ⟨0, Nat.zero_le _, rfl, zx.rf, hF, fun j hj => absurd hj (Nat.not_lt_zero j)⟩, ?_⟩
  rintro v σ2 ⟨i, hi, rfl, x2, F2, hno⟩
  have hL2 := hL.x x2 (by decide)
  rw [hL2.1]
  refine pk_le l.length i (fun q => h0 σ2 (fun j z hz => hno j (by have := (List.getElem?_eq_some_iff.mp hz).1; omega) z hz) x2 F2) (fun q => ?_)
  have he : l[i]? = some l[i] := List.getElem?_eq_getElem q
  generalize l[i] = e at he
  have ci : (nI i).toNatClampNeg = i := nI_clamp (by omega)
  refine e8_isGoal (hB.x x2 (by decide)) hd F2 hL2 (by omega) he (hVl i e he) hf (fun hg σ3 x3 F3 => zYf n10 ⟨vp_in_nI (by omega) (by decide), ?_⟩) (fun hg σ3 x3 F3 => zYt n00 ?_)
  · rw [ci, ((hL2.x x3 (by decide)).2 i e he).2.2]
    exact h1 i e σ3 ⟨he, hg, hno⟩ (x2.tr x3) F3
  · refine zl_leaf (J := fun i σ2 => zx σ σ2 [8, 31] [10, 32] ∧ MF σ2 (zs_te k) (x0 / 24) (x0 % 24) ∧ ∀ j, j < i → ∀ z, l[j]? = some z → ¬ zs_goal k p f z.1) q (by omega) ⟨x2.tr x3, F3, fun j hj z hz => ?_⟩
    rcases Nat.lt_succ_iff_lt_or_eq.mp hj with y | y
    · exact hno j y z hz
    · rw [y, he] at hz
      cases hz
      exact hg
/-- searches are done, all else is as it was -/
theorem Rel.sr {σ' τ' : zz_St} (h : Rel σ τ) (h0 : R0 r c k σ τ) (hth : σ.1 9 = 1) (hV : zs_V r c k x0) (h8 : τ.1 8 = nI x0) (hx : zy σ σ' [8, 12, 20, 27, 28, 31] [10, 11, 13, 21, 22, 23, 24, 25, 26, 29, 30, 32, 33]) (hy : zy τ τ' [13] [19, 20, 21, 22, 23, 24, 25]) (hF : MF σ' (zs_te k) (x0 / 24) (x0 % 24)) : Rel σ' τ' := h.r0 hx hy (by decide) (h0.mv hth hV hx hy (by decide) hF ((hy.1 8 (by decide)).trans h8))
theorem zs_ask_f {p f : Int32} (h : zs_ask r c k p f) : f = -1 ∨ 0 ≤ f := by
  rcases h.2 with z | z
  · exact Or.inl z
  · exact Or.inr (Int32.not_lt.mp (fun u => z (Or.inl u)))
theorem R_soonest (h : Rel σ τ) (p f : Int32) : zq7_soonest p f τ (fun a τ' => zq8_soonest p f σ (fun b σ' => RQ τ' a b σ')) := by
  obtain ⟨⟨r, c, k, h0⟩, hE⟩ := id h
  have hT := h.ct
  have hd := h0.dim
  unfold zq7_soonest zq8_soonest
  refine e7_isGoal h0.2.1 hT hd (fun q => zNf n10 ?_) (fun q => zNt n00 (e7_refuse 1 (by decide) (by decide) (e8_areAsked h0.mb hd (fun z => absurd z q) (fun _ => zNt n00 (RQ.no8 h 1 (by decide) (by decide) (by decide))))))
  rcases h0.there with ⟨z1, z2⟩ | ⟨z1, x, hV, hF, z2⟩
  · exact e6_none0 z2 (zYf n10 (e7_refuse 3 (by decide) (by decide) (e8_areAsked h0.mb hd (fun _ => zNf n10 (zNt z1 (RQ.no8 h 3 (by decide) (by decide) (by decide)))) (fun z => absurd q z))))
  · have hx := zs_V_lt hd hV
    have th : ¬ σ.1 9 = 0 := by rw [z1]; decide
    have est : bfx r c k (τ.2.1 14) (τ.2.1 16) x = bfx r c k (σ.2.1 4) (σ.2.1 5) x := by unfold bfx; rw [h0.st]
    have hlen := bfx_len (tl := σ.2.1 4) (pr := σ.2.1 5) hd hV
    have M : ∀ τ2, zx τ τ2 [13] [19, 20, 21, 22] → ∀ a, (∀ i e, FG k p f (bfx r c k (σ.2.1 4) (σ.2.1 5) x) i e → a = nI e.2.2) → (NG k p f (bfx r c k (σ.2.1 4) (σ.2.1 5) x) → a = -9) → zq8_areAsked p f σ (fun r11 => ((¬ r11 = 0) → ((¬ ((σ).1 9) = 0) → zq8_goesThrough σ (fun g14 => zq8_soonestTo p f g14 (fun r15 g16 => RQ τ2 a r15 g16))) ∧ (((σ).1 9) = 0 → zq8_no (-3 : Int32) σ (fun r17 g18 => RQ τ2 a r17 g18))) ∧ (r11 = 0 → zq8_no (-1 : Int32) σ (fun r19 g20 => RQ τ2 a r19 g20))) := by
      intro τ2 y2 a m1 m0
      refine e8_areAsked h0.mb hd (fun _ => zNf n10 (zNf th (e8_goesThrough h0.mb hd h0.pr hV hF (fun σ2 x2 F2 hG => ?_)))) (fun z => absurd q z)
      have rel : ∀ σ3, zx σ2 σ3 [8, 31] [10, 32] → MF σ3 (zs_te k) (x / 24) (x % 24) → Rel σ3 τ2 := fun σ3 x3 F3 => h.sr h0 z1 hV z2 ((x2.mono (by decide) (by decide)).tr (x3.mono (by decide) (by decide))).y (y2.mono (by decide) (by decide)).y F3
      exact e8_soonestTo (h0.mb.x x2 (by decide)) hd F2 hG.1 hlen (fun i e he => bfx_V hV he) (zs_ask_f q) (fun i e σ3 hFG x3 F3 => ⟨m1 i e hFG, rel σ3 x3 F3⟩) (fun σ3 hNG x3 F3 => ⟨m0 hNG, rel σ3 x3 F3⟩)
    refine e6_none1 (by omega) z2 (zYt n00 (e4_flood h0.cb hT hd hV z2 (fun i e n τ2 y2 hFG hn hC he => ?_) (fun τ2 y2 hC hNG => ?_)))
    · rw [est] at hFG
      have hVe := bfx_V hV hFG.1
      have he17 := zs_V_lt hd hVe
      have ce : (nI e.1).toNatClampNeg = e.1 := nI_clamp (by omega)
      refine zYt (nI_pos' (by omega)) ⟨vp_in_nI he17.1 (by decide), ?_⟩
      rw [ce, (hC.2.1 i e he).2.1]
      exact M τ2 y2 _ (fun i' e' h' => by rw [(hFG.uni h').2]) (fun h' => (hFG.no h').elim)
    · rw [est] at hNG
      exact zYf (by decide) (M τ2 y2 _ (fun i' e' h' => (h'.no hNG).elim) (fun _ => rfl))
/-- the faces below at a place, as bits, of the first i states -/
def zfb (k : Nat) (p : Int32) (l : List (Nat × Nat × Nat)) : Nat → Int32
  | 0 => 0
  | i + 1 => match l[i]? with
    | some e => if nI (e.1 / 24) = p then zfb k p l i ||| ((1 : Int32) <<< (nI (zs_bel (zs_te k) (e.1 % 24)) &&& 31)) else zfb k p l i
    | none => zfb k p l i
theorem zfb1 {k : Nat} {p : Int32} {l : List (Nat × Nat × Nat)} {i : Nat} {e : Nat × Nat × Nat} (he : l[i]? = some e) : zfb k p l (i + 1) = if nI (e.1 / 24) = p then zfb k p l i ||| ((1 : Int32) <<< (nI (zs_bel (zs_te k) (e.1 % 24)) &&& 31)) else zfb k p l i := by
  show (match l[i]? with | some e => if nI (e.1 / 24) = p then zfb k p l i ||| ((1 : Int32) <<< (nI (zs_bel (zs_te k) (e.1 % 24)) &&& 31)) else zfb k p l i | none => zfb k p l i) = _
  rw [he]
theorem e8_belowOf {Q : Int32 → Prop} {l : List (Nat × Nat × Nat)} {i : Nat} {e : Nat × Nat × Nat} (hB : MB σ r c k tl pr) (hd : zs_dim r c k) (hL : ML σ (zs_te k) l) (hi : i < 900) (he : l[i]? = some e) (h : Q (nI (zs_bel (zs_te k) (e.1 % 24)))) : zq8_belowOf (nI i) σ Q := by
  unfold zq8_belowOf
  obtain ⟨_, l2, _⟩ := hL.2 i e he
  have e6 : (6 : Int32) * nI i = nI (6 * i) := pk_mul 6 i
  refine e8_isTetra hB hd (fun h4 => zYf n10 ?_) (fun h4 => zYt n00 ?_)
  · rw [show zs_te k = true from decide_eq_true h4] at h l2
    rw [e6, show nI (6 * i) + 0 = nI (6 * i + 0) from nI_add _ 0, nI_clamp (by omega : 6 * i + 0 < 2 ^ 31), l2 0 (by decide)]
    exact ⟨vp_in_nI (by omega) (by decide), h⟩
  · rw [show zs_te k = false from decide_eq_false h4] at h l2
    rw [e6, nI_1, nI_clamp (by omega : 6 * i + 1 < 2 ^ 31), l2 1 (by decide)]
    exact ⟨vp_in_nI (by omega) (by decide), h⟩
theorem e4_facesAt {Q : Int32 → Prop} {p : Int32} {l : List (Nat × Nat × Nat)} (hB : CB τ r c k tl pr) (hT : CT τ) (hd : zs_dim r c k) (hC : CQ τ l) (hl : l.length ≤ 864) (hVl : ∀ (i : Nat) (e : Nat × Nat × Nat), l[i]? = some e → zs_V r c k e.1) (h : Q (zfb k p l l.length)) : zq4_facesAt p τ Q := by
  unfold zq4_facesAt zq4_facesAt_5 zq4_facesAt_44
  refine ⟨fun v3 v4 => ∃ i, i ≤ l.length ∧ v4 = nI i ∧ v3 = zfb k p l i, fun _ v4 => l.length - v4.toNatClampNeg, ⟨0, Nat.zero_le _, rfl, rfl⟩, ?_⟩
  rintro v3 v4 ⟨i, hi, rfl, rfl⟩
  rw [hC.1]
  refine pk_le l.length i (fun q => ?_) (fun q => ⟨vp_in_nI (by omega) (by decide), ?_⟩)
  · rw [show i = l.length from by omega]; exact h
  · have he : l[i]? = some l[i] := List.getElem?_eq_getElem q
    generalize l[i] = e at he
    have ci : (nI i).toNatClampNeg = i := nI_clamp (by omega)
    have hx := zs_V_lt hd (hVl i e he)
    rw [ci, (hC.2.1 i e he).1, zs_div24 (by omega)]
    refine ⟨fun y => ?_, fun y => ⟨vp_in_nI (by omega) (by decide), e6_faceBelow hB hT hd.2.2.2.2 (by omega) (fun x8 e8 => ?_)⟩⟩
    · have := zl_leaf0 (J := fun j => zfb k p l i = zfb k p l j) q (by omega) (by rw [zfb1 he, if_neg y])
      exact this
    · have := zl_leaf0 (J := fun j => x8 = zfb k p l j) q (by omega) (by rw [zfb1 he, if_pos y, e8])
      exact this
theorem R_faces (h : Rel σ τ) (p : Int32) : zq7_faces p τ (fun a τ' => zq8_faces p σ (fun b σ' => RQ τ' a b σ')) := by
  obtain ⟨⟨r, c, k, h0⟩, hE⟩ := id h
  have hT := h.ct
  have hd := h0.dim
  unfold zq7_faces zq8_faces
  rw [h0.2.1.2.2]
  refine e6_hasPlace h0.2.1 hd hd.2.2.2.2 (fun q => zNf n10 ?_) (fun q => zNt n00 (e7_refuse 1 (by decide) (by decide) (e8_isPlace h0.mb hd (fun z => absurd z q) (fun _ => zNt n00 (RQ.no8 h 1 (by decide) (by decide) (by decide))))))
  rcases h0.there with ⟨z1, z2⟩ | ⟨z1, x, hV, hF, z2⟩
  · exact e6_none0 z2 (zYf n10 (e7_refuse 3 (by decide) (by decide) (e8_isPlace h0.mb hd (fun _ => zNf n10 (zNt z1 (RQ.no8 h 3 (by decide) (by decide) (by decide)))) (fun z => absurd q z))))
  · have hx := zs_V_lt hd hV
    have th : ¬ σ.1 9 = 0 := by rw [z1]; decide
    have est : bfx r c k (τ.2.1 14) (τ.2.1 16) x = bfx r c k (σ.2.1 4) (σ.2.1 5) x := by unfold bfx; rw [h0.st]
    have hlen := bfx_len (tl := σ.2.1 4) (pr := σ.2.1 5) hd hV
    unfold zq4_floodAll
    refine e6_none1 (by omega) z2 (zYt n00 (e4_all h0.cb hT hd hV z2 (fun τ2 y2 hC => ?_)))
    rw [est] at hC
    refine e4_facesAt (h0.cb.x y2 (by decide)) (hT.x y2 (by decide) (by decide)) hd hC hlen (fun i e he => bfx_V hV he) ?_
    refine e8_isPlace h0.mb hd (fun _ => zNf n10 (zNf th (e8_goesThrough h0.mb hd h0.pr hV hF (fun σ2 x2 F2 hG => ?_)))) (fun z => absurd q z)
    have rel : Rel σ2 τ2 := h.sr h0 z1 hV z2 (x2.mono (by decide) (by decide)).y (y2.mono (by decide) (by decide)).y F2
    have hL := hG.1
    generalize bfx r c k (σ.2.1 4) (σ.2.1 5) x = l at *
    unfold zq8_faces_36 zq8_faces_66
    refine ⟨fun v2 v3 => ∃ i, i ≤ l.length ∧ v3 = nI i ∧ v2 = zfb k p l i, fun _ v3 => l.length - v3.toNatClampNeg, ⟨0, Nat.zero_le _, rfl, rfl⟩, ?_⟩
    rintro v2 v3 ⟨i, hi, rfl, rfl⟩
    rw [hL.1]
    refine pk_le l.length i (fun q => ?_) (fun q => ⟨vp_in_nI (by omega) (by decide), ?_⟩)
    · rw [show i = l.length from by omega]; exact ⟨rfl, rel⟩
    · have he : l[i]? = some l[i] := List.getElem?_eq_getElem q
      generalize l[i] = e at he
      have ci : (nI i).toNatClampNeg = i := nI_clamp (by omega)
      rw [ci, (hL.2 i e he).1]
      refine ⟨fun y x13 e13 => ?_, fun y => e8_belowOf (h0.mb.x x2 (by decide)) hd hL (by omega) he (fun x13 e13 => ?_)⟩
      · have := zl_leaf0 (J := fun j => x13 = zfb k p l j) q (by omega) (by rw [zfb1 he, if_neg y, e13]; exact Int32.or_zero)
        exact this
      · have := zl_leaf0 (J := fun j => x13 = zfb k p l j) q (by omega) (by rw [zfb1 he, if_pos y, e13])
        exact this
end SA
