/-! the reference: goesThrough() is the list -/
section BF2
variable {st : Nat → Nat → Option Nat} {x0 : Nat}
theorem bf_S1 {n : Nat} {e : Nat × Nat × Nat} (h : (bf st x0 n)[n / 4]? = some e) (hn : st e.1 (n % 4) = none) : bf st x0 (n + 1) = bf st x0 n := by
  show bf_S st n (bf st x0 n) = _
  unfold bf_S
  rw [h]
  simp only [hn]
theorem bf_S2 {n y : Nat} {e : Nat × Nat × Nat} (h : (bf st x0 n)[n / 4]? = some e) (hn : st e.1 (n % 4) = some y) (hy : ∃ z ∈ bf st x0 n, z.1 = y) : bf st x0 (n + 1) = bf st x0 n := by
  show bf_S st n (bf st x0 n) = _
  unfold bf_S
  rw [h]
  simp only [hn]
  rw [if_pos hy]
theorem bf_S3 {n y : Nat} {e : Nat × Nat × Nat} (h : (bf st x0 n)[n / 4]? = some e) (hn : st e.1 (n % 4) = some y) (hy : ¬ ∃ z ∈ bf st x0 n, z.1 = y) : bf st x0 (n + 1) = bf st x0 n ++ [(y, n, e.2.2 + 1)] := by
  show bf_S st n (bf st x0 n) = _
  unfold bf_S
  rw [h]
  simp only [hn]
  rw [if_neg hy]
theorem bf_far_le (n i : Nat) (e : Nat × Nat × Nat) (h : (bf st x0 n)[i]? = some e) : e.2.2 ≤ i := by
  induction i using Nat.strongRecOn generalizing e with
  | ind i ih =>
    rcases Nat.eq_zero_or_pos i with q | q
    · rw [q, bf_0] at h
      have := Option.some.inj h
      rw [← this]
      exact Nat.zero_le _
    · obtain ⟨_, _, a3, p, a4, _, a6, _⟩ := bf_ent n i e h q
      have := ih _ a3 p a4
      omega
end BF2
/-- what each way leads to, for the first n small steps -/
def MN (σ : zz_St) (st : Nat → Nat → Option Nat) (l : List (Nat × Nat × Nat)) (n : Nat) : Prop := ∀ t, t < n → ∀ e, l[t / 4]? = some e → (st e.1 (t % 4) = none ∧ σ.2.1 26 t = -1) ∨ ∃ y j f, st e.1 (t % 4) = some y ∧ l[j]? = some f ∧ f.1 = y ∧ σ.2.1 26 t = nI j
/-- the first roll back to the start -/
def MR (σ : zz_St) (st : Nat → Nat → Option Nat) (x0 : Nat) (l : List (Nat × Nat × Nat)) (n : Nat) : Prop := (σ.1 28 = -1 ∧ ∀ t, t < n → ∀ e, l[t / 4]? = some e → ¬ st e.1 (t % 4) = some x0) ∨ ∃ t e, t < n ∧ l[t / 4]? = some e ∧ st e.1 (t % 4) = some x0 ∧ σ.1 28 = nI (e.2.2 + 1) ∧ ∀ t', t' < t → ∀ e', l[t' / 4]? = some e' → ¬ st e'.1 (t' % 4) = some x0
theorem MN.x {σ σ' : zz_St} {st : Nat → Nat → Option Nat} {l : List (Nat × Nat × Nat)} {n : Nat} {ks js : List Nat} (h : MN σ st l n) (hx : zx σ σ' ks js) (h2 : 26 ∉ js) : MN σ' st l n := by
  intro t ht e he
  rw [hx.2.1 26 h2]
  exact h t ht e he
theorem MR.x {σ σ' : zz_St} {st : Nat → Nat → Option Nat} {x0 : Nat} {l : List (Nat × Nat × Nat)} {n : Nat} {ks js : List Nat} (h : MR σ st x0 l n) (hx : zx σ σ' ks js) (h2 : 28 ∉ ks) : MR σ' st x0 l n := by
  unfold MR
  rw [hx.1 28 h2]
  exact h
section M10
variable {σ σ0 : zz_St} {st : Nat → Nat → Option Nat} {x0 n : Nat}
theorem MN.pre (h : MN σ st (bf st x0 n) n) (hs : n / 4 < (bf st x0 n).length) : MN σ st (bf st x0 (n + 1)) n := by
  intro t ht e he
  rw [bf_pre1 n _ (Nat.lt_of_le_of_lt (Nat.div_le_div_right (Nat.le_of_lt ht)) hs)] at he
  rcases h t ht e he with a | ⟨y, j, f, a1, a2, a3, a4⟩
  · exact Or.inl a
  · exact Or.inr ⟨y, j, f, a1, by rw [bf_pre1 n j (List.getElem?_eq_some_iff.mp a2).1]; exact a2, a3, a4⟩
theorem MR.pre (h : MR σ st x0 (bf st x0 n) n) (hs : n / 4 < (bf st x0 n).length) : MR σ st x0 (bf st x0 (n + 1)) n := by
  have key : ∀ t, t < n → (bf st x0 (n + 1))[t / 4]? = (bf st x0 n)[t / 4]? := fun t ht => bf_pre1 n _ (Nat.lt_of_le_of_lt (Nat.div_le_div_right (Nat.le_of_lt ht)) hs)
  rcases h with ⟨a1, a2⟩ | ⟨t, e, a1, a2, a3, a4, a5⟩
  · exact Or.inl ⟨a1, fun t ht e he => a2 t ht e (by rw [← key t ht]; exact he)⟩
  · exact Or.inr ⟨t, e, a1, by rw [key t a1]; exact a2, a3, a4, fun t' h' e' he' => a5 t' h' e' (by rw [← key t' (Nat.lt_trans h' a1)]; exact he')⟩
def MI (σ0 σ : zz_St) (te : Bool) (pl s : Nat) (st : Nat → Nat → Option Nat) (x0 n : Nat) : Prop := zx σ0 σ [8, 12, 20, 27, 28] [10, 11, 13, 21, 22, 23, 24, 25, 26] ∧ ML σ te (bf st x0 n) ∧ MX σ te (bf st x0 n) ∧ MN σ st (bf st x0 n) n ∧ MR σ st x0 (bf st x0 n) n ∧ MK σ 20 21 te pl s
theorem e8_goes_97 {Q : zz_St → Prop} {B44 B54 : Int32 → zz_St → Prop} {te : Bool} {pl sp s w : Nat} {r : Int32} {e : Nat × Nat × Nat} (hn : n = 4 * s + w) (hw : w < 4) (hlen : (bf st x0 (n + 1)).length ≤ 864) (hs : s < (bf st x0 n).length)
    (hx : zx σ0 σ [8, 12, 20, 27, 28] [10, 11, 13, 21, 22, 23, 24, 25, 26]) (hL : ML σ te (bf st x0 (n + 1))) (hX : MX σ te (bf st x0 (n + 1))) (hN : MN σ st (bf st x0 n) n) (hR : MR σ st x0 (bf st x0 n) n) (hK : MK σ 20 21 te pl sp) (he : (bf st x0 (n + 1))[s]? = some e)
    (hr : (st e.1 w = none ∧ r = -1) ∨ ∃ y j f, st e.1 w = some y ∧ (bf st x0 (n + 1))[j]? = some f ∧ f.1 = y ∧ r = nI j)
    (hB : ∀ σ', MI σ0 σ' te pl sp st x0 (n + 1) → B54 (nI (w + 1)) σ') : zq8_goesThrough_97 (nI 0) (nI s) (nI w) r ((4 : Int32) * nI s + nI w) σ Q B44 B54 := by
  have hdiv : n / 4 = s := by omega
  have hmod : n % 4 = w := by omega
  have hN1 := hN.pre (by rw [hdiv]; exact hs)
  have hR1 := hR.pre (by rw [hdiv]; exact hs)
  have hsl := (List.getElem?_eq_some_iff.mp he).1
  have e4 : (4 : Int32) * nI s + nI w = nI n := by rw [show (4 : Int32) * nI s = nI (4 * s) from pk_mul 4 s, nI_add, hn]
  have cn : (nI n).toNatClampNeg = n := nI_clamp (by omega)
  have cs : (nI s).toNatClampNeg = s := nI_clamp (by omega)
  have vn : vp_in (nI n) 3600 := vp_in_nI (by omega) (by decide)
  unfold zq8_goesThrough_97 zq8_goesThrough_132
  rw [e4, cn, cs, nI_1]
  refine ⟨vn, fun g hg => ⟨vn, ?_⟩⟩
  have xg : zx σ g [] [26] := by rw [hg]; exact zx.A 26 _ (by decide)
  have gn : g.2.1 26 n = r := by rw [hg, zz_A2, if_pos rfl, pk_us]
  have gt : ∀ t, t < n → g.2.1 26 t = σ.2.1 26 t := fun t ht => by rw [hg, zz_A2, if_pos rfl, pk_un (by omega)]
  rw [gn]
  have hNg : MN g st (bf st x0 (n + 1)) (n + 1) := by
    intro t ht e' he'
    rcases Nat.lt_succ_iff_lt_or_eq.mp ht with z | z
    · rw [gt t z]; exact hN1 t z e' he'
    · subst z
      rw [hdiv, he] at he'
      cases he'
      rw [hmod, gn]
      exact hr
  have base : ∀ g2, zx g g2 [28] [] → MR g2 st x0 (bf st x0 (n + 1)) (n + 1) → B54 (nI (w + 1)) g2 := fun g2 x2 hR2 =>
    hB g2 ⟨(hx.tr (xg.mono (by decide) (by decide))).tr (x2.mono (by decide) (by decide)), (hL.x xg (by decide)).x x2 (by decide), (hX.x xg (by decide)).x x2 (by decide), hNg.x x2 (by decide), hR2, (hK.x xg (by decide)).x x2 (by decide)⟩
  have yes : r = nI 0 → st e.1 w = some x0 := by
    intro q
    rcases hr with ⟨_, a⟩ | ⟨y, j, f, a1, a2, a3, a4⟩
    · rw [a] at q; exact absurd q (by decide)
    · have hj := (List.getElem?_eq_some_iff.mp a2).1
      have : j = 0 := (nI_eq (by omega) (by omega)).mp (a4.symm.trans q)
      subst this
      rw [bf_0] at a2
      cases a2
      rw [a1, ← a3]
  have no : ¬ r = nI 0 → ¬ st e.1 w = some x0 := by
    intro q z
    rcases hr with ⟨a, _⟩ | ⟨y, j, f, a1, a2, a3, a4⟩
    · rw [a] at z; cases z
    · rw [a1] at z
      cases z
      have : j = 0 := bf_nodup (n + 1) j 0 f _ a2 (bf_0 _) a3
      rw [this] at a4
      exact q a4
  have ext0 : ∀ t, t < n + 1 → ∀ e', (bf st x0 (n + 1))[t / 4]? = some e' → t < n ∨ (t = n ∧ e' = e) := by
    intro t ht e' he'
    rcases Nat.lt_succ_iff_lt_or_eq.mp ht with z | z
    · exact Or.inl z
    · subst z
      rw [hdiv, he] at he'
      exact Or.inr ⟨rfl, (Option.some.inj he').symm⟩
  have g28 : g.1 28 = σ.1 28 := xg.1 28 (by decide)
  refine ⟨fun q => base g zx.rf ?_, fun q => ⟨fun q2 => base g zx.rf ?_, fun q2 => ⟨vp_in_nI (by omega) (by decide), fun g2 hg2 => ?_⟩⟩⟩
  · rcases hR1 with ⟨a1, a2⟩ | ⟨t, e', a1, a2, a3, a4, a5⟩
    · refine Or.inl ⟨g28.trans a1, fun t ht e' he' => ?_⟩
      rcases ext0 t ht e' he' with z | ⟨z1, z2⟩
      · exact a2 t z e' he'
      · subst z1; subst z2; rw [hmod]; exact no q
    · exact Or.inr ⟨t, e', by omega, a2, a3, g28.trans a4, a5⟩
  · rcases hR1 with ⟨a1, a2⟩ | ⟨t, e', a1, a2, a3, a4, a5⟩
    · exact absurd (g28.trans a1) q2
    · exact Or.inr ⟨t, e', by omega, a2, a3, g28.trans a4, a5⟩
  · have x2 : zx g g2 [28] [] := by rw [hg2]; exact zx.I 28 _ (by decide)
    refine base g2 x2 ?_
    have f25 : g.2.1 25 s = nI e.2.2 := by rw [xg.2.1 25 (by decide)]; exact (hL.2 s e he).2.2
    have g228 : g2.1 28 = nI (e.2.2 + 1) := by rw [hg2, zz_I1, if_pos rfl, f25, nI_1]
    rcases hR1 with ⟨a1, a2⟩ | ⟨t, e', a1, a2, a3, a4, a5⟩
    · exact Or.inr ⟨n, e, Nat.lt_succ_self n, by rw [hdiv]; exact he, by rw [hmod]; exact yes q, g228, a2⟩
    · have := bf_far_le _ _ _ a2
      have h3 := (List.getElem?_eq_some_iff.mp a2).1
      rw [g28, a4] at q2
      exact absurd q2 (zn_nm1 (by omega))
end M10
/-- the search is done: the list, the ways, the first roll back -/
def MG (σ : zz_St) (te : Bool) (st : Nat → Nat → Option Nat) (x0 : Nat) (l : List (Nat × Nat × Nat)) : Prop := ML σ te l ∧ MN σ st l (4 * l.length) ∧ MR σ st x0 l (4 * l.length)
theorem zs_V_dm {r c k x : Nat} (hd : zs_dim r c k) (h : zs_V r c k x) : x / 24 < zs_np r c k ∧ x % 24 < zs_ns (zs_te k) ∧ x / 24 < 72 := ⟨h.1, h.2.1, (zs_V_lt hd h).2⟩
section M11
variable {σ : zz_St} {r c k : Nat} {tl pr : Nat → Int32} {x0 : Nat}
theorem e8_goes_54 {Q : zz_St → Prop} {B44 : Int32 → zz_St → Prop} {σ0 : zz_St} {pl sp s : Nat} (hB : MB σ0 r c k tl pr) (hd : zs_dim r c k) (hpr : ∀ t, t < 36 → pr t = -1 ∨ 0 ≤ pr t) (hV : zs_V r c k x0) (hs : s < (bf (zs_st r c k tl pr) x0 (4 * s)).length)
    (hI : MI σ0 σ (zs_te k) pl sp (zs_st r c k tl pr) x0 (4 * s))
    (h : ∀ σ', MI σ0 σ' (zs_te k) pl sp (zs_st r c k tl pr) x0 (4 * s + 4) → B44 (nI (s + 1)) σ') : zq8_goesThrough_54 (nI 0) (nI s) (nI 0) σ Q B44 := by
  unfold zq8_goesThrough_54
  refine ⟨fun v σ => ∃ w, w ≤ 4 ∧ v = nI w ∧ MI σ0 σ (zs_te k) pl sp (zs_st r c k tl pr) x0 (4 * s + w), fun v _ => 4 - v.toNatClampNeg, ⟨0, Nat.zero_le _, rfl, hI⟩, ?_⟩
  rintro v σ1 ⟨w, hw4, rfl, hx, hL, hX, hN, hR, hK⟩
  refine ⟨fun q => ?_, fun q => ?_⟩
  · have := zl_end (N := 4) hw4 (by decide) q
    subst this
    rw [nI_1]
    exact h σ1 ⟨hx, hL, hX, hN, hR, hK⟩
  have hw := zl_go (N := 4) hw4 (by decide) q
  have hlen : ∀ n, (bf (zs_st r c k tl pr) x0 n).length ≤ 864 := fun n => bf_count hd hV n
  have hsn : s < (bf (zs_st r c k tl pr) x0 (4 * s + w)).length := Nat.lt_of_lt_of_le hs (bf_len _ _ (Nat.le_add_right _ _))
  have hl4 := hlen (4 * s + w)
  obtain ⟨e, he⟩ : ∃ e, (bf (zs_st r c k tl pr) x0 (4 * s + w))[s]? = some e := ⟨_, List.getElem?_eq_getElem hsn⟩
  have hVe : zs_V r c k e.1 := bf_all (zs_V r c k) hV (fun x w y hx hw h => zs_st_V hx hw h) _ _ e he
  obtain ⟨hp, hss, hp72⟩ := zs_V_dm hd hVe
  obtain ⟨z1, z2, z3⟩ := hL.2 s e he
  have hdiv : (4 * s + w) / 4 = s := by omega
  have hmod : (4 * s + w) % 4 = w := by omega
  have he4 : (bf (zs_st r c k tl pr) x0 (4 * s + w))[(4 * s + w) / 4]? = some e := by rw [hdiv]; exact he
  have hcode : 24 * (e.1 / 24) + e.1 % 24 = e.1 := Nat.div_add_mod _ _
  have hs24 : e.1 % 24 < 24 := Nat.mod_lt _ (by decide)
  have leaf : ∀ σ', MI σ0 σ' (zs_te k) pl sp (zs_st r c k tl pr) x0 (4 * s + w + 1) → (∃ w', w' ≤ 4 ∧ nI (w + 1) = nI w' ∧ MI σ0 σ' (zs_te k) pl sp (zs_st r c k tl pr) x0 (4 * s + w')) ∧ 4 - (nI (w + 1)).toNatClampNeg < 4 - (nI w).toNatClampNeg := by
    intro σ' hM
    have c1 : (nI (w + 1)).toNatClampNeg = w + 1 := nI_clamp (by omega)
    have c0 : (nI w).toNatClampNeg = w := nI_clamp (by omega)
    rw [c1, c0]
    exact ⟨⟨w + 1, hw, rfl, hM⟩, by omega⟩
  refine e8_loads (by omega) z1 z2 (fun σ2 x2 hF2 => ?_)
  have y2 : zx σ0 σ2 [8, 12, 20, 27, 28] [10, 11, 13, 21, 22, 23, 24, 25, 26] := hx.tr (x2.mono (by decide) (by decide))
  refine e8_rolls (hB.x y2 (by decide)) hd hpr hw hF2 hp hss (fun pl2 s2 hroll σ3 x3 hF3 => ?_) (fun hroll σ3 x3 hF3 => ?_)
  · have y3 : zx σ0 σ3 [8, 12, 20, 27, 28] [10, 11, 13, 21, 22, 23, 24, 25, 26] := y2.tr (x3.mono (by decide) (by decide))
    have x13 : zx σ1 σ3 [8, 12] [10, 11, 13] := (x2.mono (by decide) (by decide)).tr x3
    have hst : zs_st r c k tl pr e.1 w = some (24 * pl2 + s2) := by rw [← hcode]; exact zs_st_some hs24 hroll
    have hVy := zs_st_V hVe hw hst
    have hsl : s2 < 24 := Nat.lt_of_lt_of_le (zs_roll_ok hss hw hroll).2.1 (zs_ns_le _)
    obtain ⟨d1, d2, d3⟩ := zs_V_dm hd hVy
    have hF3' : MF σ3 (zs_te k) ((24 * pl2 + s2) / 24) ((24 * pl2 + s2) % 24) := by rw [(zs_code_dm hsl).1, (zs_code_dm hsl).2]; exact hF3
    have hL3 := hL.x x13 (by decide)
    have hX3 := hX.x x13 (by decide)
    have hN3 := hN.x x13 (by decide)
    have hR3 := hR.x x13 (by decide)
    have hK3 := hK.x x13 (by decide)
    have f25 : σ3.2.1 25 (nI s).toNatClampNeg + 1 = nI (e.2.2 + 1) := by
      rw [nI_clamp (by omega : s < 2 ^ 31), (hL3.2 s e he).2.2, nI_1]
    refine ⟨fun q => absurd q (by decide), fun _ => ⟨vp_in_nI (by omega) (by decide), ?_⟩⟩
    rw [f25]
    generalize hy : 24 * pl2 + s2 = y at *
    refine e8_found (b := 4 * s + w) (hB.x y3 (by decide)) hd hF3' d2 d3 (by omega) hL3 hX3 (fun j f hj hfy => ?_) (fun hno σ4 x4 hL4 hX4 => ?_)
    · have hb : bf (zs_st r c k tl pr) x0 (4 * s + w + 1) = bf (zs_st r c k tl pr) x0 (4 * s + w) := bf_S2 he4 (by rw [hmod]; exact hst) ⟨f, List.mem_of_getElem? hj, hfy⟩
      refine e8_goes_97 (n := 4 * s + w) (st := zs_st r c k tl pr) (x0 := x0) (e := e) rfl hw (hlen _) hsn y3 (by rw [hb]; exact hL3) (by rw [hb]; exact hX3) hN3 hR3 hK3 (by rw [hb]; exact he) (Or.inr ⟨y, j, f, hst, by rw [hb]; exact hj, hfy, rfl⟩) leaf
    · have hb : bf (zs_st r c k tl pr) x0 (4 * s + w + 1) = bf (zs_st r c k tl pr) x0 (4 * s + w) ++ [(y, 4 * s + w, e.2.2 + 1)] := bf_S3 he4 (by rw [hmod]; exact hst) hno
      have y4 : zx σ0 σ4 [8, 12, 20, 27, 28] [10, 11, 13, 21, 22, 23, 24, 25, 26] := y3.tr (x4.mono (by decide) (by decide))
      refine e8_goes_97 (n := 4 * s + w) (st := zs_st r c k tl pr) (x0 := x0) (e := e) rfl hw (hlen _) hsn y4 (by rw [hb]; exact hL4) (by rw [hb]; exact hX4) (hN3.x x4 (by decide)) (hR3.x x4 (by decide)) (hK3.x x4 (by decide)) (by rw [hb]; exact zl_front _ he) (Or.inr ⟨y, _, _, hst, by rw [hb]; exact zl_last _ _, rfl, rfl⟩) leaf
  · have y3 : zx σ0 σ3 [8, 12, 20, 27, 28] [10, 11, 13, 21, 22, 23, 24, 25, 26] := y2.tr (x3.mono (by decide) (by decide))
    have x13 : zx σ1 σ3 [8, 12] [10, 11, 13] := (x2.mono (by decide) (by decide)).tr x3
    have hst : zs_st r c k tl pr e.1 w = none := by rw [← hcode]; exact zs_st_none hs24 hroll
    have hb : bf (zs_st r c k tl pr) x0 (4 * s + w + 1) = bf (zs_st r c k tl pr) x0 (4 * s + w) := bf_S1 he4 (by rw [hmod]; exact hst)
    refine ⟨fun _ => ?_, fun q => absurd rfl q⟩
    refine e8_goes_97 (n := 4 * s + w) (st := zs_st r c k tl pr) (x0 := x0) (e := e) rfl hw (hlen _) hsn y3 (by rw [hb]; exact hL.x x13 (by decide)) (by rw [hb]; exact hX.x x13 (by decide)) (hN.x x13 (by decide)) (hR.x x13 (by decide)) (hK.x x13 (by decide)) (by rw [hb]; exact he) (Or.inl ⟨hst, rfl⟩) leaf
theorem e8_goesThrough {Q : zz_St → Prop} (hB : MB σ r c k tl pr) (hd : zs_dim r c k) (hpr : ∀ t, t < 36 → pr t = -1 ∨ 0 ≤ pr t) (hV : zs_V r c k x0) (hF : MF σ (zs_te k) (x0 / 24) (x0 % 24))
    (h : ∀ σ2, zx σ σ2 [8, 12, 20, 27, 28] [10, 11, 13, 21, 22, 23, 24, 25, 26] → MF σ2 (zs_te k) (x0 / 24) (x0 % 24) → MG σ2 (zs_te k) (zs_st r c k tl pr) x0 (bfx r c k tl pr x0) → Q σ2) : zq8_goesThrough σ Q := by
  unfold zq8_goesThrough
  obtain ⟨hp, hss, hp72⟩ := zs_V_dm hd hV
  refine e8_keeps1 hF (fun g xg hK => ?_)
  unfold zq8_goesThrough_6
  refine zl_fill (dst := 22) (N := 4608) (by decide) (fun σ1 x1 hfill _ g2 hg2 g3 hg3 => ?_)
  have x2 : zx σ1 g2 [27] [] := by rw [hg2]; exact zx.I 27 _ (by decide)
  have x3 : zx g2 g3 [28] [] := by rw [hg3]; exact zx.I 28 _ (by decide)
  have x13 : zx σ1 g3 [27, 28] [] := (x2.mono (by decide) (by decide)).tr (x3.mono (by decide) (by decide))
  have xg3 : zx g g3 [27, 28] [22] := (x1.mono (by decide) (by decide)).tr (x13.mono (by decide) (by decide))
  have y3 : zx σ g3 [8, 12, 20, 27, 28] [10, 11, 13, 21, 22, 23, 24, 25, 26] := (xg.mono (by decide) (by decide)).tr (xg3.mono (by decide) (by decide))
  have c27 : g3.1 27 = nI 0 := by rw [x3.1 27 (by decide), hg2, zz_I1, if_pos rfl]; rfl
  have c28 : g3.1 28 = -1 := by rw [hg3, zz_I1, if_pos rfl]
  have hF3 : MF g3 (zs_te k) (x0 / 24) (x0 % 24) := (hF.x xg (by decide)).x xg3 (by decide)
  refine e8_found (x := x0) (d := 0) (b := 0) (l := []) (hB.x y3 (by decide)) hd hF3 hss hp72 (by decide) ⟨c27, fun i e hi => by simp at hi⟩ (fun x a b => Or.inr ⟨fun ⟨z, hz, _⟩ => absurd hz List.not_mem_nil, by rw [x13.2.1 22 (by decide)]; exact hfill _ (zs_key_lt a b)⟩) (fun i e hi => by simp at hi) (fun _ σ4 x4 hL4 hX4 => ?_)
  have y4 : zx σ σ4 [8, 12, 20, 27, 28] [10, 11, 13, 21, 22, 23, 24, 25, 26] := y3.tr (x4.mono (by decide) (by decide))
  have hK4 : MK σ4 20 21 (zs_te k) (x0 / 24) (x0 % 24) := (hK.x xg3 (by decide)).x x4 (by decide)
  have c4 : σ4.1 28 = -1 := (x4.1 28 (by decide)).trans c28
  have hlen : ∀ n, (bf (zs_st r c k tl pr) x0 n).length ≤ 864 := fun n => bf_count hd hV n
  have hI0 : MI σ σ4 (zs_te k) (x0 / 24) (x0 % 24) (zs_st r c k tl pr) x0 0 := ⟨y4, hL4, hX4, fun t ht => absurd ht (Nat.not_lt_zero t), Or.inl ⟨c4, fun t ht => absurd ht (Nat.not_lt_zero t)⟩, hK4⟩
  unfold zq8_goesThrough_44
  refine ⟨fun v σ' => ∃ s, s ≤ 900 ∧ v = nI s ∧ (s ≤ (bf (zs_st r c k tl pr) x0 (4 * s)).length ∧ MI σ σ' (zs_te k) (x0 / 24) (x0 % 24) (zs_st r c k tl pr) x0 (4 * s)), fun v _ => 900 - v.toNatClampNeg, ⟨0, Nat.zero_le _, rfl, Nat.zero_le _, hI0⟩, ?_⟩
  rintro v σ5 ⟨s, hs9, rfl, hsl, hI⟩
  have hl := hlen (4 * s)
  obtain ⟨a1, a2, a3, a4, a5, a6⟩ := hI
  rw [a2.1]
  refine pk_le _ _ (fun q => ?_) (fun q => ?_)
  · refine e8_lays1 a6 (fun σ6 x6 hF6 => ?_)
    have hse : s = (bf (zs_st r c k tl pr) x0 (4 * s)).length := by omega
    have hbx : bfx r c k tl pr x0 = bf (zs_st r c k tl pr) x0 (4 * s) := bfx_at (4 * s) (by omega) (by omega)
    refine h σ6 (a1.tr (x6.mono (by decide) (by decide))) hF6 ?_
    rw [hbx]
    refine ⟨a2.x x6 (by decide), ?_, ?_⟩
    · rw [← hse]; exact a4.x x6 (by decide)
    · rw [← hse]; exact a5.x x6 (by decide)
  · refine e8_goes_54 hB hd hpr hV q ⟨a1, a2, a3, a4, a5, a6⟩ (fun σ' hM => ?_)
    have hle := bf_len (st := zs_st r c k tl pr) (x0 := x0) (4 * s) (4 * (s + 1)) (by omega)
    exact zl_leafS (J := fun s σ' => s ≤ (bf (zs_st r c k tl pr) x0 (4 * s)).length ∧ MI σ σ' (zs_te k) (x0 / 24) (x0 % 24) (zs_st r c k tl pr) x0 (4 * s)) (N := 900) (by omega) (by decide) ⟨by omega, hM⟩
end M11
