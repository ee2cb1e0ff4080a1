/-! call: reached; a roll turns the parity of the faces -/
def zs_PC : List Nat := [0, 1, 1, 1, 1, 0, 0, 0, 0, 0, 0, 0, 0, 0, 0, 1, 1, 1, 1, 1, 1, 1, 1, 0]
def zs_PT : List Nat := [0, 1, 1, 1, 0, 0, 0, 1]
def zs_par (te : Bool) (s : Nat) : Nat := if te then zs_PT.getD s 0 else zs_PC.getD s 0
theorem zs_par_T : ∀ te : Bool, ∀ s, s < zs_ns te → zs_par te s < 2 ∧ ∀ w, w < 4 → zs_par te (zs_T te s w) = 1 - zs_par te s := by
  intro te
  cases te
  · exact (by decide +kernel : ∀ s, s < 24 → zs_par false s < 2 ∧ ∀ w, w < 4 → zs_par false (zs_T false s w) = 1 - zs_par false s)
  · exact (by decide +kernel : ∀ s, s < 8 → zs_par true s < 2 ∧ ∀ w, w < 4 → zs_par true (zs_T true s w) = 1 - zs_par true s)
theorem zs_fin_s {r c k : Nat} {tl : Nat → Int32} {a b s : Nat} {q : Nat × Nat} (h : zs_fin r c k tl a b s = some q) : q.2 = s := by
  unfold zs_fin at h
  split at h
  · cases h; rfl
  · cases h
theorem zs_tfin_s {r c k : Nat} {tl pr : Nat → Int32} {a b s : Nat} {q : Nat × Nat} (h : zs_tfin r c k tl pr a b s = some q) : q.2 = s := by
  unfold zs_tfin at h
  split at h
  · cases h; rfl
  · cases h
theorem zs_roll_s {r c k : Nat} {tl pr : Nat → Int32} {pl s w : Nat} {q : Nat × Nat} (h : zs_roll r c k tl pr pl s w = some q) : q.2 = zs_T (zs_te k) s w := by
  unfold zs_roll at h
  split at h
  · rename_i hk
    rw [show zs_te k = true from decide_eq_true hk]
    unfold zs_tt at h
    simp only at h
    split at h
    · split at h
      · cases h
      · exact zs_tfin_s h
    split at h
    · exact zs_tfin_s h
    split at h
    · split at h
      · exact zs_tfin_s h
      · cases h
    split at h
    · cases h
    · exact zs_tfin_s h
  · rename_i hk
    rw [show zs_te k = false from decide_eq_false hk]
    unfold zs_sq at h
    simp only at h
    split at h
    · split at h
      · cases h
      · exact zs_fin_s h
    split at h
    · exact zs_fin_s h
    split at h
    · exact zs_fin_s h
    split at h
    · cases h
    · exact zs_fin_s h
/-- the parity of a state, against the start's -/
def zs_pp (k x0 x : Nat) : Nat := (zs_par (zs_te k) (x % 24) + zs_par (zs_te k) (x0 % 24)) % 2
theorem zs_pp_lt (k x0 x : Nat) : zs_pp k x0 x < 2 := Nat.mod_lt _ (by decide)
theorem zs_pp_0 (k x0 : Nat) : zs_pp k x0 x0 = 0 := by unfold zs_pp; omega
theorem zs_pp_st {r c k x0 x w y : Nat} {tl pr : Nat → Int32} (hV : zs_V r c k x) (hw : w < 4) (h : zs_st r c k tl pr x w = some y) : zs_pp k x0 y = 1 - zs_pp k x0 x := by
  unfold zs_st at h
  cases hq : zs_roll r c k tl pr (x / 24) (x % 24) w with
  | none => rw [hq] at h; cases h
  | some q =>
    rw [hq] at h
    have e : 24 * q.1 + q.2 = y := Option.some.inj h
    have e2 := zs_roll_s hq
    have hs : q.2 < 24 := Nat.lt_of_lt_of_le (zs_roll_ok hV.2.1 hw hq).2.1 (zs_ns_le _)
    have e3 : y % 24 = zs_T (zs_te k) (x % 24) w := by rw [← e2]; omega
    obtain ⟨p1, p2⟩ := zs_par_T (zs_te k) (x % 24) hV.2.1
    unfold zs_pp
    rw [e3, p2 w hw]
    omega
noncomputable def zdec (P : Prop) : Bool := @decide P (Classical.propDecidable P)
theorem zdec_t {P : Prop} (h : P) : zdec P = true := @decide_eq_true P (Classical.propDecidable P) h
theorem zdec_f {P : Prop} (h : ¬ P) : zdec P = false := @decide_eq_false P (Classical.propDecidable P) h
/-- a place among the first i -/
def zpsn (l : List (Nat × Nat × Nat)) (i p : Nat) : Prop := ∃ j e, j < i ∧ l[j]? = some e ∧ e.1 / 24 = p
noncomputable def zpc (l : List (Nat × Nat × Nat)) (i : Nat) : Nat := zcnt (fun j => zdec (∃ e, l[j]? = some e ∧ ¬ zpsn l j (e.1 / 24))) i
theorem zpc1 {l : List (Nat × Nat × Nat)} {i : Nat} {e : Nat × Nat × Nat} (he : l[i]? = some e) (h : ¬ zpsn l i (e.1 / 24)) : zpc l (i + 1) = zpc l i + 1 := zcnt1 (P := fun j => zdec (∃ e, l[j]? = some e ∧ ¬ zpsn l j (e.1 / 24))) (zdec_t ⟨e, he, h⟩)
theorem zpc0 {l : List (Nat × Nat × Nat)} {i : Nat} {e : Nat × Nat × Nat} (he : l[i]? = some e) (h : zpsn l i (e.1 / 24)) : zpc l (i + 1) = zpc l i := zcnt0 (P := fun j => zdec (∃ e, l[j]? = some e ∧ ¬ zpsn l j (e.1 / 24))) (zdec_f (fun ⟨e', he', h'⟩ => by rw [he] at he'; cases he'; exact h' h))
theorem zpsn_s {l : List (Nat × Nat × Nat)} {i p : Nat} {e : Nat × Nat × Nat} (he : l[i]? = some e) : zpsn l (i + 1) p ↔ zpsn l i p ∨ e.1 / 24 = p := by
  constructor
  · rintro ⟨j, z, h1, h2, h3⟩
    rcases Nat.lt_succ_iff_lt_or_eq.mp h1 with q | q
    · exact Or.inl ⟨j, z, q, h2, h3⟩
    · rw [q, he] at h2; cases h2; exact Or.inr h3
  · rintro (⟨j, z, h1, h2, h3⟩ | h)
    · exact ⟨j, z, by omega, h2, h3⟩
    · exact ⟨i, e, Nat.lt_succ_self i, he, h⟩
theorem zcnt_upd {P P' : Nat → Bool} {n j : Nat} (hj : j < n) (h : ∀ i, i < n → i ≠ j → P' i = P i) (h1 : P j = true) (h0 : P' j = false) : zcnt P' n + 1 = zcnt P n := by
  induction n with
  | zero => omega
  | succ n ih =>
    rcases Nat.lt_succ_iff_lt_or_eq.mp hj with q | q
    · have := ih q (fun i hi hne => h i (by omega) hne)
      show zcnt P' n + (if P' n then 1 else 0) + 1 = zcnt P n + (if P n then 1 else 0)
      rw [h n (Nat.lt_succ_self n) (by omega)]
      omega
    · subst q
      have := zcnt_congr (P := P') (P' := P) j (fun i hi => h i (by omega) (by omega))
      rw [zcnt1 h1, zcnt0 h0, this]
section SB
variable {σ τ : zz_St} {r c k x0 : Nat} {tl pr : Nat → Int32}
theorem e4_countPlaces {Q : Int32 → zz_St → Prop} {l : List (Nat × Nat × Nat)} (hd : zs_dim r c k) (hC : CQ τ l) (hl : l.length ≤ 864) (hVl : ∀ (i : Nat) (e : Nat × Nat × Nat), l[i]? = some e → zs_V r c k e.1) (h : ∀ τ2, zx τ τ2 [] [23] → Q (nI (zpc l l.length)) τ2) : zq4_countPlaces τ Q := by
  unfold zq4_countPlaces zq4_countPlaces_12
  intro f12 hf g14 h14
  have x14 : zx τ g14 [] [23] := by rw [h14]; exact zx.A 23 _ (by decide)
  refine ⟨fun v1 v2 τ2 => ∃ i, i ≤ l.length ∧ v2 = nI i ∧ (v1 = nI (zpc l i) ∧ zx τ τ2 [] [23] ∧ ∀ p, p < 72 → (zpsn l i p → τ2.2.1 23 p = 1) ∧ (¬ zpsn l i p → τ2.2.1 23 p = 0)), fun _ v2 _ => l.length - v2.toNatClampNeg, ⟨0, Nat.zero_le _, rfl, rfl, x14, fun p hp => ⟨fun ⟨j, _, hj, _⟩ => absurd hj (Nat.not_lt_zero j), fun _ => by rw [h14, zz_A2, if_pos rfl]; exact hf p (by omega)⟩⟩, ?_⟩
  rintro v1 v2 τ2 ⟨i, hi, rfl, rfl, x2, hm⟩
  have hC2 : τ2.1 13 = nI l.length := (x2.1 13 (by decide)).trans hC.1
  rw [hC2]
  refine pk_le l.length i (fun q => ?_) (fun q => ⟨vp_in_nI (by omega) (by decide), ?_⟩)
  · rw [show i = l.length from by omega]; exact h τ2 x2
  · have he : l[i]? = some l[i] := List.getElem?_eq_getElem q
    generalize l[i] = e at he
    have ci : (nI i).toNatClampNeg = i := nI_clamp (by omega)
    have hx := zs_V_lt hd (hVl i e he)
    rw [ci, x2.2.1 22 (by decide), (hC.2.1 i e he).1, zs_div24 (by omega)]
    intro x9 e9
    subst e9
    have cp : (nI (e.1 / 24)).toNatClampNeg = e.1 / 24 := nI_clamp (by omega)
    have vp : vp_in (nI (e.1 / 24)) 1728 := vp_in_nI (by omega) (by decide)
    rw [cp]
    refine ⟨vp, fun x10 e10 => ⟨vp, fun g11 h11 => ?_⟩⟩
    refine zl_leaf (J := fun j τ2 => x10 = nI (zpc l j) ∧ zx τ τ2 [] [23] ∧ ∀ p, p < 72 → (zpsn l j p → τ2.2.1 23 p = 1) ∧ (¬ zpsn l j p → τ2.2.1 23 p = 0)) q (by omega) ⟨?_, ?_, fun p hp => ?_⟩
    · by_cases z : zpsn l i (e.1 / 24)
      · rw [e10, (hm _ hx.2).1 z, zpc0 he z, show (1 : Int32) - 1 = 0 from by decide]; exact nI_add _ 0
      · rw [e10, (hm _ hx.2).2 z, zpc1 he z, show (1 : Int32) - 0 = 1 from by decide]; exact nI_1 _
    · rw [h11]; exact x2.tr (zx.A 23 _ (by decide))
    · rw [zpsn_s he, h11, zz_A2, if_pos rfl]
      by_cases y : p = e.1 / 24
      · rw [y, pk_us]; exact ⟨fun _ => rfl, fun u => absurd (Or.inr rfl) u⟩
      · rw [pk_un y]
        exact ⟨fun u => (hm p hp).1 (u.resolve_right (fun v => y v.symm)), fun u => (hm p hp).2 (fun v => u (Or.inl v))⟩
theorem vp_nar_b1 : vp_nar .boolean (1 : Int32) = 1 := by decide
theorem vp_nar_b0 : vp_nar .boolean (0 : Int32) = 0 := by decide
theorem e8_placesReached {Q : Int32 → zz_St → Prop} {te : Bool} {l : List (Nat × Nat × Nat)} (hd : zs_dim r c k) (hL : ML σ te l) (hl : l.length ≤ 864) (hVl : ∀ (i : Nat) (e : Nat × Nat × Nat), l[i]? = some e → zs_V r c k e.1) (h : ∀ σ2, zx σ σ2 [] [29] → Q (nI (zpc l l.length)) σ2) : zq8_placesReached σ Q := by
  unfold zq8_placesReached zq8_placesReached_2
  rw [vp_nar_b0]
  refine zl_fill (dst := 29) (N := 72) (by decide) (fun σ1 x1 hf _ => ?_)
  unfold zq8_placesReached_25 zq8_placesReached_50
  rw [vp_nar_b1]
  refine ⟨fun v1 v2 σ2 => ∃ i, i ≤ l.length ∧ v2 = nI i ∧ (v1 = nI (zpc l i) ∧ zx σ σ2 [] [29] ∧ ∀ p, p < 72 → (zpsn l i p → σ2.2.1 29 p = 1) ∧ (¬ zpsn l i p → σ2.2.1 29 p = 0)), fun _ v2 _ => l.length - v2.toNatClampNeg, ⟨0, Nat.zero_le _, rfl, rfl, x1, fun p hp => ⟨fun ⟨j, _, hj, _⟩ => absurd hj (Nat.not_lt_zero j), fun _ => hf p hp⟩⟩, ?_⟩
  rintro v1 v2 σ2 ⟨i, hi, rfl, rfl, x2, hm⟩
  have hL2 : σ2.1 27 = nI l.length := (x2.1 27 (by decide)).trans hL.1
  rw [hL2]
  refine pk_le l.length i (fun q => ?_) (fun q => ⟨vp_in_nI (by omega) (by decide), ?_⟩)
  · rw [show i = l.length from by omega]; exact h σ2 x2
  · have he : l[i]? = some l[i] := List.getElem?_eq_getElem q
    generalize l[i] = e at he
    have ci : (nI i).toNatClampNeg = i := nI_clamp (by omega)
    have hx := zs_V_lt hd (hVl i e he)
    have cp : (nI (e.1 / 24)).toNatClampNeg = e.1 / 24 := nI_clamp (by omega)
    have vp : vp_in (nI (e.1 / 24)) 72 := vp_in_nI hx.2 (by decide)
    rw [ci, x2.2.1 23 (by decide), (hL.2 i e he).1, cp]
    have leaf : ∀ (m : Nat) (g6 : zz_St), zpc l (i + 1) = m → g6 = zz_A σ2 29 (upd (σ2.2.1 29) (e.1 / 24) 1) → (∃ j, j ≤ l.length ∧ nI i + 1 = nI j ∧ (nI m = nI (zpc l j) ∧ zx σ g6 [] [29] ∧ ∀ p, p < 72 → (zpsn l j p → g6.2.1 29 p = 1) ∧ (¬ zpsn l j p → g6.2.1 29 p = 0))) ∧ l.length - (nI i + 1).toNatClampNeg < l.length - (nI i).toNatClampNeg := by
      intro m g6 em h6
      refine zl_leaf (J := fun j g6 => nI m = nI (zpc l j) ∧ zx σ g6 [] [29] ∧ ∀ p, p < 72 → (zpsn l j p → g6.2.1 29 p = 1) ∧ (¬ zpsn l j p → g6.2.1 29 p = 0)) q (by omega) ⟨by rw [em], ?_, fun p hp => ?_⟩
      · rw [h6]; exact x2.tr (zx.A 29 _ (by decide))
      · rw [zpsn_s he, h6, zz_A2, if_pos rfl]
        by_cases y : p = e.1 / 24
        · rw [y, pk_us]; exact ⟨fun _ => rfl, fun u => absurd (Or.inr rfl) u⟩
        · rw [pk_un y]
          exact ⟨fun u => (hm p hp).1 (u.resolve_right (fun v => y v.symm)), fun u => (hm p hp).2 (fun v => u (Or.inl v))⟩
    refine ⟨vp, ?_⟩
    by_cases z : zpsn l i (e.1 / 24)
    · rw [(hm _ hx.2).1 z]
      exact zNf n10 ⟨vp_in_nI (by omega) (by decide), vp, fun g6 h6 => leaf _ g6 (zpc0 he z) h6⟩
    · rw [(hm _ hx.2).2 z, show nI (zpc l i) + 1 = nI (zpc l i + 1) from nI_1 _]
      exact zNt n00 ⟨vp_in_nI (by omega) (by decide), vp, fun g6 h6 => leaf _ g6 (zpc1 he z) h6⟩
end SB
