/-! small looks of both sides -/
theorem zl_leaf0 {J : Nat → Prop} {i N : Nat} (hi : i < N) (hN : N < 2 ^ 31) (hJ : J (i + 1)) : (∃ j, j ≤ N ∧ nI i + 1 = nI j ∧ J j) ∧ N - (nI i + 1).toNatClampNeg < N - (nI i).toNatClampNeg := by
  have h1 : nI i + 1 = nI (i + 1) := nI_1 i
  have c1 : (nI (i + 1)).toNatClampNeg = i + 1 := nI_clamp (by omega)
  have c0 : (nI i).toNatClampNeg = i := nI_clamp (by omega)
  rw [h1, c1, c0]
  exact ⟨⟨i + 1, hi, rfl, hJ⟩, by omega⟩
theorem zn_ma (a l i : Nat) : nI a * nI l + nI i = nI (a * l + i) := by rw [pk_mul, nI_add]
def zs_sd (te : Bool) : Nat := if te then 4 else 6
theorem e8_in2 {x : Int32} {Q : Int32 → Prop} (h1 : vp_in x 2 → Q 1) (h0 : ¬ vp_in x 2 → Q 0) : zq8_in x.toInt64 0 1 Q := by
  have e : (1 : Int64) = (nI 2 - 1).toInt64 := by decide +kernel
  rw [e]
  exact e8_inN (by decide) h1 h0
theorem e8_in3 {x : Int32} {Q : Int32 → Prop} (h1 : vp_in x 3 → Q 1) (h0 : ¬ vp_in x 3 → Q 0) : zq8_in x.toInt64 0 2 Q := by
  have e : (2 : Int64) = (nI 3 - 1).toInt64 := by decide +kernel
  rw [e]
  exact e8_inN (by decide) h1 h0
theorem e8_in4 {x : Int32} {Q : Int32 → Prop} (h1 : vp_in x 4 → Q 1) (h0 : ¬ vp_in x 4 → Q 0) : zq8_in x.toInt64 0 3 Q := by
  have e : (3 : Int64) = (nI 4 - 1).toInt64 := by decide +kernel
  rw [e]
  exact e8_inN (by decide) h1 h0
theorem e8_in6 {x : Int32} {Q : Int32 → Prop} (h1 : vp_in x 6 → Q 1) (h0 : ¬ vp_in x 6 → Q 0) : zq8_in x.toInt64 0 5 Q := by
  have e : (5 : Int64) = (nI 6 - 1).toInt64 := by decide +kernel
  rw [e]
  exact e8_inN (by decide) h1 h0
theorem e7_isList {v : Int32} {Q : Int32 → Prop} (h1 : vp_in v 3 → Q 1) (h0 : ¬ vp_in v 3 → Q 0) : zq7_isList v Q := by
  unfold zq7_isList
  exact zn_ix (n := 3) (by decide) h1 h0
theorem e7_isRack {v : Int32} {Q : Int32 → Prop} (h1 : vp_in v 3 → Q 1) (h0 : ¬ vp_in v 3 → Q 0) : zq7_isRack v Q := by
  unfold zq7_isRack
  exact zn_ix (n := 3) (by decide) h1 h0
theorem e7_isKind {v : Int32} {Q : Int32 → Prop} (h1 : vp_in v 6 → Q 1) (h0 : ¬ vp_in v 6 → Q 0) : zq7_isKind v Q := by
  unfold zq7_isKind
  exact zn_ix (n := 6) (by decide) h1 h0
theorem e8_isList {v : Int32} {Q : Int32 → Prop} (h1 : vp_in v 3 → Q 1) (h0 : ¬ vp_in v 3 → Q 0) : zq8_isList v Q := by
  unfold zq8_isList
  exact e8_in3 (fun q => ⟨Or.inr rfl, h1 q⟩) (fun q => ⟨Or.inl rfl, h0 q⟩)
theorem e8_isRack {v : Int32} {Q : Int32 → Prop} (h1 : vp_in v 3 → Q 1) (h0 : ¬ vp_in v 3 → Q 0) : zq8_isRack v Q := by
  unfold zq8_isRack
  exact e8_in3 (fun q => ⟨Or.inr rfl, h1 q⟩) (fun q => ⟨Or.inl rfl, h0 q⟩)
theorem e7_lackN {n : Nat} (hn : n < 2 ^ 31) {v : Int32} {Q : Int32 → Prop} (h1 : vp_in v n → Q 0) (h0 : ¬ vp_in v n → Q (-13)) : zq7_lackOf (nI n) v Q := by
  unfold zq7_lackOf
  have := zn_ix (v := v) hn h1 h0
  refine ⟨fun _ => ⟨this.1, fun q => ⟨fun q2 => (this.2 q).2 (Int32.not_le.mpr q2), fun q2 => (this.2 q).1 (Int32.not_lt.mp q2)⟩⟩, fun q => absurd (nI_pos' hn) q⟩
theorem e7_lackM {v : Int32} {Q : Int32 → Prop} (h : Q (-11)) : zq7_lackOf (-1) v Q := by
  unfold zq7_lackOf
  exact ⟨fun q => absurd q (by decide), fun _ => h⟩
section B46
variable {σ τ : zz_St} {r c k : Nat} {Q : Int32 → Prop}
theorem e6_tileCount (hC : CD τ r c k) (h : Q (nI (r * c))) : zq6_tileCount τ Q := by
  unfold zq6_tileCount
  rw [hC.1, hC.2.1, pk_mul]
  exact h
theorem e6_hasTile (hC : CD τ r c k) (hd : zs_dim r c k) {v : Int32} (h1 : vp_in v (r * c) → Q 1) (h0 : ¬ vp_in v (r * c) → Q 0) : zq6_hasTile v τ Q := by
  have hrc := zs_rc hd.2.1 hd.2.2.2.1
  unfold zq6_hasTile zq6_tileCount
  rw [hC.1, hC.2.1, pk_mul]
  exact zn_ix (by omega) h1 h0
theorem e6_hasPlace (hC : CD τ r c k) (hd : zs_dim r c k) {j : Nat} (hj : j < 6) {v : Int32} (h1 : vp_in v (zs_np r c j) → Q 1) (h0 : ¬ vp_in v (zs_np r c j) → Q 0) : zq6_hasPlace (nI j) v τ Q := by
  have hrc := zs_rc hd.2.1 hd.2.2.2.1
  unfold zq6_hasPlace zq6_hasPlace_17
  have a := zn_ix (v := v) (n := zs_np r c j) (by unfold zs_np; split <;> omega) h1 h0
  refine ⟨a.1, fun q => e7_isTetra hj (fun h4 => ⟨fun z => absurd z (by decide), fun _ => e6_tileCount hC ?_⟩) (fun h4 => ⟨fun _ => e6_tileCount hC ?_, fun z => absurd rfl z⟩)⟩
  · rw [show (2 : Int32) * nI (r * c) = nI (2 * (r * c)) from pk_mul 2 _]
    have := a.2 q
    rw [zs_np, if_pos h4] at this
    exact this
  · rw [show (1 : Int32) * nI (r * c) = nI (1 * (r * c)) from pk_mul 1 _, Nat.one_mul]
    have := a.2 q
    rw [zs_np, if_neg h4] at this
    exact this
theorem e8_isPlace {tl pr : Nat → Int32} (hB : MB σ r c k tl pr) (hd : zs_dim r c k) {v : Int32} (h1 : vp_in v (zs_np r c k) → Q 1) (h0 : ¬ vp_in v (zs_np r c k) → Q 0) : zq8_isPlace v σ Q := by
  have hrc := zs_rc hd.2.1 hd.2.2.2.1
  unfold zq8_isPlace zq8_isPlace_15
  refine e8_isTetra hB hd (fun h4 => ⟨fun z => absurd z (by decide), fun _ => e8_tileMany hB ?_⟩) (fun h4 => ⟨fun _ => e8_tileMany hB ?_, fun z => absurd rfl z⟩)
  · rw [zs_np, if_pos h4] at h1 h0
    rw [show (2 : Int32) * nI (r * c) = nI (2 * (r * c)) from pk_mul 2 _]
    exact e8_inN (by omega) (fun q => ⟨Or.inr rfl, h1 q⟩) (fun q => ⟨Or.inl rfl, h0 q⟩)
  · rw [zs_np, if_neg h4] at h1 h0
    rw [show (1 : Int32) * nI (r * c) = nI (1 * (r * c)) from pk_mul 1 _, Nat.one_mul]
    exact e8_inN (by omega) (fun q => ⟨Or.inr rfl, h1 q⟩) (fun q => ⟨Or.inl rfl, h0 q⟩)
theorem e8_isFace {tl pr : Nat → Int32} (hB : MB σ r c k tl pr) (hd : zs_dim r c k) {v : Int32} (h1 : vp_in v (zs_sd (zs_te k)) → Q 1) (h0 : ¬ vp_in v (zs_sd (zs_te k)) → Q 0) : zq8_isFace v σ Q := by
  unfold zq8_isFace zq8_isFace_19
  refine e8_isTetra hB hd (fun h4 => ⟨fun z => absurd z (by decide), fun _ => ?_⟩) (fun h4 => ⟨fun _ => ?_, fun z => absurd rfl z⟩)
  · rw [show zs_te k = true from decide_eq_true h4] at h1 h0
    exact e8_in4 (fun q => ⟨Or.inr rfl, h1 q⟩) (fun q => ⟨Or.inl rfl, h0 q⟩)
  · rw [show zs_te k = false from decide_eq_false h4] at h1 h0
    exact e8_in6 (fun q => ⟨Or.inr rfl, h1 q⟩) (fun q => ⟨Or.inl rfl, h0 q⟩)
theorem e6_stances {Q : Nat → Prop} (hC : CD τ r c k) (hd : zs_dim r c k) (h : Q (if zs_te k then 1 else 0)) : zq6_stances τ Q := by
  unfold zq6_stances
  rw [hC.2.2]
  refine e7_isTetra hd.2.2.2.2 (fun h4 => ⟨fun z => absurd z (by decide), fun _ => ?_⟩) (fun h4 => ⟨fun _ => ?_, fun z => absurd rfl z⟩)
  · rw [show zs_te k = true from decide_eq_true h4] at h; exact h
  · rw [show zs_te k = false from decide_eq_false h4] at h; exact h
theorem CT.sd (hT : CT τ) (te : Bool) : τ.1 (16 + if te then 1 else 0) = nI (zs_sd te) := by
  cases te
  · exact hT.1.1
  · exact hT.1.2.1
theorem e7_isFace (hC : CD τ r c k) (hT : CT τ) (hd : zs_dim r c k) {v : Int32} (h1 : vp_in v (zs_sd (zs_te k)) → Q 1) (h0 : ¬ vp_in v (zs_sd (zs_te k)) → Q 0) : zq7_isFace v τ Q := by
  unfold zq7_isFace
  have a := zn_ix (v := v) (n := zs_sd (zs_te k)) (by cases zs_te k <;> decide) h1 h0
  refine ⟨a.1, fun q => e6_stances hC hd ⟨by cases zs_te k <;> decide, ?_⟩⟩
  rw [hT.sd]
  exact a.2 q
/-- a place and a face that may be asked for -/
def zs_ask (r c k : Nat) (p f : Int32) : Prop := vp_in p (zs_np r c k) ∧ (f = -1 ∨ vp_in f (zs_sd (zs_te k)))
theorem e7_isGoal (hC : CD τ r c k) (hT : CT τ) (hd : zs_dim r c k) {p f : Int32} (h1 : zs_ask r c k p f → Q 1) (h0 : ¬ zs_ask r c k p f → Q 0) : zq7_isGoal p f τ Q := by
  unfold zq7_isGoal
  rw [hC.2.2]
  refine e6_hasPlace hC hd hd.2.2.2.2 (fun q => ⟨fun z => absurd z (by decide), fun _ => ⟨fun z => h1 ⟨q, Or.inl z⟩, fun z => e7_isFace hC hT hd (fun y => ?_) (fun y => ?_)⟩⟩) (fun q => ⟨fun _ => h0 (fun z => q z.1), fun z => absurd rfl z⟩)
  · exact ⟨fun z => absurd z (by decide), fun _ => h1 ⟨q, Or.inr y⟩⟩
  · exact ⟨fun _ => h0 (fun w => w.2.elim z y), fun z => absurd rfl z⟩
theorem e8_areAsked {tl pr : Nat → Int32} (hB : MB σ r c k tl pr) (hd : zs_dim r c k) {p f : Int32} (h1 : zs_ask r c k p f → Q 1) (h0 : ¬ zs_ask r c k p f → Q 0) : zq8_areAsked p f σ Q := by
  unfold zq8_areAsked
  refine e8_isPlace hB hd (fun q => ⟨fun z => absurd z (by decide), fun _ => ⟨fun z => h1 ⟨q, Or.inl z⟩, fun z => e8_isFace hB hd (fun y => ?_) (fun y => ?_)⟩⟩) (fun q => ⟨fun _ => h0 (fun z => q z.1), fun z => absurd rfl z⟩)
  · exact ⟨fun z => absurd z (by decide), fun _ => h1 ⟨q, Or.inr y⟩⟩
  · exact ⟨fun _ => h0 (fun w => w.2.elim z y), fun z => absurd rfl z⟩
theorem e6_none0 (h8 : τ.1 8 < 0) (h : Q 1) : zq6_isNone τ Q := by
  unfold zq6_isNone
  exact ⟨fun q => absurd h8 (Int32.not_lt.mpr q), fun _ => h⟩
theorem e6_none1 {x : Nat} (hx : x < 2 ^ 31) (h8 : τ.1 8 = nI x) (h : Q 0) : zq6_isNone τ Q := by
  unfold zq6_isNone
  rw [h8]
  exact ⟨fun _ => h, fun q => absurd (nI_pos' hx) q⟩
/-- how many of the first n -/
def zcnt (P : Nat → Bool) : Nat → Nat
  | 0 => 0
  | n + 1 => zcnt P n + if P n then 1 else 0
theorem zcnt1 {P : Nat → Bool} {n : Nat} (h : P n = true) : zcnt P (n + 1) = zcnt P n + 1 := by
  show zcnt P n + (if P n then 1 else 0) = _
  rw [if_pos h]
theorem zcnt0 {P : Nat → Bool} {n : Nat} (h : P n = false) : zcnt P (n + 1) = zcnt P n := by
  show zcnt P n + (if P n then 1 else 0) = _
  rw [h]
  rfl
theorem zcnt_congr {P P' : Nat → Bool} (n : Nat) (h : ∀ i, i < n → P i = P' i) : zcnt P n = zcnt P' n := by
  induction n with
  | zero => rfl
  | succ n ih =>
    show zcnt P n + (if P n then 1 else 0) = zcnt P' n + (if P' n then 1 else 0)
    rw [ih (fun i hi => h i (Nat.lt_succ_of_lt hi)), h n (Nat.lt_succ_self n)]
theorem e6_countPrints (hC : CD τ r c k) (hd : zs_dim r c k) (h : Q (nI (zcnt (fun i => decide (¬ τ.2.1 16 i = -1)) (r * c)))) : zq6_countPrints τ Q := by
  have hrc := zs_rc hd.2.1 hd.2.2.2.1
  unfold zq6_countPrints zq6_countPrints_4 zq6_countPrints_25 zq6_tileCount
  refine ⟨fun v1 v2 => ∃ i, i ≤ r * c ∧ v2 = nI i ∧ v1 = nI (zcnt (fun i => decide (¬ τ.2.1 16 i = -1)) i), fun _ v2 => r * c - v2.toNatClampNeg, ⟨0, Nat.zero_le _, rfl, rfl⟩, ?_⟩
  rintro v1 v2 ⟨i, hi, rfl, rfl⟩
  rw [hC.1, hC.2.1, pk_mul]
  have ci : (nI i).toNatClampNeg = i := nI_clamp (by omega)
  refine pk_le (r * c) i (fun q => ?_) (fun q => ⟨vp_in_nI (by omega) (by decide), ?_⟩)
  · rw [show i = r * c from by omega]; exact h
  · rw [ci]
    refine ⟨fun z => ?_, fun z => ?_⟩
    · have := zl_leaf0 (J := fun j => nI (zcnt (fun i => decide (¬ τ.2.1 16 i = -1)) i) = nI (zcnt (fun i => decide (¬ τ.2.1 16 i = -1)) j)) q (by omega) (by rw [zcnt0 (decide_eq_false (fun y => y z))])
      exact this
    · have := zl_leaf0 (J := fun j => nI (zcnt (fun i => decide (¬ τ.2.1 16 i = -1)) i) + 1 = nI (zcnt (fun i => decide (¬ τ.2.1 16 i = -1)) j)) q (by omega) (by rw [zcnt1 (decide_eq_true z), nI_1])
      exact this
theorem e6_countTiles (hC : CD τ r c k) (hd : zs_dim r c k) {v : Int32} (h : Q (nI (zcnt (fun i => decide (τ.2.1 14 i = v)) (r * c)))) : zq6_countTiles v τ Q := by
  have hrc := zs_rc hd.2.1 hd.2.2.2.1
  unfold zq6_countTiles zq6_countTiles_4 zq6_countTiles_25 zq6_tileCount
  refine ⟨fun v1 v2 => ∃ i, i ≤ r * c ∧ v2 = nI i ∧ v1 = nI (zcnt (fun i => decide (τ.2.1 14 i = v)) i), fun _ v2 => r * c - v2.toNatClampNeg, ⟨0, Nat.zero_le _, rfl, rfl⟩, ?_⟩
  rintro v1 v2 ⟨i, hi, rfl, rfl⟩
  rw [hC.1, hC.2.1, pk_mul]
  have ci : (nI i).toNatClampNeg = i := nI_clamp (by omega)
  refine pk_le (r * c) i (fun q => ?_) (fun q => ⟨vp_in_nI (by omega) (by decide), ?_⟩)
  · rw [show i = r * c from by omega]; exact h
  · rw [ci]
    refine ⟨fun z => ?_, fun z => ?_⟩
    · have := zl_leaf0 (J := fun j => nI (zcnt (fun i => decide (τ.2.1 14 i = v)) i) = nI (zcnt (fun i => decide (τ.2.1 14 i = v)) j)) q (by omega) (by rw [zcnt0 (decide_eq_false z)])
      exact this
    · have := zl_leaf0 (J := fun j => nI (zcnt (fun i => decide (τ.2.1 14 i = v)) i) + 1 = nI (zcnt (fun i => decide (τ.2.1 14 i = v)) j)) q (by omega) (by rw [zcnt1 (decide_eq_true z), nI_1])
      exact this
theorem e8_printed {tl pr : Nat → Int32} (hB : MB σ r c k tl pr) (hd : zs_dim r c k) (h : Q (nI (zcnt (fun i => decide (¬ pr i < 0)) (r * c)))) : zq8_printed σ Q := by
  have hrc := zs_rc hd.2.1 hd.2.2.2.1
  unfold zq8_printed zq8_printed_4 zq8_printed_27
  refine ⟨fun v1 v2 => ∃ i, i ≤ r * c ∧ v2 = nI i ∧ v1 = nI (zcnt (fun i => decide (¬ pr i < 0)) i), fun _ v2 => r * c - v2.toNatClampNeg, ⟨0, Nat.zero_le _, rfl, rfl⟩, ?_⟩
  rintro v1 v2 ⟨i, hi, rfl, rfl⟩
  refine e8_tileMany hB ?_
  have ci : (nI i).toNatClampNeg = i := nI_clamp (by omega)
  refine pk_le (r * c) i (fun q => ?_) (fun q => ⟨vp_in_nI (by omega) (by decide), ?_⟩)
  · rw [show i = r * c from by omega]; exact h
  · rw [ci, hB.2.2.2.2]
    refine ⟨fun z x ex => ?_, fun z x ex => ?_⟩
    · have := zl_leaf0 (J := fun j => x = nI (zcnt (fun i => decide (¬ pr i < 0)) j)) q (by omega) (by rw [ex, zcnt0 (decide_eq_false (fun y => y z))]; exact nI_add _ 0)
      exact this
    · have := zl_leaf0 (J := fun j => x = nI (zcnt (fun i => decide (¬ pr i < 0)) j)) q (by omega) (by rw [ex, zcnt1 (decide_eq_true z), nI_1])
      exact this
theorem e8_tilesThatAre {tl pr : Nat → Int32} (hB : MB σ r c k tl pr) (hd : zs_dim r c k) {v : Int32} (h : Q (nI (zcnt (fun i => decide (tl i = v)) (r * c)))) : zq8_tilesThatAre v σ Q := by
  have hrc := zs_rc hd.2.1 hd.2.2.2.1
  unfold zq8_tilesThatAre zq8_tilesThatAre_4 zq8_tilesThatAre_28
  refine ⟨fun v1 v2 => ∃ i, i ≤ r * c ∧ v2 = nI i ∧ v1 = nI (zcnt (fun i => decide (tl i = v)) i), fun _ v2 => r * c - v2.toNatClampNeg, ⟨0, Nat.zero_le _, rfl, rfl⟩, ?_⟩
  rintro v1 v2 ⟨i, hi, rfl, rfl⟩
  refine e8_tileMany hB ?_
  have ci : (nI i).toNatClampNeg = i := nI_clamp (by omega)
  refine pk_le (r * c) i (fun q => ?_) (fun q => ⟨vp_in_nI (by omega) (by decide), ?_⟩)
  · rw [show i = r * c from by omega]; exact h
  · rw [ci, hB.2.2.2.1]
    refine ⟨fun z x ex => ?_, fun z x ex => ?_⟩
    · have := zl_leaf0 (J := fun j => x = nI (zcnt (fun i => decide (tl i = v)) j)) q (by omega) (by rw [ex, zcnt0 (decide_eq_false z)]; exact nI_add _ 0)
      exact this
    · have := zl_leaf0 (J := fun j => x = nI (zcnt (fun i => decide (tl i = v)) j)) q (by omega) (by rw [ex, zcnt1 (decide_eq_true z), nI_1])
      exact this
end B46
section REL2
variable {σ σ' τ τ' : zz_St}
theorem Rel.rl (h : Rel σ τ) (hx : zy σ σ' [15] [14]) (hy : zy τ τ' [12] [18]) (hL : RLt σ' τ') : Rel σ' τ' := by
  obtain ⟨⟨r, c, k, h0⟩, _, hS, hK, hF, hI, hT⟩ := h
  exact ⟨⟨r, c, k, h0.x hx hy (by decide) (by decide)⟩, hL, hS.x hx hy (by decide), hK.x hx hy (by decide), hF.x hx hy (by decide), hI.x hx hy (by decide) (by decide), hT.y hy (by decide) (by decide)⟩
theorem Rel.rs (h : Rel σ τ) (hx : zy σ σ' [] [36, 37]) (hy : zy τ τ' [22, 23, 24] [34, 35, 36]) (hS : RS σ' τ') : Rel σ' τ' := by
  obtain ⟨⟨r, c, k, h0⟩, hL, _, hK, hF, hI, hT⟩ := h
  exact ⟨⟨r, c, k, h0.x hx hy (by decide) (by decide)⟩, hL.x hx hy (by decide), hS, hK.x hx hy (by decide), hF.x hx hy (by decide), hI.x hx hy (by decide) (by decide), hT.y hy (by decide) (by decide)⟩
theorem Rel.rk (h : Rel σ τ) (hx : zy σ σ' [] [38, 39, 40, 41]) (hy : zy τ τ' [25, 26, 27, 28, 29, 30] [37, 38, 39, 40, 41, 42]) (hK : RK σ' τ') : Rel σ' τ' := by
  obtain ⟨⟨r, c, k, h0⟩, hL, hS, _, hF, hI, hT⟩ := h
  exact ⟨⟨r, c, k, h0.x hx hy (by decide) (by decide)⟩, hL.x hx hy (by decide), hS.x hx hy (by decide), hK, hF.x hx hy (by decide), hI.x hx hy (by decide) (by decide), hT.y hy (by decide) (by decide)⟩
theorem Rel.ri (h : Rel σ τ) (hx : zy σ σ' [42, 43] [44, 45, 46, 47]) (hy : zy τ τ' [0, 3, 5, 7, 9, 11] [15, 17]) (hI : RI σ' τ') : Rel σ' τ' := by
  obtain ⟨⟨r, c, k, h0⟩, hL, hS, hK, hF, _, hT⟩ := h
  exact ⟨⟨r, c, k, h0.x hx hy (by decide) (by decide)⟩, hL.x hx hy (by decide), hS.x hx hy (by decide), hK.x hx hy (by decide), hF.x hx hy (by decide), hI, hT.y hy (by decide) (by decide)⟩
theorem Rel.r0 {r c k : Nat} {ks js ks' js' : List Nat} (h : Rel σ τ) (hx : zy σ σ' ks js) (hy : zy τ τ' ks' js') (h2 : okE ks js ks' js') (h0 : R0 r c k σ' τ') : Rel σ' τ' := ⟨⟨r, c, k, h0⟩, h.2.x hx hy h2⟩
theorem Rel.ct (h : Rel σ τ) : CT τ := h.2.2.2.2.2.2
end REL2
