/-! calls: look, tells, lays -/
def RQl (τ' : zz_St) (a : Int64) (b : Int64) (σ' : zz_St) : Prop := a = b ∧ Rel σ' τ'
theorem e8_no0 {σ : zz_St} {Q : Int32 → zz_St → Prop} {v : Int32} (hv : v < -6) (h : Q v σ) : zq8_no v σ Q := by
  unfold zq8_no
  exact zYt hv h
/-- the first of n that is bad -/
def zfst (bad : Nat → Prop) (n : Nat) (r : Int32) : Prop := (∃ k, k < n ∧ bad k ∧ (∀ j, j < k → ¬ bad j) ∧ r = nI k) ∨ ((∀ j, j < n → ¬ bad j) ∧ r = -9)
theorem zfst_uni {bad : Nat → Prop} {n : Nat} {r r' : Int32} (h : zfst bad n r) (h' : zfst bad n r') : r = r' := by
  rcases h with ⟨k, a1, a2, a3, a4⟩ | ⟨a1, a2⟩ <;> rcases h' with ⟨k', b1, b2, b3, b4⟩ | ⟨b1, b2⟩
  · have : k = k' := by
      rcases Nat.lt_trichotomy k k' with q | q | q
      · exact absurd a2 (b3 k q)
      · exact q
      · exact absurd b2 (a3 k' q)
    rw [a4, b4, this]
  · exact absurd a2 (b1 k a1)
  · exact absurd b2 (a1 k' b1)
  · rw [a2, b2]
section CB
variable {σ τ : zz_St}
theorem R_look (h : Rel σ τ) (v w : Int32) : zq7_look v w τ (fun a τ' => zq8_look v w σ (fun b σ' => RQl τ' a b σ')) := by
  obtain ⟨_, _, hS, _⟩ := id h
  unfold zq7_look zq8_look zq3_lackAt zq7_refuseLong zq8_longNo
  refine e7_isList (fun q => zNf n10 ⟨q, ?_⟩) (fun q => zNt n00 ?_)
  · obtain ⟨l, hl, rfl, cl⟩ := z3 q
    rw [cl]
    obtain ⟨⟨a1, a2⟩ | ⟨n, hn, a1, a2⟩, hit⟩ := hS l hl
    · rw [a2, a1]
      exact e7_lackM (zYf (by decide) (e8_isList (fun _ => zNf n10 ⟨q, zYf (by decide) (e8_no0 (by decide) ⟨rfl, h⟩)⟩) (fun z => absurd q z)))
    · rw [a2, a1]
      have p0 : 0 ≤ nI n := nI_pos' (by omega)
      refine e7_lackN (by omega) (fun q2 => zYt (by decide) ⟨q, ?_⟩) (fun q2 => zYf (by decide) (e8_isList (fun _ => zNf n10 ⟨q, zYt p0 ⟨q, e8_inN (by omega) (fun z => absurd z q2) (fun _ => zYt n00 (e8_no0 (by decide) ⟨rfl, h⟩))⟩⟩) (fun z => absurd q z)))
      obtain ⟨i, hi, rfl⟩ := vp_in_of q2 (by omega)
      have ci : (nI i).toNatClampNeg = i := nI_clamp (by omega)
      have e40 : (40 : Int32) * nI l + nI i = nI (40 * l + i) := zn_ma 40 l i
      have c40 : (nI (40 * l + i)).toNatClampNeg = 40 * l + i := nI_clamp (by omega)
      rw [ci, e40, c40]
      refine ⟨vp_in_nI (by omega) (by decide), e8_isList (fun _ => zNf n10 ⟨q, zYt p0 ⟨q, e8_inN (by omega) (fun _ => zYf n10 ⟨vp_in_nI (by omega) (by decide), ?_, h⟩) (fun z => absurd q2 z)⟩⟩) (fun z => absurd q z)⟩
      rw [hit i (by omega)]
  · exact e7_refuse 1 (by decide) (by decide) (e8_isList (fun z => absurd z q) (fun _ => zNt n00 (e8_no 1 (by decide) (by decide) (by decide) ⟨rfl, h.no (by decide)⟩)))
theorem e7_tells_32 {Q : Int32 → zz_St → Prop} {r c k l n : Nat} {bad : Nat → Prop} (hC : CD τ r c k) (hd : zs_dim r c k) (hn : n ≤ 40) (h22 : τ.1 (22 + l) = nI n) (hb : ∀ j, j < n → (bad j ↔ ¬ (j < r * c ∧ τ.2.1 (34 + l) j = τ.2.1 16 j))) (h : ∀ v, zfst bad n v → Q v τ) : zq7_tells_32 l 0 τ Q := by
  have hrc := zs_rc hd.2.1 hd.2.2.2.1
  unfold zq7_tells_32
  refine ⟨fun v => ∃ i, i ≤ n ∧ v = nI i ∧ ∀ j, j < i → ¬ bad j, fun v => n - v.toNatClampNeg, ⟨0, Nat.zero_le _, rfl, fun j hj => absurd hj (Nat.not_lt_zero j)⟩, ?_⟩
  rintro v ⟨i, hi, rfl, hj⟩
  rw [h22]
  have ci : (nI i).toNatClampNeg = i := nI_clamp (by omega)
  refine pk_le n i (fun q => h _ (Or.inr ⟨fun j hjn => hj j (by omega), rfl⟩)) (fun q => e6_hasTile hC hd (fun q2 => zYf n10 ?_) (fun q2 => zYt n00 ?_))
  · have hir : i < r * c := (zn_in_nI (by omega) (by omega)).mp q2
    rw [ci]
    refine ⟨vp_in_nI (by omega) (by decide), vp_in_nI (by omega) (by decide), fun z => ?_, fun z => ?_⟩
    · have := zl_leaf0 (J := fun i => ∀ j, j < i → ¬ bad j) q (by omega) (fun j hji => ?_)
      · exact this
      · rcases Nat.lt_succ_iff_lt_or_eq.mp hji with y | y
        · exact hj j y
        · rw [y]; exact fun w => (hb i q).mp w ⟨hir, z⟩
    · exact h _ (Or.inl ⟨i, q, (hb i q).mpr (fun w => z w.2), hj, rfl⟩)
  · exact h _ (Or.inl ⟨i, q, (hb i q).mpr (fun w => q2 (vp_in_nI w.1 (by omega))), hj, rfl⟩)
theorem e8_tells_27 {Q : Int32 → zz_St → Prop} {r c k l n : Nat} {tl pr : Nat → Int32} {bad : Nat → Prop} (hB : MB σ r c k tl pr) (hd : zs_dim r c k) (hl : l < 3) (hn : n ≤ 40) (h36 : σ.2.1 36 l = nI n) (hb : ∀ j, j < n → (bad j ↔ ¬ (j < r * c ∧ σ.2.1 37 (40 * l + j) = pr j))) (h : ∀ v, zfst bad n v → Q v σ) : zq8_tells_27 (nI l) 0 σ Q := by
  have hrc := zs_rc hd.2.1 hd.2.2.2.1
  unfold zq8_tells_27
  refine ⟨fun v => ∃ i, i ≤ n ∧ v = nI i ∧ ∀ j, j < i → ¬ bad j, fun v => n - v.toNatClampNeg, ⟨0, Nat.zero_le _, rfl, fun j hj => absurd hj (Nat.not_lt_zero j)⟩, ?_⟩
  rintro v ⟨i, hi, rfl, hj⟩
  have cl : (nI l).toNatClampNeg = l := nI_clamp (by omega)
  have ci : (nI i).toNatClampNeg = i := nI_clamp (by omega)
  rw [cl, h36]
  refine ⟨vp_in_nI hl (by decide), pk_le n i (fun q => h _ (Or.inr ⟨fun j hjn => hj j (by omega), rfl⟩)) (fun q => e8_isTile hB hd (fun q2 => zYf n10 ?_) (fun q2 => zYt n00 ?_))⟩
  · have hir : i < r * c := (zn_in_nI (by omega) (by omega)).mp q2
    have e40 : (40 : Int32) * nI l + nI i = nI (40 * l + i) := zn_ma 40 l i
    have c40 : (nI (40 * l + i)).toNatClampNeg = 40 * l + i := nI_clamp (by omega)
    rw [ci, e40, c40, hB.2.2.2.2]
    refine ⟨vp_in_nI (by omega) (by decide), vp_in_nI (by omega) (by decide), fun z => ?_, fun z => ?_⟩
    · have := zl_leaf0 (J := fun i => ∀ j, j < i → ¬ bad j) q (by omega) (fun j hji => ?_)
      · exact this
      · rcases Nat.lt_succ_iff_lt_or_eq.mp hji with y | y
        · exact hj j y
        · rw [y]; exact fun w => (hb i q).mp w ⟨hir, z⟩
    · exact h _ (Or.inl ⟨i, q, (hb i q).mpr (fun w => z w.2), hj, rfl⟩)
  · exact h _ (Or.inl ⟨i, q, (hb i q).mpr (fun w => q2 (vp_in_nI w.1 (by omega))), hj, rfl⟩)
theorem R_tells (h : Rel σ τ) (v : Int32) : zq7_tells v τ (fun a τ' => zq8_tells v σ (fun b σ' => RQ τ' a b σ')) := by
  obtain ⟨⟨r, c, k, h0⟩, _, hS, _⟩ := id h
  have hd := h0.dim
  have hrc := zs_rc hd.2.1 hd.2.2.2.1
  unfold zq7_tells zq8_tells zq3_isMissing
  refine e7_isList (fun q => zNf n10 ⟨q, ?_⟩) (fun q => zNt n00 ?_)
  · obtain ⟨l, hl, rfl, cl⟩ := z3 q
    rw [cl]
    obtain ⟨⟨a1, a2⟩ | ⟨n, hn, a1, a2⟩, hit⟩ := hS l hl
    · rw [a2, a1]
      exact zYf (by decide) (zYf n10 (e8_isList (fun _ => zNf n10 ⟨q, zYf (by decide) ⟨rfl, h⟩⟩) (fun z => absurd q z)))
    · have p0 : 0 ≤ nI n := nI_pos' (by omega)
      rw [show (0 ≤ τ.1 (22 + l)) ↔ True from ⟨fun _ => trivial, fun _ => by rw [a2]; exact p0⟩, a1]
      refine ⟨fun _ => zYt n00 ?_, fun z => absurd trivial z⟩
      refine e7_tells_32 (bad := fun j => ¬ (j < r * c ∧ σ.2.1 37 (40 * l + j) = σ.2.1 5 j)) h0.2.1 hd hn a2 (fun j hj => ?_) (fun a ha => ?_)
      · constructor
        · intro z y
          refine z ⟨y.1, ?_⟩
          rw [hit j (by omega), y.2, (h0.2.2.1.2.2.1 j (by omega)).1]
        · intro z y
          refine z ⟨y.1, ?_⟩
          rw [← hit j (by omega), y.2, (h0.2.2.1.2.2.1 j (by omega)).1]
      · refine e8_isList (fun _ => zNf n10 ⟨q, zYt p0 ?_⟩) (fun z => absurd q z)
        exact e8_tells_27 h0.mb hd hl hn a1 (fun j _ => Iff.rfl) (fun b hb => ⟨zfst_uni ha hb, h⟩)
  · exact e7_refuse 1 (by decide) (by decide) (e8_isList (fun z => absurd z q) (fun _ => zNt n00 (RQ.no8 h 1 (by decide) (by decide) (by decide))))
theorem e7_lays_23 {Q : Int32 → zz_St → Prop} {r c k l n a : Nat} (hC : CD τ r c k) (hd : zs_dim r c k) (hl : l < 3) (hn : n ≤ 40) (h22 : τ.1 (22 + l) = nI n) (ha : a < 2 ^ 31)
    (h : ∀ τ2, zx τ τ2 [] [34 + l] → (∀ j, τ2.2.1 (34 + l) j = if a ≤ j ∧ j < a + min (r * c) (n - a) then τ.2.1 16 (j - a) else τ.2.1 (34 + l) j) → Q (if r * c ≤ n - a then nI (r * c) else -13) τ2) : zq7_lays_23 (nI a) l 0 τ Q := by
  have hrc := zs_rc hd.2.1 hd.2.2.2.1
  unfold zq7_lays_23
  refine ⟨fun v τ2 => ∃ t, t ≤ r * c ∧ v = nI t ∧ (t ≤ min (r * c) (n - a) ∧ zx τ τ2 [] [34 + l] ∧ ∀ j, τ2.2.1 (34 + l) j = if a ≤ j ∧ j < a + t then τ.2.1 16 (j - a) else τ.2.1 (34 + l) j), fun v _ => r * c - v.toNatClampNeg, ⟨0, Nat.zero_le _, rfl, Nat.zero_le _, zx.rf, fun j => by rw [if_neg (by omega)]⟩, ?_⟩
  rintro v τ2 ⟨t, ht, rfl, hT, hx, hv⟩
  have hC2 : CD τ2 r c k := hC.x hx.y (by decide)
  have h222 : τ2.1 (22 + l) = nI n := (hx.1 _ List.not_mem_nil).trans h22
  refine e6_tileCount hC2 (pk_le (r * c) t (fun q => ?_) (fun q => ?_))
  · refine e6_tileCount hC2 ?_
    have := h τ2 hx (fun j => by rw [hv j, show min (r * c) (n - a) = t from by omega])
    rw [if_pos (by omega)] at this
    exact this
  · unfold zq7_lays_51 zq3_lackAt
    rw [h222]
    have stop : n ≤ a + t → Q (-13) τ2 := fun z => by
      have := h τ2 hx (fun j => by rw [hv j, show min (r * c) (n - a) = t from by omega])
      rw [if_neg (by omega)] at this
      exact this
    have ct : (nI t).toNatClampNeg = t := nI_clamp (by omega)
    refine ⟨fun q40 => ?_, fun q40 => ?_⟩
    · have ha40 : a ≤ 40 := (nI_leI (b := 40) ha (by decide)).mp q40
      rw [nI_add]
      refine e7_lackN (by omega) (fun q2 => zYt (by decide) ?_) (fun q2 => zYf (by decide) (stop ?_))
      · have hat : a + t < n := (zn_in_nI (by omega) (by omega)).mp q2
        have cat : (nI (a + t)).toNatClampNeg = a + t := nI_clamp (by omega)
        rw [ct, cat]
        refine ⟨vp_in_nI (by omega) (by decide), vp_in_nI (by omega) (by decide), fun g hg => ?_⟩
        have := zl_leaf (J := fun t τ2 => t ≤ min (r * c) (n - a) ∧ zx τ τ2 [] [34 + l] ∧ ∀ j, τ2.2.1 (34 + l) j = if a ≤ j ∧ j < a + t then τ.2.1 16 (j - a) else τ.2.1 (34 + l) j) (g := g) q (by omega) ⟨by omega, ?_, fun j => ?_⟩
        · exact this
        · rw [hg]; exact hx.tr (zx.A (34 + l) _ List.mem_cons_self)
        · rw [hg, zz_A2, if_pos rfl]
          by_cases z : j = a + t
          · rw [z, pk_us, if_pos (by omega), Nat.add_sub_cancel_left, hx.2.1 16 (by simp only [List.mem_singleton]; omega)]
          · rw [pk_un z, hv j]
            by_cases z2 : a ≤ j ∧ j < a + t
            · rw [if_pos z2, if_pos (by omega)]
            · rw [if_neg z2, if_neg (by omega)]
      · rcases Nat.lt_or_ge (a + t) n with y | y
        · exact absurd (vp_in_nI y (by omega)) q2
        · exact y
    · have ha40 : 40 < a := by
        rcases Nat.lt_or_ge 40 a with y | y
        · exact y
        · exact absurd (nI_le y (by decide)) q40
      exact e7_lackN (by omega) (fun q2 => absurd ((zn_in_nI (a := 40) (by decide) (by omega)).mp q2) (by omega)) (fun _ => zYf (by decide) (stop (by omega)))
theorem e8_lays_34 {Q : Int32 → zz_St → Prop} {r c k l n a : Nat} {tl pr : Nat → Int32} (hB : MB σ r c k tl pr) (hd : zs_dim r c k) (hl : l < 3) (hn : n ≤ 40) (h36 : σ.2.1 36 l = nI n) (ha : a < 2 ^ 31)
    (h : ∀ σ2, zx σ σ2 [] [37] → (∀ j, σ2.2.1 37 j = if 40 * l + a ≤ j ∧ j < 40 * l + a + min (r * c) (n - a) then pr (j - (40 * l + a)) else σ.2.1 37 j) → Q (if r * c ≤ n - a then nI (r * c) else -13) σ2) : zq8_lays_34 (nI l) (nI a) 0 σ Q := by
  have hrc := zs_rc hd.2.1 hd.2.2.2.1
  unfold zq8_lays_34
  refine ⟨fun v σ2 => ∃ t, t ≤ r * c ∧ v = nI t ∧ (t ≤ min (r * c) (n - a) ∧ zx σ σ2 [] [37] ∧ ∀ j, σ2.2.1 37 j = if 40 * l + a ≤ j ∧ j < 40 * l + a + t then pr (j - (40 * l + a)) else σ.2.1 37 j), fun v _ => r * c - v.toNatClampNeg, ⟨0, Nat.zero_le _, rfl, Nat.zero_le _, zx.rf, fun j => by rw [if_neg (by omega)]⟩, ?_⟩
  rintro v σ2 ⟨t, ht, rfl, hT, hx, hv⟩
  have hB2 := hB.x hx (by decide)
  have cl : (nI l).toNatClampNeg = l := nI_clamp (by omega)
  have ct : (nI t).toNatClampNeg = t := nI_clamp (by omega)
  refine e8_tileMany hB2 (pk_le (r * c) t (fun q => ?_) (fun q => ⟨vp_in_nI hl (by decide), ?_⟩))
  · refine e8_tileMany hB2 ?_
    have := h σ2 hx (fun j => by rw [hv j, show min (r * c) (n - a) = t from by omega])
    rw [if_pos (by omega)] at this
    exact this
  · have stop : n ≤ a + t → Q (-13) σ2 := fun z => by
      have := h σ2 hx (fun j => by rw [hv j, show min (r * c) (n - a) = t from by omega])
      rw [if_neg (by omega)] at this
      exact this
    rw [cl, hx.2.1 36 (by decide), h36, pk_sub (by omega), ct]
    refine pk_lt a (n - t) (fun q2 => ?_) (fun q2 => stop (by omega))
    have e40 : (40 : Int32) * nI l + nI a + nI t = nI (40 * l + a + t) := by
      rw [show (40 : Int32) * nI l + nI a = nI (40 * l + a) from zn_ma 40 l a, nI_add]
    have c40 : (nI (40 * l + a + t)).toNatClampNeg = 40 * l + a + t := nI_clamp (by omega)
    rw [e40, c40, hB2.2.2.2.2]
    refine ⟨vp_in_nI (by omega) (by decide), vp_in_nI (by omega) (by decide), fun g hg => ?_⟩
    have := zl_leaf (J := fun t σ2 => t ≤ min (r * c) (n - a) ∧ zx σ σ2 [] [37] ∧ ∀ j, σ2.2.1 37 j = if 40 * l + a ≤ j ∧ j < 40 * l + a + t then pr (j - (40 * l + a)) else σ.2.1 37 j) (g := g) q (by omega) ⟨by omega, ?_, fun j => ?_⟩
    · exact this
    · rw [hg]; exact hx.tr (zx.A 37 _ (by decide))
    · rw [hg, zz_A2, if_pos rfl]
      by_cases z : j = 40 * l + a + t
      · rw [z, pk_us, if_pos (by omega), Nat.add_sub_cancel_left]
      · rw [pk_un z, hv j]
        by_cases z2 : 40 * l + a ≤ j ∧ j < 40 * l + a + t
        · rw [if_pos z2, if_pos (by omega)]
        · rw [if_neg z2, if_neg (by omega)]
theorem R_lays (h : Rel σ τ) (v w : Int32) : zq7_lays v w τ (fun a τ' => zq8_lays v w σ (fun b σ' => RQ τ' a b σ')) := by
  obtain ⟨⟨r, c, k, h0⟩, _, hS, _⟩ := id h
  have hd := h0.dim
  have hrc := zs_rc hd.2.1 hd.2.2.2.1
  have hpos : 0 < r * c := Nat.mul_pos hd.1 hd.2.2.1
  unfold zq7_lays zq8_lays
  refine e7_isList (fun q => zNf n10 ⟨q, ?_⟩) (fun q => zNt n00 ?_)
  · obtain ⟨l, hl, rfl, cl⟩ := z3 q
    rw [cl]
    obtain ⟨⟨a1, a2⟩ | ⟨n, hn, a1, a2⟩, hit⟩ := hS l hl
    · unfold zq7_lays_23
      refine ⟨fun v τ2 => v = 0 ∧ τ2 = τ, fun _ _ => 0, ⟨rfl, rfl⟩, ?_⟩
      rintro v τ2 ⟨rfl, rfl⟩
      refine e6_tileCount h0.2.1 ⟨fun z => absurd z (nI_nle hpos (by omega)), fun _ => ?_⟩
      unfold zq7_lays_51 zq3_lackAt
      rw [a2]
      have M : zq8_isList (nI l) (fun r17 => ((¬ r17 = 0) → vp_in (nI l) 3 ∧ ((0 ≤ σ.2.1 36 l) → ((0 ≤ w) → zq8_lays_34 (nI l) w 0 σ (fun b σ' => RQ τ2 (-11) b σ')) ∧ (¬ (0 ≤ w) → RQ τ2 (-11) (-13) σ)) ∧ (¬ (0 ≤ σ.2.1 36 l) → RQ τ2 (-11) (-11) σ)) ∧ (r17 = 0 → zq8_no (-1) σ (fun r21 g22 => RQ τ2 (-11) r21 g22))) := by
        rw [a1]
        exact e8_isList (fun _ => zNf n10 ⟨q, zYf (by decide) ⟨rfl, h⟩⟩) (fun z => absurd q z)
      exact ⟨fun _ => e7_lackM (zYf (by decide) M), fun _ => e7_lackM (zYf (by decide) M)⟩
    · have p0 : 0 ≤ nI n := nI_pos' (by omega)
      by_cases w0 : w < 0
      · unfold zq7_lays_23
        refine ⟨fun v τ2 => v = 0 ∧ τ2 = τ, fun _ _ => 0, ⟨rfl, rfl⟩, ?_⟩
        rintro v τ2 ⟨rfl, rfl⟩
        refine e6_tileCount h0.2.1 ⟨fun z => absurd z (nI_nle hpos (by omega)), fun _ => ?_⟩
        unfold zq7_lays_51 zq3_lackAt
        rw [a2, Int32.add_zero, a1]
        refine ⟨fun _ => e7_lackN (by omega) (fun z => absurd (Or.inl w0) z) (fun _ => zYf (by decide) ?_), fun z => absurd ?_ z⟩
        · exact e8_isList (fun _ => zNf n10 ⟨q, zYt p0 (zYf (Int32.not_le.mpr w0) ⟨rfl, h⟩)⟩) (fun z => absurd q z)
        · exact Int32.le_of_lt (Int32.lt_of_lt_of_le w0 (by decide : (0 : Int32) ≤ 40))
      · obtain ⟨a, ha, rfl⟩ := nI_of w0
        refine e7_lays_23 h0.2.1 hd hl hn a2 ha (fun τ2 y2 ev => ?_)
        rw [a1]
        refine e8_isList (fun _ => zNf n10 ⟨q, zYt p0 (zYt (nI_pos' ha) (e8_lays_34 h0.mb hd hl hn a1 ha (fun σ2 x2 ew => ⟨rfl, ?_⟩)))⟩) (fun z => absurd q z)
        have m2 : ∀ k ∈ [34 + l], k ∈ [34, 35, 36] := by
          intro k hk
          rw [List.mem_singleton.mp hk]
          rcases (by omega : l = 0 ∨ l = 1 ∨ l = 2) with rfl | rfl | rfl <;> decide
        refine h.rs (x2.y.mono (by decide) (by decide)) (y2.y.mono (by decide) m2) (fun l' hl' => ?_)
        obtain ⟨b1, b2⟩ := hS l' hl'
        rw [x2.2.1 36 (by decide), y2.1 _ List.not_mem_nil]
        refine ⟨b1, fun i hi => ?_⟩
        rw [ew]
        by_cases z : l' = l
        · subst z
          rw [ev]
          by_cases z2 : a ≤ i ∧ i < a + min (r * c) (n - a)
          · rw [if_pos z2, if_pos (by omega), show 40 * l' + i - (40 * l' + a) = i - a from by omega]
            exact (h0.2.2.1.2.2.1 _ (by omega)).1
          · rw [if_neg z2, if_neg (by omega)]
            exact b2 i hi
        · have hm : min (r * c) (n - a) ≤ n - a := Nat.min_le_right _ _
          rw [y2.2.1 (34 + l') (by simp only [List.mem_singleton]; omega), if_neg]
          · exact b2 i hi
          · intro w
            omega
  · exact e7_refuse 1 (by decide) (by decide) (e8_isList (fun z => absurd z q) (fun _ => zNt n00 (RQ.no8 h 1 (by decide) (by decide) (by decide))))
end CB
