/-! call: walks -/
/-- the class has walked i ways: T the states, X where the solid was -/
def WC (r c k : Nat) (L : Nat → Int32) (τ : zz_St) (x : Nat) (T : Nat → zz_St) (X : Nat → Nat) (i : Nat) : Prop := T 0 = τ ∧ X 0 = x ∧ ∀ j, j < i → ∃ w, zs_way (L j) = some w ∧ zs_st r c k ((T j).2.1 14) ((T j).2.1 16) (X j) w = some (X (j + 1)) ∧ CS r c k (X j) (X (j + 1)) (T j) (T (j + 1))
/-- the next letter is no way, or its roll can't be done -/
def WB (r c k : Nat) (L : Nat → Int32) (t : zz_St) (x i : Nat) : Prop := zs_way (L i) = none ∨ ∃ w, zs_way (L i) = some w ∧ zs_st r c k (t.2.1 14) (t.2.1 16) x w = none
/-- what the class needs of a state to roll on -/
def WO (r c k : Nat) (τ t : zz_St) (x : Nat) : Prop := zx τ t [8, 14, 15] [16, 26, 27] ∧ zs_V r c k x ∧ t.1 8 = nI x ∧ ∃ d nx, d ≤ 20 ∧ nx < 20 ∧ t.1 14 = nI nx ∧ t.1 15 = nI d
theorem WO.next {r c k x y : Nat} {τ t t' : zz_St} (h : WO r c k τ t x) (hV : zs_V r c k y) (hC : CS r c k x y t t') : WO r c k τ t' y := by
  obtain ⟨d, nx, a1, a2, a3, a4, cx, c8, c14, c15, _⟩ := hC
  exact ⟨h.1.tr cx, hV, c8, min (d + 1) 20, (nx + 1) % 20, by omega, Nat.mod_lt _ (by decide), c14, c15⟩
def zext {α : Type} (T : Nat → α) (i : Nat) (t : α) (j : Nat) : α := if j ≤ i then T j else t
theorem zext_le {α : Type} {T : Nat → α} {i j : Nat} {t : α} (h : j ≤ i) : zext T i t j = T j := if_pos h
theorem zext_s {α : Type} {T : Nat → α} {i : Nat} {t : α} : zext T i t (i + 1) = t := if_neg (by omega)
theorem WC.ext {r c k x i : Nat} {L : Nat → Int32} {τ t : zz_St} {T : Nat → zz_St} {X : Nat → Nat} {y w : Nat} (h : WC r c k L τ x T X i) (hw : zs_way (L i) = some w) (hst : zs_st r c k ((T i).2.1 14) ((T i).2.1 16) (X i) w = some y) (hC : CS r c k (X i) y (T i) t) : WC r c k L τ x (zext T i t) (zext X i y) (i + 1) := by
  refine ⟨by rw [zext_le (Nat.zero_le _)]; exact h.1, by rw [zext_le (Nat.zero_le _)]; exact h.2.1, fun j hj => ?_⟩
  rw [zext_le (by omega : j ≤ i), zext_le (by omega : j ≤ i)]
  rcases Nat.lt_succ_iff_lt_or_eq.mp hj with q | q
  · rw [zext_le (by omega : j + 1 ≤ i), zext_le (by omega : j + 1 ≤ i)]
    exact h.2.2 j q
  · subst q
    rw [zext_s, zext_s]
    exact ⟨w, hw, hst, hC⟩
section CK
variable {σ τ : zz_St} {r c k : Nat}
theorem e7_walks_23 {Q : Int32 → zz_St → Prop} {n x : Nat} (hC : CD τ r c k) (hT : CT τ) (hd : zs_dim r c k) (hn : n ≤ 72) (h12 : τ.1 12 = nI n) (hO : WO r c k τ τ x)
    (h : ∀ i T X τ', i ≤ n → WC r c k (τ.2.1 18) τ x T X i → WO r c k τ (T i) (X i) → (i < n → WB r c k (τ.2.1 18) (T i) (X i) i) → τ' = zz_I (T i) 12 0 → Q (nI i) τ') : zq7_walks_23 0 1 0 τ Q := by
  unfold zq7_walks_23
  refine ⟨fun v1 v2 v3 τ2 => ∃ i T X, i ≤ n ∧ v1 = nI i ∧ τ2 = T i ∧ WC r c k (τ.2.1 18) τ x T X i ∧ WO r c k τ (T i) (X i) ∧ ((v2 = 1 ∧ v3 = nI i) ∨ (v2 = 0 ∧ i < n ∧ v3 = nI (i + 1) ∧ WB r c k (τ.2.1 18) (T i) (X i) i)), fun _ _ v3 _ => n - v3.toNatClampNeg, ⟨0, fun _ => τ, fun _ => x, Nat.zero_le _, rfl, rfl, ⟨rfl, rfl, fun j hj => absurd hj (Nat.not_lt_zero j)⟩, hO, Or.inl ⟨rfl, rfl⟩⟩, ?_⟩
  rintro v1 v2 v3 τ2 ⟨i, T, X, hi, rfl, rfl, hWC, hWO, hph⟩
  have e12 : (T i).1 12 = nI n := (hWO.1.1 12 (by decide)).trans h12
  have stop : (i < n → WB r c k (τ.2.1 18) (T i) (X i) i) → zq7_walks_81 (nI i) (T i) Q := by
    intro hb
    unfold zq7_walks_81 zq1_clear
    exact fun g hg => h i T X g hi hWC hWO hb hg
  rw [e12]
  rcases hph with ⟨rfl, rfl⟩ | ⟨rfl, hin, rfl, hb⟩
  · refine pk_le n i (fun q => stop (fun z => absurd z (by omega))) (fun q => zYf n10 ?_)
    have eL : (T i).2.1 18 = τ.2.1 18 := hWO.1.2.1 18 (by decide)
    have c1 : (nI (i + 1)).toNatClampNeg = i + 1 := nI_clamp (by omega)
    have c0 : (nI i).toNatClampNeg = i := nI_clamp (by omega)
    have bad : WB r c k (τ.2.1 18) (T i) (X i) i → zq7_walks_66 (nI i) (nI i) (T i) Q (fun v1' v2' v3' σ' => (∃ i T X, i ≤ n ∧ v1' = nI i ∧ σ' = T i ∧ WC r c k (τ.2.1 18) τ x T X i ∧ WO r c k τ (T i) (X i) ∧ ((v2' = 1 ∧ v3' = nI i) ∨ (v2' = 0 ∧ i < n ∧ v3' = nI (i + 1) ∧ WB r c k (τ.2.1 18) (T i) (X i) i))) ∧ n - v3'.toNatClampNeg < n - (nI i).toNatClampNeg) := by
      intro hb
      unfold zq7_walks_66 zq7_walks_67 zq7_walks_75
      refine zYt n00 ⟨⟨i, T, X, hi, rfl, rfl, hWC, hWO, Or.inr ⟨rfl, q, nI_1 i, hb⟩⟩, ?_⟩
      rw [nI_1, c1, c0]
      omega
    refine e1_wayAt (by omega) (fun w hw => zYf (nI_pos (by have := zs_way_lt hw; omega)) ?_) (fun hw => zYt (by decide) (bad (Or.inl (by rw [← eL]; exact hw))))
    rw [eL] at hw
    have hw4 := zs_way_lt hw
    obtain ⟨hx, hV, h8, d, nx, hd20, hnx, h14, h15⟩ := id hWO
    have hB : CB (T i) r c k ((T i).2.1 14) ((T i).2.1 16) := ⟨(hx.1 2 (by decide)).trans hC.1, (hx.1 4 (by decide)).trans hC.2.1, (hx.1 6 (by decide)).trans hC.2.2, rfl, rfl⟩
    refine e7_rollTruly hB (hT.x hx (by decide) (by decide)) hd hV h8 hw4 hd20 hnx h14 h15 (fun y τ' hst hCS => zYf n10 ?_) (fun hst => zYt n00 (bad (Or.inr ⟨w, hw, hst⟩)))
    unfold zq7_walks_67 zq7_walks_75
    refine zYf n10 ⟨⟨i + 1, zext T i τ', zext X i y, q, nI_1 i, zext_s.symm, hWC.ext hw hst hCS, ?_, Or.inl ⟨rfl, nI_1 i⟩⟩, ?_⟩
    · rw [zext_s, zext_s]
      exact hWO.next (zs_st_V hV hw4 hst) hCS
    · show n - (nI i + 1).toNatClampNeg < n - (nI i).toNatClampNeg
      rw [nI_1, c1, c0]
      omega
  · exact ⟨fun _ => stop (fun _ => hb), fun _ => zYt n00 (stop (fun _ => hb))⟩
theorem e8_walks_16 {Q : Int32 → zz_St → Prop} {n x i : Nat} {T : Nat → zz_St} {X : Nat → Nat} (h0 : R0 r c k σ τ) (hE : RE σ τ) (hth : σ.1 9 = 1) (hV : zs_V r c k x) (hF : MF σ (zs_te k) (x / 24) (x % 24)) (h8 : τ.1 8 = nI x) (hn : n ≤ 72) (h12 : τ.1 12 = nI n) (hi : i ≤ n) (hWC : WC r c k (τ.2.1 18) τ x T X i) (hb : i < n → WB r c k (τ.2.1 18) (T i) (X i) i)
    (h : ∀ σ' g, R0 r c k σ' (T i) → RE σ' (T i) → g = zz_I σ' 15 0 → Q (nI i) g) : zq8_walks_16 0 σ Q := by
  have hd := h0.dim
  unfold zq8_walks_16
  refine ⟨fun v σ2 => ∃ j, j ≤ i ∧ v = nI j ∧ (R0 r c k σ2 (T j) ∧ RE σ2 (T j) ∧ σ2.1 9 = 1 ∧ zs_V r c k (X j) ∧ MF σ2 (zs_te k) (X j / 24) (X j % 24) ∧ (T j).1 8 = nI (X j) ∧ zx τ (T j) [8, 14, 15] [16, 26, 27]), fun v _ => i - v.toNatClampNeg, ⟨0, Nat.zero_le _, rfl, ?_⟩, ?_⟩
  · rw [hWC.1, hWC.2.1]
    exact ⟨h0, hE, hth, hV, hF, h8, zx.rf⟩
  rintro v σ2 ⟨j, hj, rfl, r0, rE, th, hVj, hFj, h8j, hxj⟩
  obtain ⟨n', hn', l15, l12, hl⟩ := rE.1
  have en : n' = n := (nI_eq (by omega) (by omega)).mp (l12.symm.trans ((hxj.1 12 (by decide)).trans h12))
  subst en
  have cj : (nI j).toNatClampNeg = j := nI_clamp (by omega)
  have fin : j = i → ∀ σ3, R0 r c k σ3 (T j) → RE σ3 (T j) → ∀ g, g = zz_I σ3 15 0 → Q (nI j) g := fun e σ3 a b g hg => by
    subst e
    exact h σ3 g a b hg
  rw [l15]
  refine pk_le n' j (fun q g hg => fin (by omega) σ2 r0 rE g hg) (fun q => ⟨vp_in_nI (by omega) (by decide), ?_⟩)
  have eL : σ2.2.1 14 j = τ.2.1 18 j := by rw [hl j q, hxj.2.1 18 (by decide)]
  rw [cj, eL]
  rcases Nat.lt_or_ge j i with hji | hji
  · obtain ⟨w, hw, hst, hCS⟩ := hWC.2.2 j hji
    have hw4 := zs_way_lt hw
    refine e8_wayOf (fun w1 hw1 => zYf (nI_pos (by have := zs_way_lt hw1; omega)) ⟨vp_in_nI (by omega) (by decide), ?_⟩) (fun hw1 => by rw [hw] at hw1; cases hw1)
    refine e8_wayOf (fun w2 hw2 => ?_) (fun hw2 => by rw [hw] at hw2; cases hw2)
    rw [hw] at hw2
    cases hw2
    refine e8_rollsTruly r0 rE th hVj hFj h8j hw4 (fun y σ3 hst3 hVy hFy th3 hrel => zYf n10 ?_) (fun hst3 => by rw [hst] at hst3; cases hst3)
    rw [hst] at hst3
    cases hst3
    obtain ⟨s0, sE⟩ := hrel (T (j + 1)) hCS
    obtain ⟨_, _, _, _, _, _, cx, c8, _⟩ := hCS
    exact zl_leaf (J := fun j σ2 => R0 r c k σ2 (T j) ∧ RE σ2 (T j) ∧ σ2.1 9 = 1 ∧ zs_V r c k (X j) ∧ MF σ2 (zs_te k) (X j / 24) (X j % 24) ∧ (T j).1 8 = nI (X j) ∧ zx τ (T j) [8, 14, 15] [16, 26, 27]) hji (by omega) ⟨s0, sE, th3, hVy, hFy, c8, hxj.tr cx⟩
  · have hji : j = i := by omega
    have hb' := hb (by omega)
    rw [← hji] at hb'
    rcases hb' with hw | ⟨w, hw, hst⟩
    · exact e8_wayOf (fun w1 hw1 => by rw [hw] at hw1; cases hw1) (fun _ => zYt (by decide) (fun g hg => fin hji σ2 r0 rE g hg))
    · have hw4 := zs_way_lt hw
      refine e8_wayOf (fun w1 hw1 => zYf (nI_pos (by have := zs_way_lt hw1; omega)) ⟨vp_in_nI (by omega) (by decide), ?_⟩) (fun hw1 => by rw [hw] at hw1; cases hw1)
      refine e8_wayOf (fun w2 hw2 => ?_) (fun hw2 => by rw [hw] at hw2; cases hw2)
      rw [hw] at hw2
      cases hw2
      refine e8_rollsTruly r0 rE th hVj hFj h8j hw4 (fun y σ3 hst3 => by rw [hst] at hst3; cases hst3) (fun _ σ3 s0 sE _ => zYt n00 (fun g hg => fin hji σ3 s0 sE g hg))
theorem R_walks (h : Rel σ τ) : zq7_walks τ (fun a τ' => zq8_walks σ (fun b σ' => RQ τ' a b σ')) := by
  obtain ⟨⟨r, c, k, h0⟩, hE⟩ := id h
  obtain ⟨n, hn, h15, h12, hlt⟩ := hE.1
  have hT := h.ct
  have hd := h0.dim
  unfold zq7_walks zq8_walks
  rcases h0.there with ⟨z1, z2⟩ | ⟨z1, x, hV, hF, z2⟩
  · exact e6_none0 z2 (zYf n10 (e7_refuse 3 (by decide) (by decide) (zNt z1 (RQ.no8 h 3 (by decide) (by decide) (by decide)))))
  · have hx := zs_V_lt hd hV
    have th : ¬ σ.1 9 = 0 := by rw [z1]; decide
    obtain ⟨d, nx, hd20, hnx, _, d2, d3, _⟩ := h0.2.2.2
    refine e6_none1 (by omega) z2 (zYt n00 ?_)
    refine e7_walks_23 h0.2.1 hT hd hn h12 ⟨zx.rf, hV, z2, d, nx, hd20, hnx, d3, d2⟩ (fun i T X τ' hi hWC hWO hb e => ?_)
    subst e
    refine zNf th (e8_walks_16 h0 hE z1 hV hF z2 hn h12 hi hWC hb (fun σ' g r0 rE hg => ⟨rfl, ?_⟩))
    subst hg
    have rel : Rel σ' (T i) := ⟨⟨r, c, k, r0⟩, rE⟩
    have x1 : zx σ' (zz_I σ' 15 0) [15] [] := zx.I 15 _ (by decide)
    have x2 : zx (T i) (zz_I (T i) 12 0) [12] [] := zx.I 12 _ (by decide)
    refine rel.rl (x1.mono (by decide) (by decide)).y (x2.mono (by decide) (by decide)).y ⟨0, by decide, ?_, ?_, fun i hi => absurd hi (Nat.not_lt_zero i)⟩
    · rw [zz_I1, if_pos rfl]; rfl
    · rw [zz_I1, if_pos rfl]; rfl
end CK
