/-! call: board; the letters as a board -/
def zs_sgn (v : Int32) : Option Nat := if v = 46 then some 0 else if v = 35 then some 1 else if v = 126 then some 2 else none
theorem zs_sgn_lt {v : Int32} {w : Nat} (h : zs_sgn v = some w) : w < 3 := by
  unfold zs_sgn at h
  split at h
  · cases h; decide
  split at h
  · cases h; decide
  split at h
  · cases h; decide
  · cases h
theorem zs_sgn59 : zs_sgn 59 = none := by decide
theorem e8_signOf {v : Int32} {Q : Int32 → Prop} (h1 : ∀ w, zs_sgn v = some w → Q (nI w)) (h0 : zs_sgn v = none → Q (-1)) : zq8_signOf v Q := by
  unfold zq8_signOf
  unfold zs_sgn at h1 h0
  refine ⟨fun q1 => ⟨fun q2 => ⟨fun q3 => h0 ?_, fun q => h1 2 (by rw [q]; decide)⟩, fun q => h1 1 (by rw [q]; decide)⟩, fun q => h1 0 (by rw [q]; decide)⟩
  rw [if_neg q1, if_neg q2, if_neg q3]
theorem e1_tileAt {τ : zz_St} {Q : Int32 → Prop} {i : Nat} (hi : i < 72) (h1 : ∀ w, zs_sgn (τ.2.1 18 i) = some w → Q (nI w)) (h0 : zs_sgn (τ.2.1 18 i) = none → Q (-1)) : zq1_tileAt (nI i) τ Q := by
  unfold zq1_tileAt
  have ci : (nI i).toNatClampNeg = i := nI_clamp (by omega)
  rw [ci]
  refine ⟨vp_in_nI hi (by decide), ?_⟩
  unfold zs_sgn at h1 h0
  generalize τ.2.1 18 i = z at *
  rintro x rfl
  refine ⟨fun q => h1 1 (by rw [q]; decide), fun q1 => ⟨fun q => h1 0 (by rw [q]; decide), fun q2 => ⟨fun q => h1 2 (by rw [q]; decide), fun q3 => h0 ?_⟩⟩⟩
  rw [if_neg q2, if_neg q1, if_neg q3]
/-- rows, columns, signs in the row that is being read -/
def zs_bad (v : Int32) (q : Nat × Nat × Nat) : Prop := if v = 59 then q.2.2 = 0 ∨ (0 < q.1 ∧ ¬ q.2.2 = q.2.1) else zs_sgn v = none ∨ q.1 = 6 ∨ q.2.2 = (if q.1 = 0 then 6 else q.2.1)
def zs_nxt (v : Int32) (q : Nat × Nat × Nat) : Nat × Nat × Nat := if v = 59 then (q.1 + 1, q.2.2, 0) else (q.1, q.2.1, q.2.2 + 1)
/-- the first i letters go on as a board -/
def BS (L : Nat → Int32) : Nat → Nat × Nat × Nat → Prop
  | 0, q => q = (0, 0, 0)
  | i + 1, q => ∃ q0, BS L i q0 ∧ ¬ zs_bad (L i) q0 ∧ q = zs_nxt (L i) q0
theorem BS_uni {L : Nat → Int32} : ∀ (i : Nat) (q q' : Nat × Nat × Nat), BS L i q → BS L i q' → q = q' := by
  intro i
  induction i with
  | zero => intro q q' h h'; exact h.trans h'.symm
  | succ i ih =>
    rintro q q' ⟨a, a1, _, a3⟩ ⟨b, b1, _, b3⟩
    rw [a3, b3, ih a b a1 b1]
theorem BS_congr {L L' : Nat → Int32} (n : Nat) (h : ∀ i, i < n → L i = L' i) : ∀ i, i ≤ n → ∀ q, BS L i q → BS L' i q := by
  intro i
  induction i with
  | zero => intro _ q h; exact h
  | succ i ih =>
    rintro hi q ⟨a, a1, a2, a3⟩
    rw [h i (by omega)] at a2 a3
    exact ⟨a, ih (by omega) a a1, a2, a3⟩
theorem BS_down {L : Nat → Int32} {i : Nat} {q : Nat × Nat × Nat} (h : BS L i q) (j : Nat) (hj : j ≤ i) : ∃ q', BS L j q' := by
  induction i generalizing q with
  | zero => exact ⟨q, by rw [show j = 0 from by omega]; exact h⟩
  | succ i ih =>
    obtain ⟨a, a1, _, _⟩ := id h
    rcases Nat.lt_or_ge i j with z | z
    · exact ⟨q, by rw [show j = i + 1 from by omega]; exact h⟩
    · exact ih a1 z
theorem BS_inv {L : Nat → Int32} : ∀ (i : Nat) (q : Nat × Nat × Nat), BS L i q → q.1 ≤ 6 ∧ (q.1 = 0 → q.2.2 ≤ 6) ∧ (0 < q.1 → 1 ≤ q.2.1 ∧ q.2.1 ≤ 6 ∧ q.2.2 ≤ q.2.1) ∧ (q.1 = 6 → q.2.2 = 0) := by
  intro i
  induction i with
  | zero => intro q h; rw [h]; exact ⟨by decide, fun _ => by decide, fun z => absurd z (by decide), fun _ => rfl⟩
  | succ i ih =>
    rintro q ⟨a, a1, a2, a3⟩
    obtain ⟨b1, b2, b3, b4⟩ := ih a a1
    obtain ⟨R, C, W⟩ := a
    unfold zs_bad at a2
    unfold zs_nxt at a3
    dsimp only at *
    by_cases z : L i = 59
    · rw [if_pos z] at a2 a3
      subst a3
      dsimp only
      refine ⟨by omega, fun y => by omega, fun _ => ?_, fun _ => rfl⟩
      omega
    · rw [if_neg z] at a2 a3
      subst a3
      dsimp only
      by_cases y : R = 0
      · rw [if_pos y] at a2
        refine ⟨by omega, fun _ => ?_, fun w => by omega, fun w => by omega⟩
        have := b2 y
        have h6 : ¬ W = 6 := fun w => a2 (Or.inr (Or.inr w))
        omega
      · rw [if_neg y] at a2
        have h6 : ¬ W = C := fun w => a2 (Or.inr (Or.inr w))
        have h7 : ¬ R = 6 := fun w => a2 (Or.inr (Or.inl w))
        refine ⟨by omega, fun w => by omega, fun w => ?_, fun w => by omega⟩
        have := b3 (by omega)
        omega
/-- what the letters tell: a fault, or rows and columns -/
def BR (L : Nat → Int32) (n : Nat) (res : Int32) : Prop := (∃ i q, i < n ∧ BS L i q ∧ zs_bad (L i) q ∧ res = nI i) ∨ ∃ q, BS L n q ∧ ((q.1 = 0 ∨ 0 < q.2.2) ∧ res = nI n ∨ (¬ (q.1 = 0 ∨ 0 < q.2.2) ∧ res = -1))
theorem BR_congr {L L' : Nat → Int32} {n : Nat} {res : Int32} (h : ∀ i, i < n → L i = L' i) (hb : BR L n res) : BR L' n res := by
  rcases hb with ⟨i, q, a, b, c, d⟩ | ⟨q, a, b⟩
  · exact Or.inl ⟨i, q, a, BS_congr n h i (by omega) q b, by rw [← h i a]; exact c, d⟩
  · exact Or.inr ⟨q, BS_congr n h n (Nat.le_refl n) q a, b⟩
theorem BR_uni {L : Nat → Int32} {n : Nat} {r r' : Int32} (h : BR L n r) (h' : BR L n r') : r = r' := by
  have key : ∀ {i q}, BS L i q → zs_bad (L i) q → ∀ j q', i < j → ¬ BS L j q' := by
    intro i q a b j q' hij hj
    obtain ⟨q1, hq1⟩ := BS_down hj (i + 1) hij
    obtain ⟨q0, c1, c2, _⟩ := hq1
    rw [BS_uni i q0 q c1 a] at c2
    exact c2 b
  rcases h with ⟨i, q, a1, a2, a3, a4⟩ | ⟨q, a1, a2⟩ <;> rcases h' with ⟨j, q', b1, b2, b3, b4⟩ | ⟨q', b1, b2⟩
  · have : i = j := by
      rcases Nat.lt_trichotomy i j with z | z | z
      · exact absurd b2 (key a2 a3 j q' z)
      · exact z
      · exact absurd a2 (key b2 b3 i q z)
    rw [a4, b4, this]
  · exact absurd b1 (key a2 a3 n q' a1)
  · exact absurd a1 (key b2 b3 n q b1)
  · have e := BS_uni n q q' a1 b1
    subst e
    rcases a2 with z | z <;> rcases b2 with y | y
    · rw [z.2, y.2]
    · exact absurd z.1 y.1
    · exact absurd y.1 z.1
    · rw [z.2, y.2]
section CL
variable {σ τ : zz_St}
theorem e8_boardFault {Q : Int32 → zz_St → Prop} {n : Nat} (hn : n ≤ 72) (h15 : σ.1 15 = nI n)
    (h : ∀ res σ2, zx σ σ2 [16, 17] [] → BR (σ.2.1 14) n res → (res = -1 → ∃ q, BS (σ.2.1 14) n q ∧ ¬ (q.1 = 0 ∨ 0 < q.2.2) ∧ σ2.1 16 = nI q.1 ∧ σ2.1 17 = nI q.2.1) → Q res σ2) : zq8_boardFault σ Q := by
  unfold zq8_boardFault
  intro g33 h33 g34 h34
  have x33 : zx σ g33 [16] [] := by rw [h33]; exact zx.I 16 _ (by decide)
  have x34 : zx g33 g34 [17] [] := by rw [h34]; exact zx.I 17 _ (by decide)
  unfold zq8_boardFault_14
  refine ⟨fun v1 v2 σ2 => ∃ i, i ≤ n ∧ v2 = nI i ∧ (zx σ σ2 [16, 17] [] ∧ ∃ q, BS (σ.2.1 14) i q ∧ v1 = nI q.2.2 ∧ σ2.1 16 = nI q.1 ∧ (σ2.1 17 = nI q.2.1)), fun _ v2 _ => n - v2.toNatClampNeg, ⟨0, Nat.zero_le _, rfl, (x33.mono (by decide) (by decide)).tr (x34.mono (by decide) (by decide)), (0, 0, 0), rfl, rfl, ?_, ?_⟩, ?_⟩
  · rw [x34.1 16 (by decide), h33, zz_I1, if_pos rfl]; rfl
  · rw [h34, zz_I1, if_pos rfl]; rfl
  rintro v1 v2 σ2 ⟨i, hi, rfl, hx, ⟨R, C, W⟩, hq, rfl, e16, e17⟩
  obtain ⟨b1, b2, b3, b4⟩ := BS_inv i _ hq
  dsimp only at *
  have hW : W ≤ 6 := by omega
  have w0 : nI W = 0 ↔ W = 0 := nI_eq (b := 0) (by omega) (by decide)
  have r0 : nI R = 0 ↔ R = 0 := nI_eq (b := 0) (by omega) (by decide)
  have r6 : nI R = 6 ↔ R = 6 := nI_eq (b := 6) (by omega) (by decide)
  have rl : nI R ≤ 0 ↔ R ≤ 0 := nI_leI (b := 0) (by omega) (by decide)
  have wl : nI W ≤ 0 ↔ W ≤ 0 := nI_leI (b := 0) (by omega) (by decide)
  rw [hx.1 15 (by decide), h15, e16, e17, r0, r6, rl, wl, w0]
  have fault : i < n → zs_bad (σ.2.1 14 i) (R, C, W) → Q (nI i) σ2 := fun hin hb => h (nI i) σ2 hx (Or.inl ⟨i, _, hin, hq, hb, rfl⟩) (fun z => absurd z (zn_nm1 (by omega)))
  refine pk_le n i (fun z => ?_) (fun z => ⟨vp_in_nI (by omega) (by decide), ?_⟩)
  · have hin : i = n := by omega
    subst hin
    have nn : ¬ nI i = -1 := zn_nm1 (by omega)
    refine ⟨fun y => h _ σ2 hx (Or.inr ⟨_, hq, Or.inl ⟨Or.inl y, rfl⟩⟩) (fun u => absurd u nn), fun y => ⟨fun y2 => h _ σ2 hx (Or.inr ⟨_, hq, Or.inr ⟨fun u => u.elim y (fun v => by dsimp only at v; omega), rfl⟩⟩) (fun _ => ⟨_, hq, fun u => u.elim y (fun v => by dsimp only at v; omega), e16, e17⟩), fun y2 => h _ σ2 hx (Or.inr ⟨_, hq, Or.inl ⟨Or.inr (by show 0 < W; omega), rfl⟩⟩) (fun u => absurd u nn)⟩⟩
  · have ci : (nI i).toNatClampNeg = i := nI_clamp (by omega)
    rw [ci, hx.2.1 14 (by decide)]
    have c1 : (nI (i + 1)).toNatClampNeg = i + 1 := nI_clamp (by omega)
    have hB : ∀ q' v1' σ3, zx σ σ3 [16, 17] [] → BS (σ.2.1 14) (i + 1) q' → v1' = nI q'.2.2 → σ3.1 16 = nI q'.1 → σ3.1 17 = nI q'.2.1 → (∃ j, j ≤ n ∧ nI i + 1 = nI j ∧ (zx σ σ3 [16, 17] [] ∧ ∃ q, BS (σ.2.1 14) j q ∧ v1' = nI q.2.2 ∧ σ3.1 16 = nI q.1 ∧ σ3.1 17 = nI q.2.1)) ∧ n - (nI i + 1).toNatClampNeg < n - i := by
      intro q' v1' σ3 a b c' d e
      have := zl_leaf (J := fun j σ3 => zx σ σ3 [16, 17] [] ∧ ∃ q, BS (σ.2.1 14) j q ∧ v1' = nI q.2.2 ∧ σ3.1 16 = nI q.1 ∧ σ3.1 17 = nI q.2.1) z (by omega) ⟨a, q', b, c', d, e⟩
      rw [ci] at this
      exact this
    intro x24 e24
    subst e24
    refine ⟨fun n59 => ?_, fun y59 => ?_⟩
    · refine e8_signOf (fun w hw => zYf (nI_pos (by have := zs_sgn_lt hw; omega)) ?_) (fun hw => zYt (by decide) (fault z ?_))
      · have go : ∀ s0 : Nat, s0 = (if R = 0 then 6 else C) → ¬ R = 6 → zq8_boardFault_109 (nI W) (nI i) (nI s0) (nI W) σ2 Q (fun v1' v2' σ' => (∃ i, i ≤ n ∧ v2' = nI i ∧ (zx σ σ' [16, 17] [] ∧ ∃ q, BS (σ.2.1 14) i q ∧ v1' = nI q.2.2 ∧ σ'.1 16 = nI q.1 ∧ (σ'.1 17 = nI q.2.1))) ∧ n - v2'.toNatClampNeg < n - i) := by
          intro s0 es0 hr6
          unfold zq8_boardFault_109 zq8_boardFault_117
          have es : nI W = nI s0 ↔ W = s0 := nI_eq (by omega) (by rw [es0]; split <;> omega)
          rw [es]
          refine ⟨fun y => hB (R, C, W + 1) _ σ2 hx ⟨(R, C, W), hq, ?_, ?_⟩ (nI_1 W) e16 e17, fun y => fault z ?_⟩
          · unfold zs_bad
            rw [if_neg n59]
            rintro (u | u | u)
            · rw [hw] at u; cases u
            · exact hr6 u
            · exact y (by rw [es0]; exact u)
          · unfold zs_nxt
            rw [if_neg n59]
          · unfold zs_bad
            rw [if_neg n59]
            exact Or.inr (Or.inr (by rw [← es0]; exact y))
        refine ⟨fun y => fault z ?_, fun y => ⟨fun y0 => go C (by rw [if_neg y0]) y, fun y0 => go 6 (by rw [if_pos y0]) y⟩⟩
        unfold zs_bad
        rw [if_neg n59]
        exact Or.inr (Or.inl y)
      · unfold zs_bad
        rw [if_neg n59]
        exact Or.inl hw
    · have hbad : zs_bad (σ.2.1 14 i) (R, C, W) ↔ W = 0 ∨ (0 < R ∧ ¬ W = C) := by
        unfold zs_bad
        rw [if_pos y59]
      have go : ¬ (W = 0 ∨ (0 < R ∧ ¬ W = C)) → zq8_boardFault_56 (nI W) (nI i) σ2 Q (fun v1' v2' σ' => (∃ i, i ≤ n ∧ v2' = nI i ∧ (zx σ σ' [16, 17] [] ∧ ∃ q, BS (σ.2.1 14) i q ∧ v1' = nI q.2.2 ∧ σ'.1 16 = nI q.1 ∧ (σ'.1 17 = nI q.2.1))) ∧ n - v2'.toNatClampNeg < n - i) := by
        intro y
        unfold zq8_boardFault_56 zq8_boardFault_117
        intro g18 h18 g19 h19
        have x18 : zx σ2 g18 [17] [] := by rw [h18]; exact zx.I 17 _ (by decide)
        have x19 : zx g18 g19 [16] [] := by rw [h19]; exact zx.I 16 _ (by decide)
        refine hB (R + 1, W, 0) _ g19 ((hx.tr (x18.mono (by decide) (by decide))).tr (x19.mono (by decide) (by decide))) ⟨(R, C, W), hq, fun u => y (hbad.mp u), ?_⟩ rfl ?_ ?_
        · unfold zs_nxt
          rw [if_pos y59]
        · rw [h19, zz_I1, if_pos rfl, x18.1 16 (by decide), e16]; exact nI_1 R
        · rw [x19.1 17 (by decide), h18, zz_I1, if_pos rfl]
      have eC : nI W = nI C ↔ W = C ∨ R = 0 ∧ nI W = nI C := by
        constructor
        · intro u
          by_cases r : R = 0
          · exact Or.inr ⟨r, u⟩
          · have := b3 (by omega)
            exact Or.inl ((nI_eq (by omega) (by omega)).mp u)
        · rintro (u | u)
          · rw [u]
          · exact u.2
      refine ⟨fun y => fault z (hbad.mpr (Or.inl y)), fun y => ⟨fun y2 => go (fun u => u.elim y (fun v => by omega)), fun y2 => ⟨fun y3 => go (fun u => u.elim y (fun v => ?_)), fun y3 => fault z (hbad.mpr (Or.inr ⟨by omega, fun v => y3 (by rw [v])⟩))⟩⟩⟩
      rcases eC.mp y3 with u | u
      · exact v.2 u
      · omega
theorem e1_boardFault {Q : Int32 → Prop} {n : Nat} (hn : n ≤ 72) (h12 : τ.1 12 = nI n) (h : ∀ res, BR (τ.2.1 18) n res → Q res) : zq1_boardFault τ Q := by
  unfold zq1_boardFault zq1_boardFault_10
  refine ⟨fun v1 v2 v3 v4 => ∃ i, i ≤ n ∧ v4 = nI i ∧ ∃ q, BS (τ.2.1 18) i q ∧ v1 = nI q.1 ∧ v2 = nI q.2.2 ∧ v3 = nI (if q.1 = 0 then 6 else q.2.1), fun _ _ _ v4 => n - v4.toNatClampNeg, ⟨0, Nat.zero_le _, rfl, (0, 0, 0), rfl, rfl, rfl, rfl⟩, ?_⟩
  rintro v1 v2 v3 v4 ⟨i, hi, rfl, ⟨R, C, W⟩, hq, rfl, rfl, rfl⟩
  obtain ⟨b1, b2, b3, b4⟩ := BS_inv i _ hq
  dsimp only at *
  have hW : W ≤ 6 := by omega
  generalize hV : (if R = 0 then 6 else C) = V at *
  have hV6 : V ≤ 6 ∧ W ≤ V ∧ (0 < R → V = C) := by
    rw [← hV]
    by_cases r : R = 0
    · rw [if_pos r]; exact ⟨by decide, by omega, fun y => by omega⟩
    · rw [if_neg r]; have := b3 (by omega); exact ⟨by omega, by omega, fun _ => rfl⟩
  have r0 : nI R = 0 ↔ R = 0 := nI_eq (b := 0) (by omega) (by decide)
  have r6 : nI R = 6 ↔ R = 6 := nI_eq (b := 6) (by omega) (by decide)
  have wl : nI W ≤ 0 ↔ W ≤ 0 := nI_leI (b := 0) (by omega) (by decide)
  have wv : nI W = nI V ↔ W = V := nI_eq (by omega) (by omega)
  have vw : nI V ≤ nI W ↔ V ≤ W := nI_leI (by omega) (by omega)
  rw [h12, r0, wl]
  have fault : i < n → zs_bad (τ.2.1 18 i) (R, C, W) → Q (nI i) := fun hin hb => h (nI i) (Or.inl ⟨i, _, hin, hq, hb, rfl⟩)
  refine pk_le n i (fun z => ?_) (fun z => ⟨vp_in_nI (by omega) (by decide), ?_⟩)
  · have hin : i = n := by omega
    subst hin
    exact ⟨fun y => h _ (Or.inr ⟨_, hq, Or.inl ⟨Or.inl y, rfl⟩⟩), fun y => ⟨fun y2 => h _ (Or.inr ⟨_, hq, Or.inr ⟨fun u => u.elim y (fun v => by dsimp only at v; omega), rfl⟩⟩), fun y2 => h _ (Or.inr ⟨_, hq, Or.inl ⟨Or.inr (by show 0 < W; omega), rfl⟩⟩)⟩⟩
  · have ci : (nI i).toNatClampNeg = i := nI_clamp (by omega)
    rw [ci, wv]
    have hB : ∀ (q' : Nat × Nat × Nat) (v1' v2' v3' : Int32), BS (τ.2.1 18) (i + 1) q' → v1' = nI q'.1 → v2' = nI q'.2.2 → v3' = nI (if q'.1 = 0 then 6 else q'.2.1) → (∃ j, j ≤ n ∧ nI i + 1 = nI j ∧ ∃ q, BS (τ.2.1 18) j q ∧ v1' = nI q.1 ∧ v2' = nI q.2.2 ∧ v3' = nI (if q.1 = 0 then 6 else q.2.1)) ∧ n - (nI i + 1).toNatClampNeg < n - i := by
      intro q' v1' v2' v3' a b c' d
      have := zl_leaf0 (J := fun j => ∃ q, BS (τ.2.1 18) j q ∧ v1' = nI q.1 ∧ v2' = nI q.2.2 ∧ v3' = nI (if q.1 = 0 then 6 else q.2.1)) z (by omega) ⟨q', a, b, c', d⟩
      rw [ci] at this
      exact this
    have c49 : ∀ e : Nat, (e = 1 ∧ τ.2.1 18 i = 59 ∧ 0 < W ∧ (R = 0 ∨ W = V)) ∨ (e = 0 ∧ ¬ (τ.2.1 18 i = 59 ∧ 0 < W ∧ (R = 0 ∨ W = V))) → zq1_boardFault_49 (nI R) (nI W) (nI V) (nI i) (nI e) τ Q (fun v1' v2' v3' v4' => (∃ i, i ≤ n ∧ v4' = nI i ∧ ∃ q, BS (τ.2.1 18) i q ∧ v1' = nI q.1 ∧ v2' = nI q.2.2 ∧ v3' = nI (if q.1 = 0 then 6 else q.2.1)) ∧ n - v4'.toNatClampNeg < n - i) := by
      intro e he
      unfold zq1_boardFault_49 zq1_boardFault_69
      rw [vw]
      have c70 : ∀ s : Nat, (s = 1 ∧ (∃ w, zs_sgn (τ.2.1 18 i) = some w) ∧ W < V) ∨ (s = 0 ∧ ¬ ((∃ w, zs_sgn (τ.2.1 18 i) = some w) ∧ W < V)) → zq1_boardFault_70 (nI R) (nI W) (nI V) (nI i) (nI e) (nI s) τ Q (fun v1' v2' v3' v4' => (∃ i, i ≤ n ∧ v4' = nI i ∧ ∃ q, BS (τ.2.1 18) i q ∧ v1' = nI q.1 ∧ v2' = nI q.2.2 ∧ v3' = nI (if q.1 = 0 then 6 else q.2.1)) ∧ n - v4'.toNatClampNeg < n - i) := by
        intro s hs
        unfold zq1_boardFault_70 zq1_boardFault_91 zq1_boardFault_101 zq1_boardFault_113
        rw [r6]
        refine ⟨fun y => fault z ?_, fun y => ?_⟩
        · unfold zs_bad
          by_cases u : τ.2.1 18 i = 59
          · rw [if_pos u]; exact Or.inl (b4 y)
          · rw [if_neg u]; exact Or.inr (Or.inl y)
        rcases he with ⟨e1, e2, e3, e4⟩ | ⟨e1, e2⟩
        · subst e1
          refine zNf n10 (zYf n10 (zYf n10 ?_))
          refine hB (R + 1, W, 0) _ _ _ ⟨(R, C, W), hq, ?_, ?_⟩ (nI_1 R) rfl (by rw [if_neg (by omega)])
          · unfold zs_bad
            rw [if_pos e2]
            rintro (u | u)
            · have u : W = 0 := u
              omega
            · have u1 : 0 < R := u.1
              exact u.2 (by show W = C; rw [← hV6.2.2 u1]; exact e4.resolve_left (by omega))
          · unfold zs_nxt
            rw [if_pos e2]
        · subst e1
          refine zNt n00 ?_
          rcases hs with ⟨s1, s2, s3⟩ | ⟨s1, s2⟩
          · subst s1
            refine zNf n10 (zYt n00 (zYt n00 ?_))
            obtain ⟨w, hw⟩ := s2
            have n59 : ¬ τ.2.1 18 i = 59 := fun u => by rw [u, zs_sgn59] at hw; cases hw
            refine hB (R, C, W + 1) _ _ _ ⟨(R, C, W), hq, ?_, ?_⟩ rfl (nI_1 W) (by rw [hV])
            · unfold zs_bad
              rw [if_neg n59]
              rintro (u | u | u)
              · rw [hw] at u; cases u
              · exact y u
              · have u : W = (if R = 0 then 6 else C) := u
                rw [hV] at u
                omega
            · unfold zs_nxt
              rw [if_neg n59]
          · subst s1
            refine zNt n00 (fault z ?_)
            unfold zs_bad
            by_cases u : τ.2.1 18 i = 59
            · rw [if_pos u]
              show W = 0 ∨ (0 < R ∧ ¬ W = C)
              by_cases w0 : W = 0
              · exact Or.inl w0
              · by_cases r : R = 0
                · exact absurd ⟨u, by omega, Or.inl r⟩ e2
                · refine Or.inr ⟨by omega, fun v => e2 ⟨u, by omega, Or.inr ?_⟩⟩
                  rw [hV6.2.2 (by omega)]
                  exact v
            · rw [if_neg u]
              show zs_sgn (τ.2.1 18 i) = none ∨ R = 6 ∨ W = (if R = 0 then 6 else C)
              rw [hV]
              cases hw : zs_sgn (τ.2.1 18 i) with
              | none => exact Or.inl rfl
              | some w =>
                refine Or.inr (Or.inr ?_)
                have : ¬ W < V := fun v => s2 ⟨⟨w, hw⟩, v⟩
                omega
      refine e1_tileAt (by omega) (fun w hw => zYf (nI_pos (by have := zs_sgn_lt hw; omega)) ⟨fun y => c70 0 (Or.inr ⟨rfl, fun u => by omega⟩), fun y => c70 1 (Or.inl ⟨rfl, ⟨w, hw⟩, by omega⟩)⟩) (fun hw => zYt (by decide) (c70 0 (Or.inr ⟨rfl, fun ⟨⟨w, u⟩, _⟩ => by rw [hw] at u; cases u⟩)))
    unfold zq1_boardFault_48 zq1_boardFault_44
    refine ⟨fun y => c49 0 (Or.inr ⟨rfl, fun u => y u.1⟩), fun y => ⟨fun y2 => c49 0 (Or.inr ⟨rfl, fun u => by omega⟩), fun y2 => ⟨fun y3 => c49 1 (Or.inl ⟨rfl, y, by omega, Or.inl y3⟩), fun y3 => ⟨fun y4 => c49 0 (Or.inr ⟨rfl, fun u => u.2.2.elim y3 y4⟩), fun y4 => c49 1 (Or.inl ⟨rfl, y, by omega, Or.inr y4⟩)⟩⟩⟩⟩
end CL
