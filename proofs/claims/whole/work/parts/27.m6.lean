/-! loops that count up -/
theorem zl_leaf {J : Nat → zz_St → Prop} {i N : Nat} {g : zz_St} (hi : i < N) (hN : N < 2 ^ 31) (hJ : J (i + 1) g) : (∃ j, j ≤ N ∧ nI i + 1 = nI j ∧ J j g) ∧ N - (nI i + 1).toNatClampNeg < N - (nI i).toNatClampNeg := by
  have h1 : nI i + 1 = nI (i + 1) := nI_1 i
  have c1 : (nI (i + 1)).toNatClampNeg = i + 1 := nI_clamp (by omega)
  have c0 : (nI i).toNatClampNeg = i := nI_clamp (by omega)
  rw [h1, c1, c0]
  exact ⟨⟨i + 1, hi, rfl, hJ⟩, by omega⟩
theorem zl_end {i N : Nat} (hi : i ≤ N) (hN : N < 2 ^ 31) (h : nI N ≤ nI i) : i = N := by
  have := (nI_leI (a := N) (b := i) hN (by omega)).mp h
  omega
theorem zl_go {i N : Nat} (hi : i ≤ N) (hN : N < 2 ^ 31) (h : ¬ nI N ≤ nI i) : i < N := by
  rcases Nat.lt_or_ge i N with q | q
  · exact q
  · exact absurd (nI_le q (by omega)) h
/-- rows are laid into rows, place by place -/
theorem zl_copy {src dst N : Nat} (hne : ¬ src = dst) (hN : N < 2 ^ 31) {E : zz_St → Prop} {σ : zz_St}
    (hE : ∀ σ2, zx σ σ2 [] [dst] → (∀ i, i < N → σ2.2.1 dst i = σ.2.1 src i) → (∀ i, N ≤ i → σ2.2.1 dst i = σ.2.1 dst i) → E σ2) :
    ∃ (I : Int32 → zz_St → Prop) (M : Int32 → zz_St → Nat), I 0 σ ∧ ∀ (v : Int32) (σ : zz_St), I v σ → ((nI N ≤ v) → E σ) ∧ (¬ (nI N ≤ v) → vp_in v N ∧ vp_in v N ∧ ∀ g : zz_St, g = zz_A σ dst (upd (σ.2.1 dst) v.toNatClampNeg (σ.2.1 src v.toNatClampNeg)) → I (v + 1) g ∧ M (v + 1) g < M v σ) := by
  refine ⟨fun v σ2 => ∃ i, i ≤ N ∧ v = nI i ∧ (zx σ σ2 [] [dst] ∧ (∀ j, j < i → σ2.2.1 dst j = σ.2.1 src j) ∧ ∀ j, i ≤ j → σ2.2.1 dst j = σ.2.1 dst j), fun v _ => N - v.toNatClampNeg, ⟨0, Nat.zero_le _, rfl, zx.rf, fun j h => absurd h (Nat.not_lt_zero j), fun _ _ => rfl⟩, ?_⟩
  rintro v σ2 ⟨i, hi, rfl, hx, h1, h2⟩
  refine ⟨fun q => ?_, fun q => ?_⟩
  · have := zl_end hi hN q
    subst this
    exact hE σ2 hx h1 h2
  · have hlt := zl_go hi hN q
    refine ⟨vp_in_nI hlt hN, vp_in_nI hlt hN, fun g hg => zl_leaf (J := fun i g => zx σ g [] [dst] ∧ (∀ j, j < i → g.2.1 dst j = σ.2.1 src j) ∧ ∀ j, i ≤ j → g.2.1 dst j = σ.2.1 dst j) hlt hN ⟨?_, ?_, ?_⟩⟩
    · rw [hg]; exact hx.tr (zx.A dst _ List.mem_cons_self)
    · have c0 : (nI i).toNatClampNeg = i := nI_clamp (by omega)
      intro j hj
      rw [hg, zz_A2, if_pos rfl, c0]
      rcases Nat.lt_succ_iff_lt_or_eq.mp hj with z | z
      · rw [pk_un (by omega)]; exact h1 j z
      · rw [z, pk_us, hx.2.1 src (by simp only [List.mem_singleton]; exact hne)]
    · have c0 : (nI i).toNatClampNeg = i := nI_clamp (by omega)
      intro j hj
      rw [hg, zz_A2, if_pos rfl, c0, pk_un (by omega)]
      exact h2 j (by omega)
/-- where a roll brings a tetra: row and place in the row -/
def zs_tmv (row j w a b : Nat) : Prop := (w = 0 ∧ ¬ (row + j) % 2 = 0 ∧ a + 1 = row ∧ b = j) ∨ (w = 1 ∧ a = row ∧ b = j + 1) ∨ (w = 2 ∧ (row + j) % 2 = 0 ∧ a = row + 1 ∧ b = j) ∨ (w = 3 ∧ a = row ∧ b + 1 = j)
theorem zs_tt_mv {r c k : Nat} {tl pr : Nat → Int32} {pl s w a b : Nat} (hm : zs_tmv (pl / (2 * c)) (pl % (2 * c)) w a b) : zs_tt r c k tl pr pl s w = zs_tfin r c k tl pr a b (zs_T true s w) := by
  unfold zs_tt
  simp only
  rcases hm with ⟨rfl, h0, h1, h2⟩ | ⟨rfl, h1, h2⟩ | ⟨rfl, h0, h1, h2⟩ | ⟨rfl, h1, h2⟩
  · rw [if_pos rfl, if_neg (by omega), show pl / (2 * c) - 1 = a from by omega, ← h2]
  · rw [if_neg (by decide), if_pos rfl, ← h1, ← h2]
  · rw [if_neg (by decide), if_neg (by decide), if_pos rfl, if_pos h0, ← h1, ← h2]
  · rw [if_neg (by decide), if_neg (by decide), if_neg (by decide), if_neg (by omega), show pl % (2 * c) - 1 = b from by omega, ← h1]
theorem zs_tt_no {r c k : Nat} {tl pr : Nat → Int32} {pl s w : Nat} (hw : w < 4) (hm : ∀ a b, zs_tmv (pl / (2 * c)) (pl % (2 * c)) w a b → zs_tfin r c k tl pr a b (zs_T true s w) = none) : zs_tt r c k tl pr pl s w = none := by
  by_cases h : ∃ a b, zs_tmv (pl / (2 * c)) (pl % (2 * c)) w a b
  · obtain ⟨a, b, h⟩ := h
    rw [zs_tt_mv h]
    exact hm a b h
  · unfold zs_tt
    simp only
    rcases (by omega : w = 0 ∨ w = 1 ∨ w = 2 ∨ w = 3) with rfl | rfl | rfl | rfl
    · rw [if_pos rfl]
      by_cases q : (pl / (2 * c) + pl % (2 * c)) % 2 = 0 ∨ pl / (2 * c) = 0
      · rw [if_pos q]
      · exact absurd ⟨pl / (2 * c) - 1, pl % (2 * c), Or.inl ⟨rfl, fun z => q (Or.inl z), Nat.sub_add_cancel (Nat.pos_of_ne_zero (fun z => q (Or.inr z))), rfl⟩⟩ h
    · exact absurd ⟨_, _, Or.inr (Or.inl ⟨rfl, rfl, rfl⟩)⟩ h
    · rw [if_neg (by decide), if_neg (by decide), if_pos rfl]
      by_cases q : (pl / (2 * c) + pl % (2 * c)) % 2 = 0
      · exact absurd ⟨_, _, Or.inr (Or.inr (Or.inl ⟨rfl, q, rfl, rfl⟩))⟩ h
      · rw [if_neg q]
    · rw [if_neg (by decide), if_neg (by decide), if_neg (by decide)]
      by_cases q : pl % (2 * c) = 0
      · rw [if_pos q]
      · exact absurd ⟨pl / (2 * c), pl % (2 * c) - 1, Or.inr (Or.inr (Or.inr ⟨rfl, rfl, by omega⟩))⟩ h
section M6
variable {σ : zz_St} {r c k : Nat} {tl pr : Nat → Int32} {Q : Int32 → zz_St → Prop}
theorem e8_goesTetra_101 (hB : MB σ r c k tl pr) (hd : zs_dim r c k) {pl s w : Nat} (hw : w < 4) (hF : MF σ true pl s) (hs : s < 8) {v3 s0 s1 : Int32}
    (h1 : ∀ a b, a < r → b < 2 * c → v3 = nI a → s1 + s0 = nI b → ¬ (k = 5 ∧ 0 ≤ pr (a * c + b / 2)) → ∀ σ2, zx σ σ2 [8] [10] → MF σ2 true (a * (2 * c) + b) (zs_T true s w) → Q 1 σ2)
    (h0 : (∀ a b, a < r → b < 2 * c → v3 = nI a → s1 + s0 = nI b → k = 5 ∧ 0 ≤ pr (a * c + b / 2)) → ∀ σ2, zx σ σ2 [8] [10] → Q 0 σ2) : zq8_goesTetra_101 (nI w) (nI (2 * c)) v3 s0 s1 σ Q := by
  unfold zq8_goesTetra_101
  intro x ex
  subst ex
  have hrc := zs_rc hd.2.1 hd.2.2.2.1
  rw [hB.1]
  refine e8_inN (by omega) (fun q2 => ?_) (fun q2 => ⟨fun _ => h0 (fun a b ha hb ea eb => absurd (by rw [ea]; exact vp_in_nI ha (by omega)) q2) σ zx.rf, fun z => absurd rfl z⟩)
  refine ⟨fun z => absurd z (by decide), fun _ => e8_inN (by omega) (fun q3 => ?_) (fun q3 => ⟨fun z => absurd rfl z, fun _ => h0 (fun a b ha hb ea eb => absurd (by rw [eb]; exact vp_in_nI hb (by omega)) q3) σ zx.rf⟩)⟩
  refine ⟨fun _ g hg => ?_, fun z => absurd z (by decide)⟩
  obtain ⟨a, ha, ea⟩ := zn_of_in q2 (by omega)
  obtain ⟨b, hb, eb⟩ := zn_of_in q3 (by omega)
  have x1 : zx σ g [8] [10] := by rw [hg]; exact zx.I 8 _ (by decide)
  have hcell := zs_cell (c := 2 * c) ha hb
  have h2rc : r * (2 * c) = 2 * (r * c) := by rw [Nat.mul_left_comm]
  have hFg : MF g true (a * (2 * c) + b) s := by
    refine ⟨?_, fun i hi => ?_⟩
    · rw [hg, zz_I1, if_pos rfl, ea, eb, pk_mul, nI_add, Nat.mul_comm]
    · rw [hg, zz_I2]; exact hF.2 i hi
  refine e8_turnsTetra hw hFg hs (fun σ2 x2 hF2 => ?_)
  have x12 : zx σ σ2 [8] [10] := x1.tr (x2.mono (by decide) (by decide))
  have hB2 := hB.x x12 (by decide)
  have ek5 : nI k = 5 ↔ k = 5 := nI_eq (b := 5) (by have := hd.2.2.2.2; omega) (by decide)
  have e2 : (a * (2 * c) + b) / 2 = a * c + b / 2 := by
    rw [Nat.mul_left_comm]; omega
  have ediv : nI (a * (2 * c) + b) / 2 = nI (a * c + b / 2) := by rw [zs_2 (by omega), e2]
  have hlt : a * c + b / 2 < 36 := by
    have := zs_cell (c := c) ha (show b / 2 < c by omega)
    omega
  have ecl : (nI (a * c + b / 2)).toNatClampNeg = a * c + b / 2 := nI_clamp (by omega)
  rw [hB2.2.2.1, ek5, hF2.1, ediv, hB2.2.2.2.2, ecl]
  refine ⟨fun n5 => h1 a b ha hb ea eb (fun z => n5 z.1) σ2 x12 hF2, fun y5 => ⟨vp_in_nI hlt (by decide), fun z => h0 (fun a2 b2 ha2 hb2 ea2 eb2 => ?_) σ2 x12, fun z => h1 a b ha hb ea eb (fun y => z y.2) σ2 x12 hF2⟩⟩
  have i1 : a = a2 := (nI_eq (by omega) (by omega)).mp (ea.symm.trans ea2)
  have i2 : b = b2 := (nI_eq (by omega) (by omega)).mp (eb.symm.trans eb2)
  subst i1; subst i2
  exact ⟨y5, z⟩
theorem e8_goesTetra (hB : MB σ r c k tl pr) (hd : zs_dim r c k) {pl s w : Nat} (hw : w < 4) (hF : MF σ true pl s) (hs : s < 8) (hp : pl < 2 * (r * c))
    (h1 : ∀ a b, zs_tmv (pl / (2 * c)) (pl % (2 * c)) w a b → a < r → b < 2 * c → ¬ (k = 5 ∧ 0 ≤ pr (a * c + b / 2)) → ∀ σ2, zx σ σ2 [8] [10] → MF σ2 true (a * (2 * c) + b) (zs_T true s w) → Q 1 σ2)
    (h0 : (∀ a b, zs_tmv (pl / (2 * c)) (pl % (2 * c)) w a b → a < r → b < 2 * c → k = 5 ∧ 0 ≤ pr (a * c + b / 2)) → ∀ σ2, zx σ σ2 [8] [10] → Q 0 σ2) : zq8_goesTetra (nI w) σ Q := by
  unfold zq8_goesTetra
  have hrc := zs_rc hd.2.1 hd.2.2.2.1
  have h2rc : r * (2 * c) = 2 * (r * c) := by rw [Nat.mul_left_comm]
  have hdv := zs_div_lt (r := r) (c := 2 * c) (pl := pl) (by omega)
  have e2c : (2 : Int32) * nI c = nI (2 * c) := pk_mul 2 c
  have hcne : ¬ nI (2 * c) = 0 := nI_ne0 (by omega) (by omega)
  rw [hB.2.1, hF.1, e2c]
  intro x39 e39
  subst e39
  have hdiv : nI pl / nI (2 * c) = nI (pl / (2 * c)) := pk_div (by omega) (by omega) (by omega)
  have hrem : nI pl - nI pl / nI (2 * c) * nI (2 * c) = nI (pl % (2 * c)) := pk_rem (by omega) (by omega) (by omega)
  rw [hrem, hdiv]
  refine ⟨hcne, fun x40 e40 => ⟨hcne, fun x41 e41 => ?_⟩⟩
  subst e40; subst e41
  generalize hrow : pl / (2 * c) = row at *
  generalize hcol : pl % (2 * c) = j at *
  have er : nI row + nI j - (nI row + nI j) / 2 * 2 = nI ((row + j) % 2) := by rw [nI_add]; exact zs_r2 (by omega)
  have er0 : nI ((row + j) % 2) = 0 ↔ (row + j) % 2 = 0 := nI_eq (b := 0) (by omega) (by decide)
  rw [er, er0]
  have w0 : nI w = 0 ↔ w = 0 := zn_w hw 0 (by decide)
  have w1 : nI w = 1 ↔ w = 1 := zn_w hw 1 (by decide)
  have w2 : nI w = 2 ↔ w = 2 := zn_w hw 2 (by decide)
  have w3 : nI w = 3 ↔ w = 3 := zn_w hw 3 (by decide)
  have no : (¬ ∃ a b, zs_tmv row j w a b) → Q 0 σ := fun h => h0 (fun a b hm => absurd ⟨a, b, hm⟩ h) σ zx.rf
  -- the end of all ways: a row and a place
  have fin : ∀ (v3 s0 s1 : Int32), (∀ a b, a < r → b < 2 * c → (v3 = nI a ∧ s1 + s0 = nI b ↔ zs_tmv row j w a b)) → zq8_goesTetra_101 (nI w) (nI (2 * c)) v3 s0 s1 σ Q := by
    intro v3 s0 s1 hv
    exact e8_goesTetra_101 hB hd hw hF hs (fun a b ha hb ea eb hn σ2 x y => h1 a b ((hv a b ha hb).mp ⟨ea, eb⟩) ha hb hn σ2 x y) (fun hh σ2 x => h0 (fun a b hm ha hb => by obtain ⟨ea, eb⟩ := (hv a b ha hb).mpr hm; exact hh a b ha hb ea eb) σ2 x)
  have z1 : (-1 : Int32) = nI 0 - nI 1 := by decide
  have k59 : (w = 0 → ¬ (row + j) % 2 = 0) → (w = 2 → (row + j) % 2 = 0) → zq8_goesTetra_59 (nI w) (nI (2 * c)) (nI row) (nI j) σ Q := by
    intro hw0 hw2
    unfold zq8_goesTetra_59 zq8_goesTetra_78
    rw [w0, w1, w2, w3]
    refine ⟨fun n0 => ⟨fun n2 x ex => ?_, fun y2 x ex => ?_⟩, fun y0 x ex => ?_⟩
    · rw [show nI row + 0 = nI row from nI_add row 0] at ex
      subst ex
      refine ⟨fun n1 => ⟨fun n3 => by omega, fun y3 => fin _ _ _ (fun a b ha hb => ?_)⟩, fun y1 => fin _ _ _ (fun a b ha hb => ?_)⟩
      · constructor
        · rintro ⟨ea, eb⟩
          have i1 : row = a := (nI_eq (by omega) (by omega)).mp ea
          rcases Nat.eq_zero_or_pos j with q | q
          · exfalso
            rw [q] at eb
            have : nI b = -1 := by rw [← eb]; decide
            exact zn_nm1 (by omega) this
          · have e9 : nI j + -1 = nI (j - 1) := sb_m1 q
            rw [e9] at eb
            have i2 : j - 1 = b := (nI_eq (by omega) (by omega)).mp eb
            exact Or.inr (Or.inr (Or.inr ⟨y3, i1.symm, by omega⟩))
        · rintro (⟨z, _⟩ | ⟨z, _⟩ | ⟨z, _⟩ | ⟨z, i1, i2⟩)
          · omega
          · omega
          · omega
          · have e9 : nI j + -1 = nI (j - 1) := sb_m1 (by omega)
            refine ⟨by rw [i1], ?_⟩
            rw [e9, show j - 1 = b from by omega]
      · constructor
        · rintro ⟨ea, eb⟩
          have i1 : row = a := (nI_eq (by omega) (by omega)).mp ea
          have i2 : j + 1 = b := (nI_eq (by omega) (by omega)).mp ((nI_1 j).symm.trans eb)
          exact Or.inr (Or.inl ⟨y1, i1.symm, i2.symm⟩)
        · rintro (⟨z, _⟩ | ⟨z, i1, i2⟩ | ⟨z, _⟩ | ⟨z, _⟩)
          · omega
          · exact ⟨by rw [i1], by rw [i2]; exact nI_1 j⟩
          · omega
          · omega
    · rw [show nI row + 1 = nI (row + 1) from nI_1 row] at ex
      subst ex
      refine ⟨fun n1 => ⟨fun n3 => fin _ _ _ (fun a b ha hb => ?_), fun y3 => by omega⟩, fun y1 => by omega⟩
      constructor
      · rintro ⟨ea, eb⟩
        have i1 : row + 1 = a := (nI_eq (by omega) (by omega)).mp ea
        have i2 : j = b := (nI_eq (by omega) (by omega)).mp ((nI_add j 0).symm.trans eb)
        exact Or.inr (Or.inr (Or.inl ⟨y2, hw2 y2, i1.symm, i2.symm⟩))
      · rintro (⟨z, _⟩ | ⟨z, _⟩ | ⟨z, _, i1, i2⟩ | ⟨z, _⟩)
        · omega
        · omega
        · exact ⟨by rw [i1], by rw [i2]; exact nI_add j 0⟩
        · omega
    · refine ⟨fun n1 => ⟨fun n3 => fin _ _ _ (fun a b ha hb => ?_), fun y3 => by omega⟩, fun y1 => by omega⟩
      constructor
      · rintro ⟨ea, eb⟩
        have i2 : j = b := (nI_eq (by omega) (by omega)).mp ((nI_add j 0).symm.trans eb)
        rcases Nat.eq_zero_or_pos row with q | q
        · exfalso
          rw [ex, q] at ea
          have : nI a = -1 := by rw [← ea]; decide
          exact zn_nm1 (by omega) this
        · have e9 : nI row + -1 = nI (row - 1) := sb_m1 q
          rw [ex, e9] at ea
          have i1 : row - 1 = a := (nI_eq (by omega) (by omega)).mp ea
          exact Or.inl ⟨y0, hw0 y0, by omega, i2.symm⟩
      · rintro (⟨z, _, i1, i2⟩ | ⟨z, _⟩ | ⟨z, _⟩ | ⟨z, _⟩)
        · have e9 : nI row + -1 = nI (row - 1) := sb_m1 (by omega)
          refine ⟨?_, by rw [i2]; exact nI_add j 0⟩
          rw [ex, e9, show row - 1 = a from by omega]
        · omega
        · omega
        · omega
  have k36 : ∀ u : Nat, (u = if (row + j) % 2 = 0 then 1 else 0) → zq8_goesTetra_36 (nI w) (nI (2 * c)) (nI row) (nI j) (nI u) σ Q := by
    intro u eu
    have hu1 : u ≤ 1 := by rw [eu]; split <;> omega
    have u0 : nI u = 0 ↔ u = 0 := nI_eq (b := 0) (by omega) (by decide)
    have uu : u = 0 ↔ ¬ (row + j) % 2 = 0 := by
      rw [eu]; split <;> omega
    have k47 : (w = 0 → ¬ (row + j) % 2 = 0) → zq8_goesTetra_47 (nI w) (nI (2 * c)) (nI row) (nI j) (nI u) σ Q := by
      intro hw0
      unfold zq8_goesTetra_47
      rw [w2, u0]
      refine ⟨fun n2 => k59 hw0 (fun z => absurd z n2), fun y2 => ⟨fun nu => k59 hw0 (fun _ => by omega), fun y => no ?_⟩⟩
      rintro ⟨a, b, ⟨z, _⟩ | ⟨z, _⟩ | ⟨z, y3, _⟩ | ⟨z, _⟩⟩ <;> omega
    unfold zq8_goesTetra_36
    rw [w0, u0]
    refine ⟨fun n0 => k47 (fun z => absurd z n0), fun y0 => ⟨fun nu => no ?_, fun yu => k47 (fun _ => uu.mp yu)⟩⟩
    rintro ⟨a, b, ⟨z, y3, _⟩ | ⟨z, _⟩ | ⟨z, _⟩ | ⟨z, _⟩⟩ <;> omega
  refine ⟨fun q => k36 0 (by rw [if_neg q]), fun q => k36 1 (by rw [if_pos q])⟩
end M6
