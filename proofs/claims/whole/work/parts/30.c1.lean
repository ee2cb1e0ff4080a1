/-! the class: its tables, its board, the roll -/
def CT (σ : zz_St) : Prop := (σ.1 16 = 6 ∧ σ.1 17 = 4 ∧ σ.1 18 = 1 ∧ σ.1 19 = 0) ∧ (∀ i, i < 144 → σ.2.1 28 i = nI (zs_CF.getD i 0)) ∧ (∀ i, i < 96 → σ.2.1 29 i = nI (zs_TF.getD i 0)) ∧ (∀ i, i < 144 → σ.2.1 30 i = nI (zs_CP.getD i 0)) ∧ (∀ i, i < 96 → σ.2.1 31 i = nI (zs_TP.getD i 0)) ∧ (∀ i, i < 96 → σ.2.1 32 i = nI (zs_CT.getD i 0)) ∧ (∀ i, i < 96 → σ.2.1 33 i = nI (zs_TT.getD i 0))
def CB (σ : zz_St) (r c k : Nat) (tl pr : Nat → Int32) : Prop := σ.1 2 = nI r ∧ σ.1 4 = nI c ∧ σ.1 6 = nI k ∧ σ.2.1 14 = tl ∧ σ.2.1 16 = pr
def zs_code (q : Option (Nat × Nat)) : Int32 := match q with
  | some q => nI (24 * q.1 + q.2)
  | none => -1
def zs_bel (te : Bool) (s : Nat) : Nat := if te then zs_FA true s 0 else zs_FA false s 1
theorem zs_div24 {x : Nat} (h : x < 2 ^ 31) : nI x / 24 = nI (x / 24) := pk_div (d := 24) h (by decide) (by decide)
theorem zs_rem24 {x : Nat} (h : x < 2 ^ 31) : nI x - nI x / 24 * 24 = nI (x % 24) := pk_rem (d := 24) h (by decide) (by decide)
section C1
variable {σ : zz_St} {r c k : Nat} {tl pr : Nat → Int32} {Q : Int32 → Prop}
theorem e7_isBlock (hk : k < 6) (h1 : k = 2 ∨ k = 3 → Q 1) (h0 : ¬ (k = 2 ∨ k = 3) → Q 0) : zq7_isBlock (nI k) Q := by
  unfold zq7_isBlock
  have e2 : nI k = 2 ↔ k = 2 := nI_eq (b := 2) (by omega) (by decide)
  have e3 : nI k = 3 ↔ k = 3 := nI_eq (b := 3) (by omega) (by decide)
  rw [e2, e3]
  exact ⟨fun q => h1 (Or.inl q), fun q => ⟨fun q3 => h0 (fun z => z.elim q q3), fun q3 => h1 (Or.inr q3)⟩⟩
theorem e7_isTetra (hk : k < 6) (h1 : 4 ≤ k → Q 1) (h0 : ¬ 4 ≤ k → Q 0) : zq7_isTetra (nI k) Q := by
  unfold zq7_isTetra
  have e4 : nI k = 4 ↔ k = 4 := nI_eq (b := 4) (by omega) (by decide)
  have e5 : nI k = 5 ↔ k = 5 := nI_eq (b := 5) (by omega) (by decide)
  rw [e4, e5]
  exact ⟨fun q => h1 (by omega), fun q => ⟨fun q5 => h0 (by omega), fun q5 => h1 (by omega)⟩⟩
theorem e5_turnedTo0 (hT : CT σ) {s w : Nat} (hs : s < 24) (hw : w < 4) (h : Q (nI (zs_T false s w))) : zq5_turnedTo (nI s) (nI w) 0 σ Q := by
  unfold zq5_turnedTo
  have e : nI s * 4 + nI w = nI (4 * s + w) := by
    rw [show nI s * 4 = nI (s * 4) from pk_mul s 4, nI_add, Nat.mul_comm]
  rw [e, show (nI (4 * s + w)).toNatClampNeg = 4 * s + w from nI_clamp (by omega)]
  refine ⟨vp_in_nI (by omega) (by decide), ?_⟩
  have h2 := hT.2.2.2.2.2.1 (4 * s + w) (by omega)
  show Q (σ.2.1 32 (4 * s + w))
  rw [h2]
  exact h
theorem e5_turnedTo1 (hT : CT σ) {s w : Nat} (hs : s < 8) (hw : w < 4) (h : Q (nI (zs_T true s w))) : zq5_turnedTo (nI s) (nI w) 1 σ Q := by
  unfold zq5_turnedTo
  have e : nI s * 4 + nI w = nI (4 * s + w) := by
    rw [show nI s * 4 = nI (s * 4) from pk_mul s 4, nI_add, Nat.mul_comm]
  rw [e, show (nI (4 * s + w)).toNatClampNeg = 4 * s + w from nI_clamp (by omega)]
  refine ⟨vp_in_nI (by omega) (by decide), ?_⟩
  have h2 := hT.2.2.2.2.2.2 (4 * s + w) (by omega)
  show Q (σ.2.1 33 (4 * s + w))
  rw [h2]
  exact h
theorem e5_positionOf0 (hT : CT σ) {s i : Nat} (hs : s < 24) (hi : i < 6) (h : Q (nI (zs_CP.getD (6 * s + i) 0))) : zq5_positionOf (nI s) (nI i) 0 σ Q := by
  unfold zq5_positionOf
  have e6 : σ.1 (16 + 0) = 6 := hT.1.1
  have e : nI s * 6 + nI i = nI (6 * s + i) := by
    rw [show nI s * 6 = nI (s * 6) from pk_mul s 6, nI_add, Nat.mul_comm]
  rw [e6, e, show (nI (6 * s + i)).toNatClampNeg = 6 * s + i from nI_clamp (by omega)]
  refine ⟨vp_in_nI (by omega) (by decide), ?_⟩
  have h2 := hT.2.2.2.1 (6 * s + i) (by omega)
  show Q (σ.2.1 30 (6 * s + i))
  rw [h2]
  exact h
theorem zs_CP_lt : ∀ s, s < 24 → zs_CP.getD (6 * s) 0 < 6 := by decide +kernel
theorem e6_lie (hB : CB σ r c k tl pr) (hT : CT σ) (hk : k < 6) {s : Nat} (hs : s < 24) (h : Q (nI (zs_lie k s))) : zq6_lie (nI s) σ Q := by
  unfold zq6_lie
  rw [hB.2.2.1]
  refine e7_isBlock hk (fun hb => ?_) (fun hb => ?_)
  · refine ⟨fun _ => e5_positionOf0 hT hs (i := 0) (by decide) ?_, fun q => absurd q (by decide)⟩
    rw [show zs_lie k s = zs_LC s from if_pos hb] at h
    unfold zs_LC at h
    have hlt := zs_CP_lt s hs
    rw [Nat.add_zero]
    generalize zs_CP.getD (6 * s) 0 = z at *
    have e2 : nI z = 2 ↔ z = 2 := nI_eq (b := 2) (by omega) (by decide)
    have e3 : nI z = 3 ↔ z = 3 := nI_eq (b := 3) (by omega) (by decide)
    have e4 : nI z = 4 ↔ z = 4 := nI_eq (b := 4) (by omega) (by decide)
    have e5 : nI z = 5 ↔ z = 5 := nI_eq (b := 5) (by omega) (by decide)
    rw [e2, e3, e4, e5]
    refine ⟨fun q => ?_, fun q2 => ⟨fun q => ?_, fun q3 => ⟨fun q => ?_, fun q4 => ⟨fun q => ?_, fun q5 => ?_⟩⟩⟩⟩
    · rw [if_neg (by omega), if_pos (by omega)] at h; exact h
    · rw [if_pos (by omega)] at h; exact h
    · rw [if_neg (by omega), if_pos (by omega)] at h; exact h
    · rw [if_pos (by omega)] at h; exact h
    · rw [if_neg (by omega), if_neg (by omega)] at h; exact h
  · refine ⟨fun q => absurd rfl q, fun _ => ?_⟩
    rw [zs_lie_no hb] at h
    exact h
theorem e6_bears (hB : CB σ r c k tl pr) {t : Nat} (ht : t < 36) {v : Int32} {wk : Prop} (hw : (v = 0 ∧ ¬ wk) ∨ (v = 1 ∧ wk)) (h1 : ¬ (tl t = 1 ∨ (tl t = 2 ∧ wk)) → Q 1) (h0 : tl t = 1 ∨ (tl t = 2 ∧ wk) → Q 0) : zq6_bears (nI t) v σ Q := by
  unfold zq6_bears
  have hc : (nI t).toNatClampNeg = t := nI_clamp (by omega)
  have v1 := vp_in_nI (N := 36) ht (by decide)
  rw [hB.2.2.2.1, hc]
  refine ⟨v1, fun q => h0 (Or.inl q), fun q => ⟨fun q0 => h1 ?_, fun q0 => ⟨v1, fun q2 => h0 (Or.inr ⟨q2, ?_⟩), fun q2 => h1 ?_⟩⟩⟩
  · rintro (z | z)
    · exact q z
    · rcases hw with y | y
      · exact y.2 z.2
      · rw [y.1] at q0; exact absurd q0 (by decide)
  · rcases hw with y | y
    · exact absurd y.1 q0
    · exact y.2
  · rintro (z | z)
    · exact q z
    · exact q2 z.1
theorem e6_mayLie (hB : CB σ r c k tl pr) (hd : zs_dim r c k) {v1 v2 : Int32} {l : Nat} (hl : l < 3) (ha : (∃ a, a < 100 ∧ v1 = nI a) ∨ v1 < 0) (hb : (∃ b, b < 100 ∧ v2 = nI b) ∨ v2 < 0)
    (h1 : ∀ a b, v1 = nI a → v2 = nI b → zs_may r c k tl a b l → Q 1) (h0 : (∀ a b, a < 100 → b < 100 → v1 = nI a → v2 = nI b → ¬ zs_may r c k tl a b l) → Q 0) : zq6_mayLie v1 v2 (nI l) σ Q := by
  have hrc := zs_rc hd.2.1 hd.2.2.2.1
  have e1 : nI l = 1 ↔ l = 1 := nI_eq (b := 1) (by omega) (by decide)
  have e2 : nI l = 2 ↔ l = 2 := nI_eq (b := 2) (by omega) (by decide)
  have e0 : nI l = 0 ↔ l = 0 := nI_eq (b := 0) (by omega) (by decide)
  have ek1 : nI k = 1 ↔ k = 1 := nI_eq (b := 1) (by have := hd.2.2.2.2; omega) (by decide)
  have ek3 : nI k = 3 ↔ k = 3 := nI_eq (b := 3) (by have := hd.2.2.2.2; omega) (by decide)
  have neg : ∀ {x : Int32}, x < 0 → ∀ a, a < 100 → ¬ x = nI a := fun hx a hl e => nI_pos (by omega) (e ▸ hx)
  have key : ∀ v4 s0 : Int32, (∀ a, a < 100 → v1 = nI a → v4 = nI (if l = 2 then a + 1 else a)) → (∀ b, b < 100 → v2 = nI b → s0 = nI (if l = 1 then b + 1 else b)) → zq6_mayLie_26 v1 v2 (nI l) v4 s0 σ Q := by
    intro v4 s0 g4 g0
    unfold zq6_mayLie_26
    rw [hB.1, hB.2.1, hB.2.2.1]
    refine ⟨fun q => h0 (fun a b xa xb ea eb => absurd ea (neg q a xa)), fun q => ?_⟩
    obtain ⟨a, ha1, ea⟩ : ∃ a, a < 100 ∧ v1 = nI a := by
      rcases ha with z | z
      · exact z
      · exact absurd z q
    have e4 := g4 a ha1 ea
    have inja : ∀ a', a' < 100 → v1 = nI a' → a' = a := fun a' y e => ((nI_eq (by omega) (by omega)).mp (ea.symm.trans e)).symm
    have c4 : nI r ≤ v4 ↔ r ≤ (if l = 2 then a + 1 else a) := by rw [e4]; exact nI_leI (by omega) (by split <;> omega)
    rw [c4]
    refine ⟨fun q4 => h0 (fun a' b xa xb ea' eb hm => ?_), fun q4 => ⟨fun q2 => h0 (fun a' b xa xb ea' eb => absurd eb (neg q2 b xb)), fun q2 => ?_⟩⟩
    · have := inja a' xa ea'
      subst this
      by_cases z : l = 2
      · rw [if_pos z] at q4; exact absurd (hm.1.2.2.2 z) (by omega)
      · rw [if_neg z] at q4; exact absurd hm.1.1 (by omega)
    obtain ⟨b, hb1, eb⟩ : ∃ b, b < 100 ∧ v2 = nI b := by
      rcases hb with z | z
      · exact z
      · exact absurd z q2
    have e5 := g0 b hb1 eb
    have injb : ∀ b', b' < 100 → v2 = nI b' → b' = b := fun b' y e => ((nI_eq (by omega) (by omega)).mp (eb.symm.trans e)).symm
    have c5 : s0 < nI c ↔ (if l = 1 then b + 1 else b) < c := by rw [e5]; exact nI_ltI (by split <;> omega) (by omega)
    rw [c5]
    refine ⟨fun q5 => ?_, fun q5 => h0 (fun a' b' xa xb ea' eb' hm => ?_)⟩
    rotate_left
    · have i1 := inja a' xa ea'
      have i2 := injb b' xb eb'
      subst i1; subst i2
      by_cases z : l = 1
      · rw [if_pos z] at q5; exact absurd (hm.1.2.2.1 z) q5
      · rw [if_neg z] at q5; exact absurd hm.1.2.1 q5
    have hon : zs_onB r c a b l := by
      refine ⟨?_, ?_, fun z => ?_, fun z => ?_⟩
      · split at q4 <;> omega
      · split at q5 <;> omega
      · rw [if_pos z] at q5; exact q5
      · rw [if_pos z] at q4; omega
    have hfst := zs_cell hon.1 hon.2.1
    have esnd : v4 * nI c + s0 = nI (zs_snd c l (a * c + b)) ∧ zs_snd c l (a * c + b) < r * c := by
      rw [e4, e5, pk_mul, nI_add]
      unfold zs_snd
      by_cases z1 : l = 1
      · rw [if_pos z1, if_pos z1, if_neg (by omega)]
        have := zs_cell hon.1 (hon.2.2.1 z1)
        exact ⟨by rw [Nat.add_assoc], by omega⟩
      · rw [if_neg z1, if_neg z1]
        by_cases z2 : l = 2
        · rw [if_pos z2, if_pos z2]
          have := zs_cell (hon.2.2.2 z2) hon.2.1
          rw [Nat.succ_mul] at this
          exact ⟨by rw [Nat.succ_mul]; congr 1; omega, by omega⟩
        · rw [if_neg z2, if_neg z2]
          exact ⟨rfl, hfst⟩
    have efst : v1 * nI c + v2 = nI (a * c + b) := by rw [ea, eb, pk_mul, nI_add]
    have fin : ∀ v : Int32, ((v = 0 ∧ ¬ zs_weak k l) ∨ (v = 1 ∧ zs_weak k l)) → zq6_mayLie_81 v1 v2 v4 s0 v σ Q := by
      intro v hv
      unfold zq6_mayLie_81
      rw [hB.2.1, efst, esnd.1]
      have hno : zs_bar k l (tl (a * c + b)) ∨ zs_bar k l (tl (zs_snd c l (a * c + b))) → Q 0 := fun hz => h0 (fun a' b' xa xb ea' eb' hm => by
        have i1 := inja a' xa ea'
        have i2 := injb b' xb eb'
        subst i1; subst i2
        rcases hz with z | z
        · exact hm.2.1 z
        · exact hm.2.2 z)
      refine e6_bears hB (by omega) hv (fun y => ?_) (fun y => ?_)
      · refine ⟨fun q => absurd q (by decide), fun _ => e6_bears hB (by omega) hv (fun y2 => ?_) (fun y2 => ?_)⟩
        · exact ⟨fun q => absurd q (by decide), fun _ => h1 a b ea eb ⟨hon, y, y2⟩⟩
        · exact ⟨fun _ => hno (Or.inr y2), fun q => absurd rfl q⟩
      · exact ⟨fun _ => hno (Or.inl y), fun q => absurd rfl q⟩
    unfold zq6_mayLie_76 zq6_mayLie_80
    rw [ek1, ek3, e0]
    refine ⟨fun z => fin 1 (Or.inr ⟨rfl, Or.inl z⟩), fun z => ⟨fun z3 => fin 0 (Or.inl ⟨rfl, ?_⟩), fun z3 => ⟨fun zl => fin 0 (Or.inl ⟨rfl, ?_⟩), fun zl => fin 1 (Or.inr ⟨rfl, Or.inr ⟨z3, zl⟩⟩)⟩⟩⟩
    · rintro (y | y)
      · exact z y
      · exact z3 y.1
    · rintro (y | y)
      · exact z y
      · exact y.2 zl
  unfold zq6_mayLie zq6_mayLie_12
  rw [e1, e2]
  refine ⟨fun n2 => ⟨fun n1 => key _ _ (fun a _ e => by rw [if_neg n2]; exact e) (fun b _ e => by rw [if_neg n1]; exact e), fun y1 => key _ _ (fun a _ e => by rw [if_neg n2]; exact e) (fun b _ e => by rw [if_pos y1, e]; exact nI_1 b)⟩, fun y2 => ⟨fun n1 => key _ _ (fun a _ e => by rw [if_pos y2, e]; exact nI_1 a) (fun b _ e => by rw [if_neg n1]; exact e), fun y1 => by omega⟩⟩
end C1
