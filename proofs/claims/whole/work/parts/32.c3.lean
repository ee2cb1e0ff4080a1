section C3
variable {σ : zz_St} {r c k : Nat} {tl pr : Nat → Int32} {Q : Int32 → Prop}
theorem e6_rolledTetra_112 (hB : CB σ r c k tl pr) (hT : CT σ) (hd : zs_dim r c k) {pl s w : Nat} (hw : w < 4) (hs : s < 8) (hp : pl < 100) {v5 s0 s1 : Int32}
    (ha : (∃ a, a < 100 ∧ v5 = nI a) ∨ v5 < 0) (hb : (∃ b, b < 100 ∧ s1 + s0 = nI b) ∨ s1 + s0 < 0)
    (h1 : ∀ a b, a < 100 → b < 100 → v5 = nI a → s1 + s0 = nI b → Q (zs_code (zs_tfin r c k tl pr a b (zs_T true s w)))) (h0 : (∀ a b, a < 100 → b < 100 → v5 = nI a → s1 + s0 = nI b → zs_tfin r c k tl pr a b (zs_T true s w) = none) → Q (-1)) : zq6_rolledTetra_112 (nI (24 * pl + s)) (nI w) (nI (2 * c)) v5 s0 s1 σ Q := by
  unfold zq6_rolledTetra_112
  have hrc := zs_rc hd.2.1 hd.2.2.2.1
  intro x ex
  rw [← ex] at hb h1 h0
  clear ex
  have neg : ∀ {x : Int32}, x < 0 → ∀ a, a < 100 → ¬ x = nI a := fun hx a hl e => nI_pos (by omega) (e ▸ hx)
  rw [hB.1, hB.2.1, hB.2.2.1]
  refine ⟨fun q => h0 (fun a b xa _ ea _ => absurd ea (neg q a xa)), fun q5 => ?_⟩
  obtain ⟨a, xa, ea⟩ : ∃ a, a < 100 ∧ v5 = nI a := by
    rcases ha with z | z
    · exact z
    · exact absurd z q5
  subst ea
  have inja : ∀ a', a' < 100 → nI a = nI a' → a = a' := fun a' y e => (nI_eq (by omega) (by omega)).mp e
  have cr : nI r ≤ nI a ↔ r ≤ a := nI_leI (by omega) (by omega)
  rw [cr]
  refine ⟨fun q => h0 (fun a' b xa' _ ea' _ => ?_), fun qr => ⟨fun q => h0 (fun a' b _ xb _ eb => absurd eb (neg q b xb)), fun q0 => ?_⟩⟩
  · rw [zs_tfin, if_neg]
    intro z
    have := inja a' xa' ea'
    omega
  obtain ⟨b, xb, eb⟩ : ∃ b, b < 100 ∧ x = nI b := by
    rcases hb with z | z
    · exact z
    · exact absurd z q0
  subst eb
  have injb : ∀ b', b' < 100 → nI b = nI b' → b = b' := fun b' y e => (nI_eq (by omega) (by omega)).mp e
  have cc : nI b < nI (2 * c) ↔ b < 2 * c := nI_ltI (by omega) (by omega)
  rw [cc]
  have none' : (zs_tfin r c k tl pr a b (zs_T true s w) = none) → Q (-1) := fun hn => h0 (fun a' b' ya yb ea eb => by
    have i1 := inja a' ya ea
    have i2 := injb b' yb eb
    subst i1; subst i2
    exact hn)
  have some' := h1 a b xa xb rfl rfl
  refine ⟨fun qc y ey => ?_, fun qc => none' (by rw [zs_tfin, if_neg]; exact fun z => qc z.2.1)⟩
  have et : y = nI (a * c + b / 2) := by rw [ey, pk_mul, zs_2 (by omega), nI_add]
  have hlt : a * c + b / 2 < 36 := by
    have := zs_cell (c := c) (row := a) (show a < r by omega) (show b / 2 < c by omega)
    omega
  subst et
  have hcell := zs_cell (c := 2 * c) (row := a) (show a < r by omega) qc
  have h2rc : r * (2 * c) = 2 * (r * c) := by rw [Nat.mul_left_comm]
  have end' : (¬ tl (a * c + b / 2) = 1) → (¬ (k = 5 ∧ ¬ pr (a * c + b / 2) = -1)) → zq6_rolledTetra_188 (nI (24 * pl + s)) (nI w) (nI (2 * c)) (nI a) (nI b) σ Q := by
    intro ht h5
    unfold zq6_rolledTetra_188
    rw [zs_rem24 (by omega), show (24 * pl + s) % 24 = s from by omega]
    refine e5_turnedTo1 hT hs hw ?_
    rw [zs_tfin, if_pos ⟨by omega, qc, ht, h5⟩] at some'
    have e : (nI a * nI (2 * c) + nI b) * 24 + nI (zs_T true s w) = nI (24 * (a * (2 * c) + b) + zs_T true s w) := by
      rw [pk_mul, nI_add, show nI (a * (2 * c) + b) * 24 = nI ((a * (2 * c) + b) * 24) from pk_mul _ 24, nI_add, Nat.mul_comm (a * (2 * c) + b) 24]
    rw [e]
    exact some'
  refine e6_bears hB hlt (wk := False) (Or.inl ⟨rfl, fun z => z⟩) (fun hb1 => ?_) (fun hb0 => ?_)
  · have ht : ¬ tl (a * c + b / 2) = 1 := fun z => hb1 (Or.inl z)
    refine ⟨fun q => absurd q (by decide), fun _ => ?_⟩
    have ek5 : nI k = 5 ↔ k = 5 := nI_eq (b := 5) (by have := hd.2.2.2.2; omega) (by decide)
    have ecl : (nI (a * c + b / 2)).toNatClampNeg = a * c + b / 2 := nI_clamp (by omega)
    rw [ek5, hB.2.2.2.2, ecl]
    refine ⟨fun n5 => end' ht (fun z => n5 z.1), fun y5 => ⟨vp_in_nI hlt (by decide), fun z => end' ht (fun y => y.2 z), fun z => none' ?_⟩⟩
    rw [zs_tfin, if_neg]
    exact fun y => y.2.2.2 ⟨y5, z⟩
  · refine ⟨fun _ => none' ?_, fun q => absurd rfl q⟩
    rw [zs_tfin, if_neg]
    intro y
    rcases hb0 with z | z
    · exact y.2.2.1 z
    · exact z.2
theorem e6_rolledTetra (hB : CB σ r c k tl pr) (hT : CT σ) (hd : zs_dim r c k) {pl s w : Nat} (hw : w < 4) (hs : s < 8) (hp : pl < 2 * (r * c)) (h : Q (zs_code (zs_tt r c k tl pr pl s w))) : zq6_rolledTetra (nI (24 * pl + s)) (nI w) σ Q := by
  unfold zq6_rolledTetra
  have hrc := zs_rc hd.2.1 hd.2.2.2.1
  have h2rc : r * (2 * c) = 2 * (r * c) := by rw [Nat.mul_left_comm]
  have hdv := zs_div_lt (r := r) (c := 2 * c) (pl := pl) (by omega)
  rw [hB.2.1, zs_div24 (by omega), show (24 * pl + s) / 24 = pl from by omega]
  intro x46 e46 x47 e47
  subst e46
  rw [show (2 : Int32) * nI c = nI (2 * c) from pk_mul 2 c] at e47
  subst e47
  refine e6_rowOf (by omega) (by omega) (by omega) (fun x49 e49 => ?_)
  have hda := zs_divadd pl (2 * c)
  have e49' : x49 = nI (pl % (2 * c)) := by
    rw [e49, pk_mul, pk_sub (by omega)]
    congr 1
    omega
  subst e49'
  have hlow : (∀ a b, a < 100 → b < 100 → zs_tmv (pl / (2 * c)) (pl % (2 * c)) w a b → zs_tfin r c k tl pr a b (zs_T true s w) = none) → Q (-1) := by
    intro hn
    have : zs_tt r c k tl pr pl s w = none := by
      refine zs_tt_no hw (fun a b hm => hn a b ?_ ?_ hm)
      · rcases hm with ⟨_, _, i1, i2⟩ | ⟨_, i1, i2⟩ | ⟨_, _, i1, i2⟩ | ⟨_, i1, i2⟩ <;> omega
      · rcases hm with ⟨_, _, i1, i2⟩ | ⟨_, i1, i2⟩ | ⟨_, _, i1, i2⟩ | ⟨_, i1, i2⟩ <;> omega
    rw [this] at h
    exact h
  have hmv : ∀ a b, zs_tmv (pl / (2 * c)) (pl % (2 * c)) w a b → Q (zs_code (zs_tfin r c k tl pr a b (zs_T true s w))) := fun a b hm => by rw [← zs_tt_mv hm]; exact h
  generalize pl / (2 * c) = row at *
  generalize pl % (2 * c) = j at *
  have er : nI row + nI j - (nI row + nI j) / 2 * 2 = nI ((row + j) % 2) := by rw [nI_add]; exact zs_r2 (by omega)
  have er0 : nI ((row + j) % 2) = 0 ↔ (row + j) % 2 = 0 := nI_eq (b := 0) (by omega) (by decide)
  rw [er, er0]
  have w0 : nI w = 0 ↔ w = 0 := zn_w hw 0 (by decide)
  have w1 : nI w = 1 ↔ w = 1 := zn_w hw 1 (by decide)
  have w2 : nI w = 2 ↔ w = 2 := zn_w hw 2 (by decide)
  have w3 : nI w = 3 ↔ w = 3 := zn_w hw 3 (by decide)
  have no : (¬ ∃ a b, zs_tmv row j w a b) → Q (-1) := fun hh => hlow (fun a b _ _ hm => absurd ⟨a, b, hm⟩ hh)
  have fin : ∀ (v5 s0 s1 : Int32), ((∃ a, a < 100 ∧ v5 = nI a) ∨ v5 < 0) → ((∃ b, b < 100 ∧ s1 + s0 = nI b) ∨ s1 + s0 < 0) → (∀ a b, a < 100 → b < 100 → (v5 = nI a ∧ s1 + s0 = nI b ↔ zs_tmv row j w a b)) → zq6_rolledTetra_112 (nI (24 * pl + s)) (nI w) (nI (2 * c)) v5 s0 s1 σ Q := by
    intro v5 s0 s1 ha hb hv
    exact e6_rolledTetra_112 hB hT hd hw hs (by omega) ha hb (fun a b xa xb ea eb => hmv a b ((hv a b xa xb).mp ⟨ea, eb⟩)) (fun hn => hlow (fun a b xa xb hm => by obtain ⟨ea, eb⟩ := (hv a b xa xb).mpr hm; exact hn a b xa xb ea eb))
  have pos : ∀ z : Nat, z < 100 → ∀ y : Int32, y = nI z → (∃ a, a < 100 ∧ y = nI a) ∨ y < 0 := fun z hz y e => Or.inl ⟨z, hz, e⟩
  have inj : ∀ a b : Nat, a < 100 → b < 100 → (nI a = nI b ↔ a = b) := fun a b ha hb => nI_eq (by omega) (by omega)
  have dec : ∀ x : Nat, x < 100 → ((∃ a, a < 100 ∧ nI x + -1 = nI a) ∨ nI x + -1 < 0) ∧ ∀ a, a < 100 → (nI x + -1 = nI a ↔ a + 1 = x) := by
    intro x hx
    rcases Nat.eq_zero_or_pos x with q | q
    · subst q
      have e : nI 0 + -1 = -1 := by decide
      rw [e]
      refine ⟨Or.inr (by decide), fun a ha => ⟨fun z => absurd z.symm (zn_nm1 (by omega)), fun z => by omega⟩⟩
    · have e : nI x + -1 = nI (x - 1) := sb_m1 q
      rw [e]
      refine ⟨Or.inl ⟨x - 1, by omega, rfl⟩, fun a ha => ?_⟩
      rw [inj (x - 1) a (by omega) ha]
      omega
  have a0 : ∀ x : Nat, nI x + 0 = nI x := fun x => nI_add x 0
  have a1 : ∀ x : Nat, nI x + 1 = nI (x + 1) := nI_1
  have k68 : (w = 0 → ¬ (row + j) % 2 = 0) → (w = 2 → (row + j) % 2 = 0) → zq6_rolledTetra_68 (nI (24 * pl + s)) (nI w) (nI (2 * c)) (nI row) (nI j) σ Q := by
    intro hw0 hw2
    unfold zq6_rolledTetra_68 zq6_rolledTetra_88
    rw [w0, w1, w2, w3]
    refine ⟨fun n2 => ⟨fun n0 x ex => ?_, fun y0 x ex => ?_⟩, fun y2 x ex => ?_⟩
    · rw [a0] at ex
      subst ex
      refine ⟨fun n1 => ⟨fun n3 => by omega, fun y3 => fin _ _ _ (pos row (by omega) _ rfl) (dec j (by omega)).1 (fun a b xa xb => ?_)⟩, fun y1 => fin _ _ _ (pos row (by omega) _ rfl) (pos (j + 1) (by omega) _ (a1 j)) (fun a b xa xb => ?_)⟩
      · rw [inj row a (by omega) xa, (dec j (by omega)).2 b xb]
        unfold zs_tmv
        omega
      · rw [inj row a (by omega) xa, a1, inj (j + 1) b (by omega) xb]
        unfold zs_tmv
        omega
    · subst ex
      refine ⟨fun n1 => ⟨fun n3 => fin _ _ _ (dec row (by omega)).1 (pos j (by omega) _ (a0 j)) (fun a b xa xb => ?_), fun y3 => by omega⟩, fun y1 => by omega⟩
      rw [(dec row (by omega)).2 a xa, a0, inj j b (by omega) xb]
      have := hw0 y0
      unfold zs_tmv
      omega
    · rw [a1] at ex
      subst ex
      refine ⟨fun n1 => ⟨fun n3 => fin _ _ _ (pos (row + 1) (by omega) _ rfl) (pos j (by omega) _ (a0 j)) (fun a b xa xb => ?_), fun y3 => by omega⟩, fun y1 => by omega⟩
      rw [inj (row + 1) a (by omega) xa, a0, inj j b (by omega) xb]
      have := hw2 y2
      unfold zs_tmv
      omega
  have k45 : ∀ u : Nat, (u = if (row + j) % 2 = 0 then 1 else 0) → zq6_rolledTetra_45 (nI (24 * pl + s)) (nI w) (nI (2 * c)) (nI row) (nI j) (nI u) σ Q := by
    intro u eu
    have hu1 : u ≤ 1 := by rw [eu]; split <;> omega
    have u0 : nI u = 0 ↔ u = 0 := nI_eq (b := 0) (by omega) (by decide)
    have uu : u = 0 ↔ ¬ (row + j) % 2 = 0 := by
      rw [eu]; split <;> omega
    have k56 : (w = 0 → ¬ (row + j) % 2 = 0) → zq6_rolledTetra_56 (nI (24 * pl + s)) (nI w) (nI (2 * c)) (nI row) (nI j) (nI u) σ Q := by
      intro hw0
      unfold zq6_rolledTetra_56
      rw [w2, u0]
      refine ⟨fun n2 => k68 hw0 (fun z => absurd z n2), fun y2 => ⟨fun nu => k68 hw0 (fun _ => by omega), fun y => no ?_⟩⟩
      rintro ⟨a, b, ⟨z, _⟩ | ⟨z, _⟩ | ⟨z, y3, _⟩ | ⟨z, _⟩⟩ <;> omega
    unfold zq6_rolledTetra_45
    rw [w0, u0]
    refine ⟨fun n0 => k56 (fun z => absurd z n0), fun y0 => ⟨fun nu => no ?_, fun yu => k56 (fun _ => uu.mp yu)⟩⟩
    rintro ⟨a, b, ⟨z, y3, _⟩ | ⟨z, _⟩ | ⟨z, _⟩ | ⟨z, _⟩⟩ <;> omega
  refine ⟨fun q => k45 0 (by rw [if_neg q]), fun q => k45 1 (by rw [if_pos q])⟩
/-- the class's roll, in numbers -/
theorem e6_rolled (hB : CB σ r c k tl pr) (hT : CT σ) (hd : zs_dim r c k) {pl s w : Nat} (hw : w < 4) (hs : s < zs_ns (zs_te k)) (hp : pl < zs_np r c k) (h : Q (zs_code (zs_roll r c k tl pr pl s w))) : zq6_rolled (nI (24 * pl + s)) (nI w) σ Q := by
  by_cases hk : 4 ≤ k
  · rw [show zs_te k = true from decide_eq_true hk] at hs
    rw [zs_np, if_pos hk] at hp
    rw [zs_roll, if_pos hk] at h
    unfold zq6_rolled
    rw [hB.2.2.1]
    refine e7_isTetra hd.2.2.2.2 (fun _ => ⟨fun q => absurd q (by decide), fun _ => ?_⟩) (fun q => absurd hk q)
    exact e6_rolledTetra hB hT hd hw hs hp h
  · rw [show zs_te k = false from decide_eq_false hk] at hs
    rw [zs_np, if_neg hk] at hp
    rw [zs_roll, if_neg hk] at h
    exact e6_rolled_sq hB hT hd hk hw hs hp h
end C3
