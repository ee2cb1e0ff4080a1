/-! the two worlds side by side: the relation that every call keeps -/
def WR (r c k : Nat) (th pl ink st ink' : Int32) (fa tl pr tl' pr' : Nat → Int32) : Prop := zs_dim r c k ∧ (∀ i, i < 36 → tl i = tl' i) ∧ (∀ i, i < 36 → pr i = pr' i ∧ (pr i = -1 ∨ 0 ≤ pr i)) ∧ ink = ink' ∧ ((th = 0 ∧ st < 0) ∨ (th = 1 ∧ ∃ x, zs_V r c k x ∧ pl = nI (x / 24) ∧ (∀ i, i < 6 → fa i = nI (zs_FA (zs_te k) (x % 24) i)) ∧ st = nI x))
def HE (r c k : Nat) (σ τ : zz_St) (d nx : Nat) : Prop := ∀ j, j < d → ∃ x, zs_V r c k x ∧ σ.2.1 18 (64 * j) = nI (x / 24) ∧ (∀ i, i < 6 → σ.2.1 18 (64 * j + 1 + i) = nI (zs_FA (zs_te k) (x % 24) i)) ∧ τ.2.1 26 ((nx + 20 - d + j) % 20) = nI x ∧ ∀ t, t < 36 → σ.2.1 18 (64 * j + 7 + t) = τ.2.1 27 (36 * ((nx + 20 - d + j) % 20) + t) ∧ (σ.2.1 18 (64 * j + 7 + t) = -1 ∨ 0 ≤ σ.2.1 18 (64 * j + 7 + t))
def RH (r c k : Nat) (σ τ : zz_St) : Prop := ∃ d nx, d ≤ 20 ∧ nx < 20 ∧ σ.1 19 = nI d ∧ τ.1 15 = nI d ∧ τ.1 14 = nI nx ∧ (d = 0 ∨ σ.1 9 = 1) ∧ HE r c k σ τ d nx
def MD (σ : zz_St) (r c k : Nat) : Prop := σ.1 2 = nI r ∧ σ.1 3 = nI c ∧ σ.1 7 = nI k
def CD (τ : zz_St) (r c k : Nat) : Prop := τ.1 2 = nI r ∧ τ.1 4 = nI c ∧ τ.1 6 = nI k
def RW (r c k : Nat) (σ τ : zz_St) : Prop := WR r c k (σ.1 9) (σ.1 8) (σ.1 6) (τ.1 8) (τ.1 10) (σ.2.1 10) (σ.2.1 4) (σ.2.1 5) (τ.2.1 14) (τ.2.1 16)
def R0 (r c k : Nat) (σ τ : zz_St) : Prop := MD σ r c k ∧ CD τ r c k ∧ RW r c k σ τ ∧ RH r c k σ τ
def RLt (σ τ : zz_St) : Prop := ∃ n, n ≤ 72 ∧ σ.1 15 = nI n ∧ τ.1 12 = nI n ∧ ∀ i, i < n → σ.2.1 14 i = τ.2.1 18 i
def RS (σ τ : zz_St) : Prop := ∀ l, l < 3 → ((σ.2.1 36 l = -1 ∧ τ.1 (22 + l) = -1) ∨ ∃ n, n ≤ 40 ∧ σ.2.1 36 l = nI n ∧ τ.1 (22 + l) = nI n) ∧ ∀ i, i < 40 → σ.2.1 37 (40 * l + i) = τ.2.1 (34 + l) i
def RK (σ τ : zz_St) : Prop := ∀ l, l < 3 → ((σ.2.1 38 l = -1 ∧ τ.1 (28 + l) = -1) ∨ ∃ n, n ≤ 9 ∧ σ.2.1 38 l = nI n ∧ τ.1 (28 + l) = nI n) ∧ (∃ j, j < 6 ∧ σ.2.1 39 l = nI j ∧ τ.1 (25 + l) = nI j) ∧ ∀ i, i < 9 → σ.2.1 40 (9 * l + i) = τ.2.1 (37 + l) i ∧ (σ.2.1 40 (9 * l + i) = -1 ∨ (0 ≤ σ.2.1 40 (9 * l + i) ∧ σ.2.1 41 (9 * l + i) = τ.2.1 (40 + l) i))
def RF (σ τ : zz_St) : Prop := ∀ i, i < 7 → σ.2.1 1 i = τ.2.1 45 i
def RI (σ τ : zz_St) : Prop := σ.1 42 = τ.1 0 ∧ (σ.1 42 = 0 ∨ (σ.1 42 = 1 ∧ ∃ r c k, (σ.2.1 44 0 = nI r ∧ σ.2.1 44 1 = nI c ∧ σ.2.1 44 2 = nI k) ∧ (τ.1 3 = nI r ∧ τ.1 5 = nI c ∧ τ.1 7 = nI k) ∧ WR r c k (σ.1 43) (σ.2.1 44 3) (σ.2.1 44 4) (τ.1 9) (τ.1 11) (σ.2.1 45) (σ.2.1 46) (σ.2.1 47) (τ.2.1 15) (τ.2.1 17)))
def RE (σ τ : zz_St) : Prop := RLt σ τ ∧ RS σ τ ∧ RK σ τ ∧ RF σ τ ∧ RI σ τ ∧ CT τ
def Rel (σ τ : zz_St) : Prop := (∃ r c k, R0 r c k σ τ) ∧ RE σ τ
/-- as zx, but for the long rows -/
def zy (σ σ' : zz_St) (ks js : List Nat) : Prop := (∀ k, k ∉ ks → σ'.1 k = σ.1 k) ∧ ∀ j, j ∉ js → σ'.2.1 j = σ.2.1 j
theorem zx.y {σ σ' : zz_St} {ks js : List Nat} (h : zx σ σ' ks js) : zy σ σ' ks js := ⟨h.1, h.2.1⟩
theorem zy.rf {σ : zz_St} {ks js : List Nat} : zy σ σ ks js := ⟨fun _ _ => rfl, fun _ _ => rfl⟩
theorem zy.tr {a b c : zz_St} {ks js : List Nat} (h : zy a b ks js) (h2 : zy b c ks js) : zy a c ks js := ⟨fun k hk => (h2.1 k hk).trans (h.1 k hk), fun j hj => (h2.2 j hj).trans (h.2 j hj)⟩
theorem zy.mono {a b : zz_St} {ks js ks' js' : List Nat} (h : zy a b ks js) (hk : ∀ k ∈ ks, k ∈ ks') (hj : ∀ j ∈ js, j ∈ js') : zy a b ks' js' := ⟨fun k q => h.1 k (fun z => q (hk k z)), fun j q => h.2 j (fun z => q (hj j z))⟩
def zok (ks bad : List Nat) : Bool := ks.all (fun k => !bad.contains k)
theorem zok_no {ks bad : List Nat} (h : zok ks bad = true) {b : Nat} (hb : b ∈ bad) : b ∉ ks := by
  intro q
  have := List.all_eq_true.mp h b q
  simp [hb] at this
section REL
variable {σ σ' τ τ' : zz_St} {ks js ks' js' : List Nat}
theorem RLt.x (h : RLt σ τ) (hx : zy σ σ' ks js) (hy : zy τ τ' ks' js') (h2 : 15 ∉ ks ∧ 14 ∉ js ∧ 12 ∉ ks' ∧ 18 ∉ js') : RLt σ' τ' := by
  unfold RLt
  rw [hx.1 15 h2.1, hx.2 14 h2.2.1, hy.1 12 h2.2.2.1, hy.2 18 h2.2.2.2]
  exact h
theorem RS.x (h : RS σ τ) (hx : zy σ σ' ks js) (hy : zy τ τ' ks' js') (h2 : 36 ∉ js ∧ 37 ∉ js ∧ ∀ l, l < 3 → 22 + l ∉ ks' ∧ 34 + l ∉ js') : RS σ' τ' := by
  intro l hl
  rw [hx.2 36 h2.1, hx.2 37 h2.2.1, hy.1 _ (h2.2.2 l hl).1, hy.2 _ (h2.2.2 l hl).2]
  exact h l hl
theorem RK.x (h : RK σ τ) (hx : zy σ σ' ks js) (hy : zy τ τ' ks' js') (h2 : (38 ∉ js ∧ 39 ∉ js ∧ 40 ∉ js ∧ 41 ∉ js) ∧ ∀ l, l < 3 → 28 + l ∉ ks' ∧ 25 + l ∉ ks' ∧ 37 + l ∉ js' ∧ 40 + l ∉ js') : RK σ' τ' := by
  intro l hl
  obtain ⟨a1, a2, a3, a4⟩ := h2.2 l hl
  rw [hx.2 38 h2.1.1, hx.2 39 h2.1.2.1, hx.2 40 h2.1.2.2.1, hx.2 41 h2.1.2.2.2, hy.1 _ a1, hy.1 _ a2, hy.2 _ a3, hy.2 _ a4]
  exact h l hl
theorem RF.x (h : RF σ τ) (hx : zy σ σ' ks js) (hy : zy τ τ' ks' js') (h2 : 1 ∉ js ∧ 45 ∉ js') : RF σ' τ' := by
  intro i hi
  rw [hx.2 1 h2.1, hy.2 45 h2.2]
  exact h i hi
theorem RI.x (h : RI σ τ) (hx : zy σ σ' ks js) (hy : zy τ τ' ks' js') (h1 : 42 ∉ ks ∧ 43 ∉ ks ∧ 44 ∉ js ∧ 45 ∉ js ∧ 46 ∉ js ∧ 47 ∉ js) (h2 : 0 ∉ ks' ∧ 3 ∉ ks' ∧ 5 ∉ ks' ∧ 7 ∉ ks' ∧ 9 ∉ ks' ∧ 11 ∉ ks' ∧ 15 ∉ js' ∧ 17 ∉ js') : RI σ' τ' := by
  unfold RI
  obtain ⟨a1, a2, a3, a4, a5, a6⟩ := h1
  obtain ⟨b1, b2, b3, b4, b5, b6, b7, b8⟩ := h2
  rw [hx.1 42 a1, hx.1 43 a2, hx.2 44 a3, hx.2 45 a4, hx.2 46 a5, hx.2 47 a6, hy.1 0 b1, hy.1 3 b2, hy.1 5 b3, hy.1 7 b4, hy.1 9 b5, hy.1 11 b6, hy.2 15 b7, hy.2 17 b8]
  exact h
theorem CT.y (h : CT τ) (hx : zy τ τ' ks js) (h1 : 16 ∉ ks ∧ 17 ∉ ks ∧ 18 ∉ ks ∧ 19 ∉ ks) (h2 : 28 ∉ js ∧ 29 ∉ js ∧ 30 ∉ js ∧ 31 ∉ js ∧ 32 ∉ js ∧ 33 ∉ js) : CT τ' := by
  unfold CT
  rw [hx.1 16 h1.1, hx.1 17 h1.2.1, hx.1 18 h1.2.2.1, hx.1 19 h1.2.2.2, hx.2 28 h2.1, hx.2 29 h2.2.1, hx.2 30 h2.2.2.1, hx.2 31 h2.2.2.2.1, hx.2 32 h2.2.2.2.2.1, hx.2 33 h2.2.2.2.2.2]
  exact h
/-- what the rest of the relation looks at -/
abbrev okE (ks js ks' js' : List Nat) : Prop := (zok ks [15, 42, 43] = true ∧ zok js [14, 36, 37, 38, 39, 40, 41, 1, 44, 45, 46, 47] = true) ∧ zok ks' [12, 22, 23, 24, 25, 26, 27, 28, 29, 30, 0, 3, 5, 7, 9, 11, 16, 17, 18, 19] = true ∧ zok js' [18, 34, 35, 36, 37, 38, 39, 40, 41, 42, 45, 15, 17, 28, 29, 30, 31, 32, 33] = true
theorem RE.x (h : RE σ τ) (hx : zy σ σ' ks js) (hy : zy τ τ' ks' js') (h2 : okE ks js ks' js') : RE σ' τ' := by
  obtain ⟨⟨a1, a2⟩, a3, a4⟩ := h2
  have c3 : ∀ l, l < 3 → l = 0 ∨ l = 1 ∨ l = 2 := fun l hl => by omega
  refine ⟨h.1.x hx hy ⟨zok_no a1 (by decide), zok_no a2 (by decide), zok_no a3 (by decide), zok_no a4 (by decide)⟩, h.2.1.x hx hy ⟨zok_no a2 (by decide), zok_no a2 (by decide), fun l hl => ?_⟩, h.2.2.1.x hx hy ⟨⟨zok_no a2 (by decide), zok_no a2 (by decide), zok_no a2 (by decide), zok_no a2 (by decide)⟩, fun l hl => ?_⟩, h.2.2.2.1.x hx hy ⟨zok_no a2 (by decide), zok_no a4 (by decide)⟩, h.2.2.2.2.1.x hx hy ⟨zok_no a1 (by decide), zok_no a1 (by decide), zok_no a2 (by decide), zok_no a2 (by decide), zok_no a2 (by decide), zok_no a2 (by decide)⟩ ⟨zok_no a3 (by decide), zok_no a3 (by decide), zok_no a3 (by decide), zok_no a3 (by decide), zok_no a3 (by decide), zok_no a3 (by decide), zok_no a4 (by decide), zok_no a4 (by decide)⟩, h.2.2.2.2.2.y hy ⟨zok_no a3 (by decide), zok_no a3 (by decide), zok_no a3 (by decide), zok_no a3 (by decide)⟩ ⟨zok_no a4 (by decide), zok_no a4 (by decide), zok_no a4 (by decide), zok_no a4 (by decide), zok_no a4 (by decide), zok_no a4 (by decide)⟩⟩
  · rcases c3 l hl with rfl | rfl | rfl <;> exact ⟨zok_no a3 (by decide), zok_no a4 (by decide)⟩
  · rcases c3 l hl with rfl | rfl | rfl <;> exact ⟨zok_no a3 (by decide), zok_no a3 (by decide), zok_no a4 (by decide), zok_no a4 (by decide)⟩
variable {r c k : Nat}
theorem HE.x {d nx : Nat} (h : HE r c k σ τ d nx) (hx : zy σ σ' ks js) (hy : zy τ τ' ks' js') (h2 : 18 ∉ js ∧ 26 ∉ js' ∧ 27 ∉ js') : HE r c k σ' τ' d nx := by
  unfold HE
  rw [hx.2 18 h2.1, hy.2 26 h2.2.1, hy.2 27 h2.2.2]
  exact h
theorem RH.x (h : RH r c k σ τ) (hx : zy σ σ' ks js) (hy : zy τ τ' ks' js') (h2 : (19 ∉ ks ∧ 9 ∉ ks ∧ 15 ∉ ks' ∧ 14 ∉ ks') ∧ 18 ∉ js ∧ 26 ∉ js' ∧ 27 ∉ js') : RH r c k σ' τ' := by
  obtain ⟨d, nx, a1, a2, a3, a4, a5, a6, a7⟩ := h
  refine ⟨d, nx, a1, a2, ?_, ?_, ?_, ?_, a7.x hx hy h2.2⟩
  · rw [hx.1 19 h2.1.1]; exact a3
  · rw [hy.1 15 h2.1.2.2.1]; exact a4
  · rw [hy.1 14 h2.1.2.2.2]; exact a5
  · rw [hx.1 9 h2.1.2.1]; exact a6
theorem RH.none (h0 : σ.1 19 = 0) (h1 : τ.1 15 = 0) {nx : Nat} (h2 : τ.1 14 = nI nx) (hn : nx < 20) : RH r c k σ τ := ⟨0, nx, by decide, hn, h0, h1, h2, Or.inl rfl, fun j hj => absurd hj (Nat.not_lt_zero j)⟩
theorem MD.x (h : MD σ r c k) (hx : zy σ σ' ks js) (h2 : 2 ∉ ks ∧ 3 ∉ ks ∧ 7 ∉ ks) : MD σ' r c k := ⟨(hx.1 2 h2.1).trans h.1, (hx.1 3 h2.2.1).trans h.2.1, (hx.1 7 h2.2.2).trans h.2.2⟩
theorem CD.x (h : CD τ r c k) (hx : zy τ τ' ks js) (h2 : 2 ∉ ks ∧ 4 ∉ ks ∧ 6 ∉ ks) : CD τ' r c k := ⟨(hx.1 2 h2.1).trans h.1, (hx.1 4 h2.2.1).trans h.2.1, (hx.1 6 h2.2.2).trans h.2.2⟩
abbrev ok0 (ks js ks' js' : List Nat) : Prop := (2 ∉ ks ∧ 3 ∉ ks ∧ 7 ∉ ks) ∧ (2 ∉ ks' ∧ 4 ∉ ks' ∧ 6 ∉ ks') ∧ ((19 ∉ ks ∧ 9 ∉ ks ∧ 15 ∉ ks' ∧ 14 ∉ ks') ∧ 18 ∉ js ∧ 26 ∉ js' ∧ 27 ∉ js') ∧ (6 ∉ ks ∧ 4 ∉ js ∧ 5 ∉ js ∧ 10 ∉ ks' ∧ 14 ∉ js' ∧ 16 ∉ js')
theorem R0.dim (h : R0 r c k σ τ) : zs_dim r c k := h.2.2.1.1
theorem R0.mb (h : R0 r c k σ τ) : MB σ r c k (σ.2.1 4) (σ.2.1 5) := ⟨h.1.1, h.1.2.1, h.1.2.2, rfl, rfl⟩
theorem R0.cb (h : R0 r c k σ τ) : CB τ r c k (τ.2.1 14) (τ.2.1 16) := ⟨h.2.1.1, h.2.1.2.1, h.2.1.2.2, rfl, rfl⟩
theorem R0.pr (h : R0 r c k σ τ) : ∀ t, t < 36 → σ.2.1 5 t = -1 ∨ 0 ≤ σ.2.1 5 t := fun t ht => (h.2.2.1.2.2.1 t ht).2
theorem R0.x (h : R0 r c k σ τ) (hx : zy σ σ' ks js) (hy : zy τ τ' ks' js') (h2 : ok0 ks js ks' js') (h3 : 8 ∉ ks ∧ 10 ∉ js ∧ 8 ∉ ks') : R0 r c k σ' τ' := by
  refine ⟨h.1.x hx h2.1, h.2.1.x hy h2.2.1, ?_, h.2.2.2.x hx hy h2.2.2.1⟩
  unfold RW
  rw [hx.1 9 h2.2.2.1.1.2.1, hx.1 8 h3.1, hx.1 6 h2.2.2.2.1, hy.1 8 h3.2.2, hy.1 10 h2.2.2.2.2.2.2.1, hx.2 10 h3.2.1, hx.2 4 h2.2.2.2.2.1, hx.2 5 h2.2.2.2.2.2.1, hy.2 14 h2.2.2.2.2.2.2.2.1, hy.2 16 h2.2.2.2.2.2.2.2.2]
  exact h.2.2.1
/-- the solid has come to a state -/
theorem R0.mv {x : Nat} (h : R0 r c k σ τ) (hth : σ.1 9 = 1) (hV : zs_V r c k x) (hx : zy σ σ' ks js) (hy : zy τ τ' ks' js') (h2 : ok0 ks js ks' js') (hF : MF σ' (zs_te k) (x / 24) (x % 24)) (h8 : τ'.1 8 = nI x) : R0 r c k σ' τ' := by
  refine ⟨h.1.x hx h2.1, h.2.1.x hy h2.2.1, ?_, h.2.2.2.x hx hy h2.2.2.1⟩
  unfold RW
  rw [hx.1 9 h2.2.2.1.1.2.1, hx.1 6 h2.2.2.2.1, hy.1 10 h2.2.2.2.2.2.2.1, hx.2 4 h2.2.2.2.2.1, hx.2 5 h2.2.2.2.2.2.1, hy.2 14 h2.2.2.2.2.2.2.2.1, hy.2 16 h2.2.2.2.2.2.2.2.2]
  obtain ⟨a1, a2, a3, a4, _⟩ := h.2.2.1
  exact ⟨a1, a2, a3, a4, Or.inr ⟨hth, x, hV, hF.1, hF.2, h8⟩⟩
theorem R0.there (h : R0 r c k σ τ) : (σ.1 9 = 0 ∧ τ.1 8 < 0) ∨ (σ.1 9 = 1 ∧ ∃ x, zs_V r c k x ∧ MF σ (zs_te k) (x / 24) (x % 24) ∧ τ.1 8 = nI x) := by
  rcases h.2.2.1.2.2.2.2 with a | ⟨a, x, b1, b2, b3, b4⟩
  · exact Or.inl a
  · exact Or.inr ⟨a, x, b1, ⟨b2, b3⟩, b4⟩
end REL
theorem zs_may_congr {r c k : Nat} {tl tl' : Nat → Int32} (hd : zs_dim r c k) (h1 : ∀ i, i < 36 → tl i = tl' i) (row col l : Nat) : zs_may r c k tl row col l ↔ zs_may r c k tl' row col l := by
  have hrc := zs_rc hd.2.1 hd.2.2.2.1
  have key : zs_onB r c row col l → tl (row * c + col) = tl' (row * c + col) ∧ tl (zs_snd c l (row * c + col)) = tl' (zs_snd c l (row * c + col)) := by
    intro hb
    have a := zs_cell hb.1 hb.2.1
    refine ⟨h1 _ (by omega), h1 _ ?_⟩
    unfold zs_snd
    split
    · rename_i q
      have := zs_cell hb.1 (hb.2.2.1 q)
      omega
    split
    · rename_i q
      have := zs_cell (hb.2.2.2 q) hb.2.1
      rw [Nat.succ_mul] at this
      omega
    · omega
  constructor
  · rintro ⟨a, b, c⟩
    have := key a
    rw [this.1] at b
    rw [this.2] at c
    exact ⟨a, b, c⟩
  · rintro ⟨a, b, c⟩
    have := key a
    rw [← this.1] at b
    rw [← this.2] at c
    exact ⟨a, b, c⟩
theorem zs_fin_congr {r c k : Nat} {tl tl' : Nat → Int32} (hd : zs_dim r c k) (h1 : ∀ i, i < 36 → tl i = tl' i) (row col s : Nat) : zs_fin r c k tl row col s = zs_fin r c k tl' row col s := by
  unfold zs_fin
  have := zs_may_congr (k := k) hd h1 row col (zs_lie k s)
  by_cases q : zs_may r c k tl row col (zs_lie k s)
  · rw [if_pos q, if_pos (this.mp q)]
  · rw [if_neg q, if_neg (fun z => q (this.mpr z))]
theorem zs_tfin_congr {r c k : Nat} {tl tl' pr pr' : Nat → Int32} (hd : zs_dim r c k) (h1 : ∀ i, i < 36 → tl i = tl' i) (h2 : ∀ i, i < 36 → pr i = pr' i) (row j s : Nat) : zs_tfin r c k tl pr row j s = zs_tfin r c k tl' pr' row j s := by
  unfold zs_tfin
  have hrc := zs_rc hd.2.1 hd.2.2.2.1
  by_cases q : row < r ∧ j < 2 * c
  · have := zs_cell (c := c) q.1 (show j / 2 < c by omega)
    rw [h1 _ (by omega), h2 _ (by omega)]
  · rw [if_neg (fun z => q ⟨z.1, z.2.1⟩), if_neg (fun z => q ⟨z.1, z.2.1⟩)]
theorem zs_st_congr {r c k : Nat} {tl tl' pr pr' : Nat → Int32} (hd : zs_dim r c k) (h1 : ∀ i, i < 36 → tl i = tl' i) (h2 : ∀ i, i < 36 → pr i = pr' i) : zs_st r c k tl pr = zs_st r c k tl' pr' := by
  funext x w
  unfold zs_st
  have : zs_roll r c k tl pr (x / 24) (x % 24) w = zs_roll r c k tl' pr' (x / 24) (x % 24) w := by
    unfold zs_roll
    split
    · unfold zs_tt
      simp only [zs_tfin_congr hd h1 h2]
    · unfold zs_sq
      simp only [zs_fin_congr hd h1]
  rw [this]
theorem R0.st {r c k : Nat} {σ τ : zz_St} (h : R0 r c k σ τ) : zs_st r c k (τ.2.1 14) (τ.2.1 16) = zs_st r c k (σ.2.1 4) (σ.2.1 5) := (zs_st_congr h.dim h.2.2.1.2.1 (fun i hi => (h.2.2.1.2.2.1 i hi).1)).symm
/-! refusals -/
theorem zn_ix {v : Int32} {n : Nat} (hn : n < 2 ^ 31) {A B : Prop} (h1 : vp_in v n → B) (h0 : ¬ vp_in v n → A) : (v < 0 → A) ∧ (¬ v < 0 → (nI n ≤ v → A) ∧ (¬ nI n ≤ v → B)) := by
  refine ⟨fun q => h0 (fun z => z (Or.inl q)), fun q => ⟨fun q2 => h0 (fun z => ?_), fun q2 => h1 ?_⟩⟩
  · obtain ⟨j, hj, e⟩ := vp_in_of z hn
    rw [e] at q2
    exact absurd q2 (nI_ge hj hn)
  · rcases pk_ix v hn with z | z | ⟨j, hj, e⟩
    · exact absurd z q
    · exact absurd z q2
    · rw [e]; exact vp_in_nI hj hn
theorem zn_le {v : Int32} {n : Nat} (hn : n + 1 < 2 ^ 31) {A B : Prop} (h1 : vp_in v (n + 1) → B) (h0 : ¬ vp_in v (n + 1) → A) : (v < 0 → A) ∧ (¬ v < 0 → (v ≤ nI n → B) ∧ (¬ v ≤ nI n → A)) := by
  refine ⟨fun q => h0 (fun z => z (Or.inl q)), fun q => ⟨fun q2 => h1 ?_, fun q2 => h0 (fun z => q2 ?_)⟩⟩
  · obtain ⟨j, hj, e⟩ := nI_of q
    subst e
    have := (nI_leI hj (by omega)).mp q2
    exact vp_in_nI (by omega) hn
  · obtain ⟨j, hj, e⟩ := vp_in_of z hn
    rw [e]
    exact nI_le (by omega) (by omega)
section NO
variable {σ τ : zz_St}
/-- what a refusal leaves: one more of its kind -/
def zno (σ : zz_St) (a j : Nat) : zz_St := zz_A σ a (upd (σ.2.1 a) j (σ.2.1 a j + 1))
theorem e7_refuse {Q : Int32 → zz_St → Prop} {v : Int32} (j : Nat) (hv : -v = nI j) (hj : j < 7) (h : Q v (zno τ 45 j)) : zq7_refuse v τ Q := by
  unfold zq7_refuse
  intro x ex
  rw [hv] at ex
  subst ex
  have cj : (nI j).toNatClampNeg = j := nI_clamp (by omega)
  have vj : vp_in (nI j) 7 := vp_in_nI hj (by decide)
  refine ⟨fun q => absurd q (nI_pos (by omega)), fun _ => ⟨fun q => absurd q (nI_ge (b := 7) hj (by decide)), fun _ => ⟨vj, vj, fun g hg => ?_⟩⟩⟩
  rw [cj] at hg
  subst hg
  exact h
theorem e8_no {Q : Int32 → zz_St → Prop} {v : Int32} (j : Nat) (hv : -v = nI j) (hv2 : ¬ v < -6) (hj : j < 7) (h : Q v (zno σ 1 j)) : zq8_no v σ Q := by
  unfold zq8_no
  have cj : (nI j).toNatClampNeg = j := nI_clamp (by omega)
  have vj : vp_in (nI j) 7 := vp_in_nI hj (by decide)
  rw [hv, cj]
  refine ⟨fun q => absurd q hv2, fun _ => ⟨vj, vj, fun g hg => ?_⟩⟩
  subst hg
  exact h
theorem Rel.no (h : Rel σ τ) {j : Nat} (hj : j < 7) : Rel (zno σ 1 j) (zno τ 45 j) := by
  obtain ⟨⟨r, c, k, h0⟩, hL, hS, hK, hF, hI, hT⟩ := h
  have x1 : zy σ (zno σ 1 j) [] [1] := (zx.A 1 _ (by decide)).y
  have x2 : zy τ (zno τ 45 j) [] [45] := (zx.A 45 _ (by decide)).y
  refine ⟨⟨r, c, k, h0.x x1 x2 (by decide) (by decide)⟩, hL.x x1 x2 (by decide), hS.x x1 x2 (by decide), hK.x x1 x2 (by decide), fun i hi => ?_, hI.x x1 x2 (by decide) (by decide), hT.y x2 (by decide) (by decide)⟩
  unfold zno
  rw [zz_A2, if_pos rfl, zz_A2, if_pos rfl]
  by_cases e : i = j
  · subst e; rw [pk_us, pk_us, hF i hi]
  · rw [pk_un e, pk_un e]; exact hF i hi
/-- the end of a call -/
def RQ (τ' : zz_St) (a : Int32) (b : Int32) (σ' : zz_St) : Prop := a = b ∧ Rel σ' τ'
theorem RQ.no {v : Int32} (h : Rel σ τ) (j : Nat) (hv : -v = nI j) (hv2 : ¬ v < -6) (hj : j < 7) : zq7_refuse v τ (fun a τ' => zq8_no v σ (fun b σ' => RQ τ' a b σ')) := e7_refuse j hv hj (e8_no j hv hv2 hj ⟨rfl, h.no hj⟩)
/-- both refuse alike, behind a look of the class alone -/
theorem RQ.no8 {v : Int32} (h : Rel σ τ) (j : Nat) (hv : -v = nI j) (hv2 : ¬ v < -6) (hj : j < 7) : zq8_no v σ (fun b σ' => RQ (zno τ 45 j) v b σ') := e8_no j hv hv2 hj ⟨rfl, h.no hj⟩
end NO
