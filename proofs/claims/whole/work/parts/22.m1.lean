/-! the reference: what its small methods need and answer -/
theorem zt_0 : (0 : Int32).toNatClampNeg = 0 := by decide
theorem zt_1 : (1 : Int32).toNatClampNeg = 1 := by decide
theorem zt_2 : (2 : Int32).toNatClampNeg = 2 := by decide
theorem zt_3 : (3 : Int32).toNatClampNeg = 3 := by decide
theorem zt_4 : (4 : Int32).toNatClampNeg = 4 := by decide
theorem zt_5 : (5 : Int32).toNatClampNeg = 5 := by decide
/-- two states agree but for these slots and arrays -/
def zx (σ σ' : zz_St) (ks js : List Nat) : Prop := (∀ k, k ∉ ks → σ'.1 k = σ.1 k) ∧ (∀ j, j ∉ js → σ'.2.1 j = σ.2.1 j) ∧ σ'.2.2 = σ.2.2
theorem zx.rf {σ : zz_St} {ks js : List Nat} : zx σ σ ks js := ⟨fun _ _ => rfl, fun _ _ => rfl, rfl⟩
theorem zx.tr {a b c : zz_St} {ks js : List Nat} (h : zx a b ks js) (h2 : zx b c ks js) : zx a c ks js := ⟨fun k hk => (h2.1 k hk).trans (h.1 k hk), fun j hj => (h2.2.1 j hj).trans (h.2.1 j hj), h2.2.2.trans h.2.2⟩
theorem zx.mono {a b : zz_St} {ks js ks' js' : List Nat} (h : zx a b ks js) (hk : ∀ k ∈ ks, k ∈ ks') (hj : ∀ j ∈ js, j ∈ js') : zx a b ks' js' := ⟨fun k q => h.1 k (fun z => q (hk k z)), fun j q => h.2.1 j (fun z => q (hj j z)), h.2.2⟩
theorem zx.I {σ : zz_St} {ks js : List Nat} (k : Nat) (v : Int32) (hk : k ∈ ks) : zx σ (zz_I σ k v) ks js := ⟨fun j hj => by rw [zz_I1, if_neg (fun e => hj (by rw [e]; exact hk))], fun _ _ => rfl, rfl⟩
theorem zx.A {σ : zz_St} {ks js : List Nat} (k : Nat) (f : Nat → Int32) (hk : k ∈ js) : zx σ (zz_A σ k f) ks js := ⟨fun _ _ => rfl, fun j hj => by rw [zz_A2, if_neg (fun e => hj (by rw [e]; exact hk))], rfl⟩
def MB (σ : zz_St) (r c k : Nat) (tl pr : Nat → Int32) : Prop := σ.1 2 = nI r ∧ σ.1 3 = nI c ∧ σ.1 7 = nI k ∧ σ.2.1 4 = tl ∧ σ.2.1 5 = pr
def MF (σ : zz_St) (te : Bool) (pl s : Nat) : Prop := σ.1 8 = nI pl ∧ ∀ i, i < 6 → σ.2.1 10 i = nI (zs_FA te s i)
theorem MB.x {σ σ' : zz_St} {r c k : Nat} {tl pr : Nat → Int32} {ks js : List Nat} (h : MB σ r c k tl pr) (hx : zx σ σ' ks js) (h2 : 2 ∉ ks ∧ 3 ∉ ks ∧ 7 ∉ ks ∧ 4 ∉ js ∧ 5 ∉ js) : MB σ' r c k tl pr :=
  ⟨(hx.1 2 h2.1).trans h.1, (hx.1 3 h2.2.1).trans h.2.1, (hx.1 7 h2.2.2.1).trans h.2.2.1, (hx.2.1 4 h2.2.2.2.1).trans h.2.2.2.1, (hx.2.1 5 h2.2.2.2.2).trans h.2.2.2.2⟩
theorem MF.x {σ σ' : zz_St} {te : Bool} {pl s : Nat} {ks js : List Nat} (h : MF σ te pl s) (hx : zx σ σ' ks js) (h2 : 8 ∉ ks ∧ 10 ∉ js) : MF σ' te pl s :=
  ⟨(hx.1 8 h2.1).trans h.1, fun i hi => by rw [hx.2.1 10 h2.2]; exact h.2 i hi⟩
section M1
variable {σ : zz_St} {r c k : Nat} {tl pr : Nat → Int32} {Q : Int32 → Prop}
theorem e8_tileMany (hB : MB σ r c k tl pr) (h : Q (nI (r * c))) : zq8_tileMany σ Q := by
  unfold zq8_tileMany
  rw [hB.1, hB.2.1, pk_mul]
  exact h
theorem e8_isTile (hB : MB σ r c k tl pr) (hd : zs_dim r c k) {v : Int32} (h1 : vp_in v (r * c) → Q 1) (h0 : ¬ vp_in v (r * c) → Q 0) : zq8_isTile v σ Q := by
  unfold zq8_isTile
  have := zs_rc hd.2.1 hd.2.2.2.1
  exact e8_tileMany hB (e8_inN (by omega) (fun h => ⟨Or.inr rfl, h1 h⟩) (fun h => ⟨Or.inl rfl, h0 h⟩))
theorem e8_isTetra (hB : MB σ r c k tl pr) (hd : zs_dim r c k) (h1 : 4 ≤ k → Q 1) (h0 : ¬ 4 ≤ k → Q 0) : zq8_isTetra σ Q := by
  unfold zq8_isTetra
  have hk := hd.2.2.2.2
  rw [hB.2.2.1]
  refine ⟨fun q => h0 ?_, fun q => h1 ?_⟩
  · have := (nI_ltI (a := k) (b := 4) (by omega) (by decide)).mp q
    omega
  · rcases Nat.lt_or_ge k 4 with z | z
    · exact absurd ((nI_ltI (a := k) (b := 4) (by omega) (by decide)).mpr z) q
    · exact z
theorem zn_k {k n : Nat} (hk : k < 2 ^ 31) (hn : n < 2 ^ 31) : nI k = nI n ↔ k = n := nI_eq hk hn
theorem e8_isBlock (hB : MB σ r c k tl pr) (hd : zs_dim r c k) (h1 : k = 2 ∨ k = 3 → Q 1) (h0 : ¬ (k = 2 ∨ k = 3) → Q 0) : zq8_isBlock σ Q := by
  unfold zq8_isBlock
  have hk := hd.2.2.2.2
  rw [hB.2.2.1]
  have e2 := zn_k (k := k) (n := 2) (by omega) (by decide)
  have e3 := zn_k (k := k) (n := 3) (by omega) (by decide)
  refine ⟨fun q => h1 (Or.inl (e2.mp q)), fun q => ⟨fun q3 => h0 ?_, fun q3 => h1 (Or.inr (e3.mp q3))⟩⟩
  rintro (z | z)
  · exact q (e2.mpr z)
  · exact q3 (e3.mpr z)
theorem zs_lying : ∀ s, s < 24 → (if zs_FA false s 0 < 2 then 0 else if 2 ≤ zs_FA false s 1 then (if zs_FA false s 3 < 2 then 1 else if 2 ≤ zs_FA false s 5 then 2 else 1) else 0) = zs_LC s := by decide +kernel
theorem zs_FA_lt : ∀ te : Bool, ∀ s, s < zs_ns te → ∀ i, i < 6 → zs_FA te s i < 6 := by
  intro te
  cases te
  · exact (by decide +kernel : ∀ s, s < 24 → ∀ i, i < 6 → zs_FA false s i < 6)
  · exact (by decide +kernel : ∀ s, s < 8 → ∀ i, i < 6 → zs_FA true s i < 6)
theorem e8_lying {pl s : Nat} (hF : MF σ false pl s) (hs : s < 24) (h : Q (nI (zs_LC s))) : zq8_lying σ Q := by
  unfold zq8_lying
  rw [zt_0, zt_1, zt_3, zt_5, hF.2 0 (by decide), hF.2 1 (by decide), hF.2 3 (by decide), hF.2 5 (by decide)]
  have g0 := zs_FA_lt false s hs 0 (by decide)
  have g1 := zs_FA_lt false s hs 1 (by decide)
  have g3 := zs_FA_lt false s hs 3 (by decide)
  have g5 := zs_FA_lt false s hs 5 (by decide)
  have e := zs_lying s hs
  rw [← e] at h
  generalize zs_FA false s 0 = a0 at *
  generalize zs_FA false s 1 = a1 at *
  generalize zs_FA false s 3 = a3 at *
  generalize zs_FA false s 5 = a5 at *
  have t0 : nI a0 < 2 ↔ a0 < 2 := nI_ltI (b := 2) (by omega) (by decide)
  have t1 : (2 : Int32) ≤ nI a1 ↔ 2 ≤ a1 := nI_leI (a := 2) (by decide) (by omega)
  have t3 : nI a3 < 2 ↔ a3 < 2 := nI_ltI (b := 2) (by omega) (by decide)
  have t5 : (2 : Int32) ≤ nI a5 ↔ 2 ≤ a5 := nI_leI (a := 2) (by decide) (by omega)
  rw [t0, t1, t3, t5]
  refine ⟨vp_in_nI (n := 0) (by decide) (by decide), fun q0 => ?_, fun q0 => ⟨vp_in_nI (n := 1) (by decide) (by decide), fun q1 => ⟨vp_in_nI (n := 3) (by decide) (by decide), fun q3 => ?_, fun q3 => ⟨vp_in_nI (n := 5) (by decide) (by decide), fun q5 => ?_, fun q5 => ?_⟩⟩, fun q1 => ?_⟩⟩
  · rw [if_pos q0] at h; exact h
  · rw [if_neg q0, if_pos q1, if_pos q3] at h; exact h
  · rw [if_neg q0, if_pos q1, if_neg q3, if_pos q5] at h; exact h
  · rw [if_neg q0, if_pos q1, if_neg q3, if_neg q5] at h; exact h
  · rw [if_neg q0, if_neg q1] at h; exact h
end M1
