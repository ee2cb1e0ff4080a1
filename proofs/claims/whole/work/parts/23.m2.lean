/-! the reference: the tiles under the solid, whether it may lie, the turns -/
theorem zs_2 {a : Nat} (h : a < 2 ^ 31) : nI a / 2 = nI (a / 2) := pk_div (d := 2) h (by decide) (by decide)
theorem zs_r2 {a : Nat} (h : a < 2 ^ 31) : nI a - nI a / 2 * 2 = nI (a % 2) := pk_rem (d := 2) h (by decide) (by decide)
theorem zu_0 (f : Nat → Int32) (x : Int32) : upd f 0 x 0 = x := pk_us
/-- the tiles under a solid that is no tetra, as the reference keeps them -/
def MU (σ : zz_St) (c l pl : Nat) : Prop := σ.2.1 11 0 = nI pl ∧ (l = 0 → σ.1 12 = 1) ∧ (¬ l = 0 → σ.1 12 = 2 ∧ σ.2.1 11 1 = nI (zs_snd c l pl))
section M2
variable {σ : zz_St} {r c k : Nat} {tl pr : Nat → Int32} {Q : Int32 → zz_St → Prop}
theorem e8_tellsUnder_116 (hB : MB σ r c k tl pr) (hd : zs_dim r c k) {pl l : Nat} (h8 : σ.1 8 = nI pl) (hp : pl < r * c) (hl : l = 1 ∨ l = 2) {v x : Int32} (hv : v = nI l) (hx : x = nI (zs_snd c l pl)) (hu : σ.2.1 11 0 = nI pl)
    (h1 : ∀ σ2, zx σ σ2 [12] [11] → (l = 1 → pl % c + 1 < c) → (l = 2 → pl / c + 1 < r) → MU σ2 c l pl → Q 1 σ2)
    (h0 : ∀ σ2, zx σ σ2 [12] [11] → ¬ ((l = 1 → pl % c + 1 < c) ∧ (l = 2 → pl / c + 1 < r)) → MU σ2 c l pl → Q 0 σ2) : zq8_tellsUnder_116 v x 1 σ Q := by
  unfold zq8_tellsUnder_116
  refine ⟨vp_in_nI (n := 1) (by decide) (by decide), fun g hg g2 hg2 => ?_⟩
  have hrc := zs_rc hd.2.1 hd.2.2.2.1
  have x2 : zx σ g2 [12] [11] := by
    rw [hg2, hg]
    exact (zx.A (ks := [12]) (js := [11]) 11 _ (by decide)).tr (zx.I 12 _ (by decide))
  have hu2 : MU g2 c l pl := by
    rw [hg2, hg]
    refine ⟨?_, fun q => ?_, fun _ => ⟨?_, ?_⟩⟩
    · show (zz_A σ 11 _).2.1 11 0 = _
      rw [zz_A2, if_pos rfl, zt_1, pk_un (by decide)]; exact hu
    · rcases hl with z | z <;> omega
    · rw [zz_I1, if_pos rfl]
    · show (zz_A σ 11 _).2.1 11 1 = _
      rw [zz_A2, if_pos rfl, zt_1, pk_us]; exact hx
  have hB2 := hB.x x2 (by decide)
  have h82 : g2.1 8 = nI pl := (x2.1 8 (by decide)).trans h8
  rw [hB2.1, hB2.2.1, h82, hv]
  have hdv := zs_div_lt hp
  have e1 : nI l = 1 ↔ l = 1 := nI_eq (b := 1) (by omega) (by decide)
  have hr1 : nI r - 1 = nI (r - 1) := pk_sub (b := 1) hd.1
  have hc1 : nI c - 1 = nI (c - 1) := pk_sub (b := 1) hd.2.2.1
  have hdiv : nI pl / nI c = nI (pl / c) := pk_div (by omega) hd.2.2.1 (by omega)
  have hrem : nI pl - nI pl / nI c * nI c = nI (pl % c) := pk_rem (by omega) hd.2.2.1 (by omega)
  have hle1 : pl / c ≤ pl := Nat.div_le_self _ _
  have hcne : ¬ nI c = 0 := nI_ne0 hd.2.2.1 (by omega)
  rw [hrem, hdiv, hr1, hc1, e1]
  have a1 : nI (r - 1) ≤ nI (pl / c) ↔ r - 1 ≤ pl / c := nI_leI (by omega) (by omega)
  have a2 : nI (c - 1) ≤ nI (pl % c) ↔ c - 1 ≤ pl % c := nI_leI (by omega) (by omega)
  rw [a1, a2]
  refine ⟨fun q => ⟨hcne, fun z => h0 g2 x2 ?_ hu2, fun z => h1 g2 x2 ?_ ?_ hu2⟩, fun q => ⟨hcne, fun z => h0 g2 x2 ?_ hu2, fun z => h1 g2 x2 ?_ ?_ hu2⟩⟩ <;> omega
theorem e8_tellsUnder (hB : MB σ r c k tl pr) (hd : zs_dim r c k) (hk : ¬ 4 ≤ k) {pl s : Nat} (hF : MF σ false pl s) (hs : s < 24) (hp : pl < r * c)
    (h1 : ∀ σ2, zx σ σ2 [12] [11] → (zs_lie k s = 1 → pl % c + 1 < c) → (zs_lie k s = 2 → pl / c + 1 < r) → MU σ2 c (zs_lie k s) pl → Q 1 σ2)
    (h0 : ∀ σ2, zx σ σ2 [12] [11] → ¬ ((zs_lie k s = 1 → pl % c + 1 < c) ∧ (zs_lie k s = 2 → pl / c + 1 < r)) → MU σ2 c (zs_lie k s) pl → Q 0 σ2) : zq8_tellsUnder σ Q := by
  unfold zq8_tellsUnder
  intro g hg
  have hrc := zs_rc hd.2.1 hd.2.2.2.1
  have x1 : zx σ g [12] [11] := by rw [hg]; exact zx.I 12 _ (by decide)
  have n1 : g.1 12 = 1 := by rw [hg, zz_I1, if_pos rfl]
  refine e8_isTetra (hB.x x1 (by decide)) hd (fun q => absurd q hk) (fun _ => ?_)
  refine ⟨fun _ => ⟨vp_in_nI (n := 0) (by decide) (by decide), fun g2 hg2 => ?_⟩, fun q => absurd rfl q⟩
  have x2 : zx σ g2 [12] [11] := by rw [hg2]; exact x1.tr (zx.A 11 _ (by decide))
  have h8 : g.1 8 = nI pl := (x1.1 8 (by decide)).trans hF.1
  have h82 : g2.1 8 = nI pl := (x2.1 8 (by decide)).trans hF.1
  have u0 : g2.2.1 11 0 = nI pl := by rw [hg2, zz_A2, if_pos rfl, zt_0, pk_us]; exact h8
  have n2 : g2.1 12 = 1 := by rw [hg2]; exact n1
  have hB2 := hB.x x2 (by decide)
  have hF2 := hF.x x2 (by decide)
  refine e8_isTile hB2 hd (fun _ => ?_) (fun q => ?_)
  rotate_left
  · exact absurd (by rw [h82]; exact vp_in_nI hp (by omega)) q
  refine ⟨fun _ => ?_, fun q => absurd q (by decide)⟩
  have key : ∀ l, zs_lie k s = l → zq8_tellsUnder_81 (nI l) g2 Q := by
    intro l hl
    have hl3 := zs_lie_lt k s
    unfold zq8_tellsUnder_81
    have e0 : nI l = 0 ↔ l = 0 := nI_eq (b := 0) (by omega) (by decide)
    have e1 : nI l = 1 ↔ l = 1 := nI_eq (b := 1) (by omega) (by decide)
    rw [e0, e1, h82, hB2.2.1]
    refine ⟨fun q0 => ⟨fun q1 => ?_, fun q1 => ?_⟩, fun q0 => ?_⟩
    · have h2 : l = 2 := by omega
      refine e8_tellsUnder_116 hB2 hd h82 hp (Or.inr h2) rfl (by rw [nI_add, zs_snd, if_neg q1, if_pos h2]) u0 (fun σ2 z a b d => h1 σ2 (x2.tr z) (by rw [hl]; exact a) (by rw [hl]; exact b) (by rw [hl]; exact d)) (fun σ2 z a b => h0 σ2 (x2.tr z) (by rw [hl]; exact a) (by rw [hl]; exact b))
    · have h3 : nI l = 1 := e1.mpr q1
      refine e8_tellsUnder_116 hB2 hd h82 hp (Or.inl q1) rfl (by rw [zs_snd, if_pos q1]; exact nI_1 pl) u0 (fun σ2 z a b d => h1 σ2 (x2.tr z) (by rw [hl]; exact a) (by rw [hl]; exact b) (by rw [hl]; exact d)) (fun σ2 z a b => h0 σ2 (x2.tr z) (by rw [hl]; exact a) (by rw [hl]; exact b))
    · exact h1 g2 x2 (by omega) (by omega) ⟨u0, fun _ => n2, fun q => absurd (hl.trans q0) q⟩
  refine e8_isBlock hB2 hd (fun hb => ?_) (fun hb => ?_)
  · refine ⟨fun q => absurd q (by decide), fun _ => ?_⟩
    exact e8_lying hF2 hs (key (zs_LC s) (by unfold zs_lie; rw [if_pos hb]))
  · refine ⟨fun _ => ?_, fun q => absurd rfl q⟩
    exact key 0 (zs_lie_no hb s)
end M2
