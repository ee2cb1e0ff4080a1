theorem zs_tc0 : ∀ s, s < 24 → ∀ i, i < 6 → zs_FA false s (if i = 1 then 2 else if i = 2 then 0 else if i = 0 then 4 else if i = 4 then 1 else i) = zs_FA false (zs_T false s 0) i := by decide +kernel
theorem zs_tc1 : ∀ s, s < 24 → ∀ i, i < 6 → zs_FA false s (if i = 1 then 3 else if i = 3 then 0 else if i = 0 then 5 else if i = 5 then 1 else i) = zs_FA false (zs_T false s 1) i := by decide +kernel
theorem zs_tc2 : ∀ s, s < 24 → ∀ i, i < 6 → zs_FA false s (if i = 1 then 4 else if i = 4 then 0 else if i = 0 then 2 else if i = 2 then 1 else i) = zs_FA false (zs_T false s 2) i := by decide +kernel
theorem zs_tc3 : ∀ s, s < 24 → ∀ i, i < 6 → zs_FA false s (if i = 1 then 5 else if i = 5 then 0 else if i = 0 then 3 else if i = 3 then 1 else i) = zs_FA false (zs_T false s 3) i := by decide +kernel
theorem zs_tt0 : ∀ s, s < 8 → ∀ i, i < 6 → zs_FA true s (if i = 0 then 3 else if i = 3 then 0 else i) = zs_FA true (zs_T true s 0) i := by decide +kernel
theorem zs_tt1 : ∀ s, s < 8 → ∀ i, i < 6 → zs_FA true s (if i = 0 then 2 else if i = 2 then 3 else if i = 3 then 1 else if i = 1 then 0 else i) = zs_FA true (zs_T true s 1) i := by decide +kernel
theorem zs_tt2 : ∀ s, s < 8 → ∀ i, i < 6 → zs_FA true s (if i = 0 then 3 else if i = 3 then 0 else i) = zs_FA true (zs_T true s 2) i := by decide +kernel
theorem zs_tt3 : ∀ s, s < 8 → ∀ i, i < 6 → zs_FA true s (if i = 0 then 1 else if i = 1 then 3 else if i = 3 then 2 else if i = 2 then 0 else i) = zs_FA true (zs_T true s 3) i := by decide +kernel
section M4
variable {σ : zz_St}
theorem e8_turns {Q : zz_St → Prop} (a b c d : Nat) (ha : a < 6) (hb : b < 6) (hc : c < 6) (hd : d < 6) (hne : ¬ a = b ∧ ¬ a = c ∧ ¬ a = d ∧ ¬ b = c ∧ ¬ b = d ∧ ¬ c = d)
    (h : ∀ σ2, zx σ σ2 [] [10] → (∀ i, σ2.2.1 10 i = σ.2.1 10 (if i = a then b else if i = b then c else if i = c then d else if i = d then a else i)) → Q σ2) : zq8_turns (nI a) (nI b) (nI c) (nI d) σ Q := by
  unfold zq8_turns
  have ca : (nI a).toNatClampNeg = a := nI_clamp (by omega)
  have cb : (nI b).toNatClampNeg = b := nI_clamp (by omega)
  have cc : (nI c).toNatClampNeg = c := nI_clamp (by omega)
  have cd : (nI d).toNatClampNeg = d := nI_clamp (by omega)
  have va := vp_in_nI (N := 6) ha (by decide)
  have vb := vp_in_nI (N := 6) hb (by decide)
  have vc := vp_in_nI (N := 6) hc (by decide)
  have vd := vp_in_nI (N := 6) hd (by decide)
  rw [ca, cb, cc, cd]
  refine ⟨va, fun x hx => ⟨vb, va, fun g7 h7 => ⟨vc, vb, fun g8 h8 => ⟨vd, vc, fun g9 h9 => ⟨vd, fun g10 h10 => h g10 ?_ ?_⟩⟩⟩⟩⟩
  · rw [h10, h9, h8, h7]
    exact (((zx.A 10 _ (by decide)).tr (zx.A 10 _ (by decide))).tr (zx.A 10 _ (by decide))).tr (zx.A 10 _ (by decide))
  · intro i
    rw [h10, h9, h8, h7, hx]
    simp only [zz_A2, if_true, upd]
    obtain ⟨n1, n2, n3, n4, n5, n6⟩ := hne
    by_cases e1 : i = a
    · subst e1
      rw [if_neg n3, if_neg n2, if_neg n1, if_pos rfl, if_pos rfl]
    by_cases e2 : i = b
    · subst e2
      rw [if_neg n5, if_neg n4, if_pos rfl, if_neg (fun q => n2 q.symm), if_neg e1, if_pos rfl]
    by_cases e3 : i = c
    · subst e3
      rw [if_neg n6, if_pos rfl, if_neg (fun q => n5 q.symm), if_neg (fun q => n3 q.symm), if_neg e1, if_neg e2, if_pos rfl]
    by_cases e4 : i = d
    · subst e4
      rw [if_pos rfl, if_neg e1, if_neg e2, if_neg e3, if_pos rfl]
    rw [if_neg e4, if_neg e3, if_neg e2, if_neg e1, if_neg e1, if_neg e2, if_neg e3, if_neg e4]
theorem zn_w {w : Nat} (hw : w < 4) (n : Nat) (hn : n < 2 ^ 31) : nI w = nI n ↔ w = n := nI_eq (by omega) hn
theorem e8_turnsCube {Q : zz_St → Prop} {pl s w : Nat} (hw : w < 4) (hF : MF σ false pl s) (hs : s < 24) (h : ∀ σ2, zx σ σ2 [] [10] → MF σ2 false pl (zs_T false s w) → Q σ2) : zq8_turnsCube (nI w) σ Q := by
  unfold zq8_turnsCube
  have e0 : nI w = 0 ↔ w = 0 := zn_w hw 0 (by decide)
  have e1 : nI w = 1 ↔ w = 1 := zn_w hw 1 (by decide)
  have e2 : nI w = 2 ↔ w = 2 := zn_w hw 2 (by decide)
  rw [e0, e1, e2]
  have key : ∀ (a b c d : Nat) (ha : a < 6) (hb : b < 6) (hc : c < 6) (hd : d < 6) (hne : ¬ a = b ∧ ¬ a = c ∧ ¬ a = d ∧ ¬ b = c ∧ ¬ b = d ∧ ¬ c = d), (∀ i, i < 6 → zs_FA false s (if i = a then b else if i = b then c else if i = c then d else if i = d then a else i) = zs_FA false (zs_T false s w) i) → zq8_turns (nI a) (nI b) (nI c) (nI d) σ Q := by
    intro a b c d ha hb hc hd hne ht
    refine e8_turns a b c d ha hb hc hd hne (fun σ2 x y => h σ2 x ⟨(x.1 8 (by decide)).trans hF.1, fun i hi => ?_⟩)
    rw [y i, ← ht i hi]
    refine hF.2 _ ?_
    split
    · exact hb
    split
    · exact hc
    split
    · exact hd
    split
    · exact ha
    · exact hi
  refine ⟨fun q => ?_, fun q0 => ⟨fun q => ?_, fun q1 => ⟨fun q => ?_, fun q2 => ?_⟩⟩⟩
  · subst q; exact key 1 2 0 4 (by decide) (by decide) (by decide) (by decide) (by decide) (zs_tc0 s hs)
  · subst q; exact key 1 3 0 5 (by decide) (by decide) (by decide) (by decide) (by decide) (zs_tc1 s hs)
  · subst q; exact key 1 4 0 2 (by decide) (by decide) (by decide) (by decide) (by decide) (zs_tc2 s hs)
  · have : w = 3 := by omega
    subst this; exact key 1 5 0 3 (by decide) (by decide) (by decide) (by decide) (by decide) (zs_tc3 s hs)
theorem e8_turnsTetra {Q : zz_St → Prop} {pl s w : Nat} (hw : w < 4) (hF : MF σ true pl s) (hs : s < 8) (h : ∀ σ2, zx σ σ2 [] [10] → MF σ2 true pl (zs_T true s w) → Q σ2) : zq8_turnsTetra (nI w) σ Q := by
  unfold zq8_turnsTetra
  have e1 : nI w = 1 ↔ w = 1 := zn_w hw 1 (by decide)
  have e3 : nI w = 3 ↔ w = 3 := zn_w hw 3 (by decide)
  rw [e1, e3]
  have key : ∀ (a b c d : Nat) (ha : a < 6) (hb : b < 6) (hc : c < 6) (hd : d < 6) (hne : ¬ a = b ∧ ¬ a = c ∧ ¬ a = d ∧ ¬ b = c ∧ ¬ b = d ∧ ¬ c = d), (∀ i, i < 6 → zs_FA true s (if i = a then b else if i = b then c else if i = c then d else if i = d then a else i) = zs_FA true (zs_T true s w) i) → zq8_turns (nI a) (nI b) (nI c) (nI d) σ Q := by
    intro a b c d ha hb hc hd hne ht
    refine e8_turns a b c d ha hb hc hd hne (fun σ2 x y => h σ2 x ⟨(x.1 8 (by decide)).trans hF.1, fun i hi => ?_⟩)
    rw [y i, ← ht i hi]
    refine hF.2 _ ?_
    split
    · exact hb
    split
    · exact hc
    split
    · exact hd
    split
    · exact ha
    · exact hi
  have v0 : vp_in 0 6 := vp_in_nI (n := 0) (by decide) (by decide)
  have v3 : vp_in 3 6 := vp_in_nI (n := 3) (by decide) (by decide)
  refine ⟨fun q1 => ⟨fun q3 => ?_, fun q => ?_⟩, fun q => ?_⟩
  · rw [zt_0, zt_3]
    refine ⟨v0, fun x hx => ⟨v3, v0, fun g11 h11 => ⟨v3, fun g12 h12 => ?_⟩⟩⟩
    have x12 : zx σ g12 [] [10] := by rw [h12, h11]; exact (zx.A 10 _ (by decide)).tr (zx.A 10 _ (by decide))
    refine h g12 x12 ⟨(x12.1 8 (by decide)).trans hF.1, fun i hi => ?_⟩
    have ht : zs_FA true s (if i = 0 then 3 else if i = 3 then 0 else i) = zs_FA true (zs_T true s w) i := by
      rcases (by omega : w = 0 ∨ w = 2) with z | z
      · rw [z]; exact zs_tt0 s hs i hi
      · rw [z]; exact zs_tt2 s hs i hi
    rw [← ht, h12, h11, hx]
    simp only [zz_A2, if_true, upd]
    by_cases a0 : i = 0
    · subst a0; exact hF.2 3 (by decide)
    by_cases a3 : i = 3
    · subst a3; exact hF.2 0 (by decide)
    rw [if_neg a3, if_neg a0, if_neg a0, if_neg a3]
    exact hF.2 i hi
  · subst q; exact key 0 1 3 2 (by decide) (by decide) (by decide) (by decide) (by decide) (zs_tt3 s hs)
  · subst q; exact key 0 2 3 1 (by decide) (by decide) (by decide) (by decide) (by decide) (zs_tt1 s hs)
end M4
