section M7
variable {σ : zz_St} {r c k : Nat} {tl pr : Nat → Int32} {Q : Int32 → zz_St → Prop}
theorem e8_rolls_82 {te : Bool} {pl s : Nat} (h8 : σ.1 8 = nI pl) (hs : ∀ i, i < 6 → σ.2.1 13 i = nI (zs_FA te s i)) (h : ∀ σ2, zx σ σ2 [8, 12] [10, 11, 13] → MF σ2 te pl s → Q 0 σ2) : zq8_rolls_82 0 0 σ Q := by
  unfold zq8_rolls_82
  refine zl_copy (src := 13) (dst := 10) (N := 6) (by decide) (by decide) (fun σ2 x2 hc _ => ⟨Or.inl rfl, h σ2 (x2.mono (by decide) (by decide)) ⟨(x2.1 8 (by decide)).trans h8, fun i hi => (hc i hi).trans (hs i hi)⟩⟩)
theorem e8_rolls (hB : MB σ r c k tl pr) (hd : zs_dim r c k) (hpr : ∀ t, t < 36 → pr t = -1 ∨ 0 ≤ pr t) {pl s w : Nat} (hw : w < 4) (hF : MF σ (zs_te k) pl s) (hp : pl < zs_np r c k) (hs : s < zs_ns (zs_te k))
    (h1 : ∀ pl2 s2, zs_roll r c k tl pr pl s w = some (pl2, s2) → ∀ σ2, zx σ σ2 [8, 12] [10, 11, 13] → MF σ2 (zs_te k) pl2 s2 → Q 1 σ2)
    (h0 : zs_roll r c k tl pr pl s w = none → ∀ σ2, zx σ σ2 [8, 12] [10, 11, 13] → MF σ2 (zs_te k) pl s → Q 0 σ2) : zq8_rolls (nI w) σ Q := by
  unfold zq8_rolls
  have hrc := zs_rc hd.2.1 hd.2.2.2.1
  intro x ex
  rw [hF.1] at ex
  subst ex
  unfold zq8_rolls_7
  refine zl_copy (src := 10) (dst := 13) (N := 6) (by decide) (by decide) (fun σ1 x1 hc1 _ => ?_)
  have y1 : zx σ σ1 [8, 12] [10, 11, 13] := x1.mono (by decide) (by decide)
  have hB1 := hB.x x1 (by decide)
  have hF1 := hF.x x1 (by decide)
  have hs1 : ∀ i, i < 6 → σ1.2.1 13 i = nI (zs_FA (zs_te k) s i) := fun i hi => (hc1 i hi).trans (hF.2 i hi)
  have rest0 : ∀ σ3, zx σ σ3 [8, 12] [10, 11, 13] → (∀ i, i < 6 → σ3.2.1 13 i = nI (zs_FA (zs_te k) s i)) → zs_roll r c k tl pr pl s w = none → zq8_rolls_69 (nI pl) 0 σ3 Q := by
    intro σ3 x3 hs3 hn
    unfold zq8_rolls_69
    refine ⟨fun q => absurd rfl q, fun _ g hg => ?_⟩
    have xg : zx σ3 g [8, 12] [10, 11, 13] := by rw [hg]; exact zx.I 8 _ (by decide)
    refine e8_rolls_82 (te := zs_te k) (pl := pl) (s := s) (by rw [hg, zz_I1, if_pos rfl]) (fun i hi => by rw [hg, zz_I2]; exact hs3 i hi) (fun σ4 x4 hF4 => h0 hn σ4 ((x3.tr xg).tr x4) hF4)
  have rest0' : ∀ σ3, zx σ σ3 [8, 12] [10, 11, 13] → (∀ i, i < 6 → σ3.2.1 13 i = nI (zs_FA (zs_te k) s i)) → zs_roll r c k tl pr pl s w = none → zq8_rolls_68 (nI pl) σ3 Q := by
    intro σ3 x3 hs3 hn
    unfold zq8_rolls_68
    exact rest0 σ3 x3 hs3 hn
  have rest1 : ∀ σ3 pl2 s2, zx σ σ3 [8, 12] [10, 11, 13] → MF σ3 (zs_te k) pl2 s2 → zs_roll r c k tl pr pl s w = some (pl2, s2) → zq8_rolls_69 (nI pl) 1 σ3 Q := by
    intro σ3 pl2 s2 x3 hF3 hn
    unfold zq8_rolls_69
    exact ⟨fun _ => ⟨Or.inr rfl, h1 pl2 s2 hn σ3 x3 hF3⟩, fun q => absurd q (by decide)⟩
  refine e8_isTetra hB1 hd (fun hk => ?_) (fun hk => ?_)
  · have hte : zs_te k = true := decide_eq_true hk
    rw [hte] at hF1 hs rest0' rest1 hs1
    have hp2 : pl < 2 * (r * c) := by rw [zs_np, if_pos hk] at hp; exact hp
    have hroll : ∀ w, zs_roll r c k tl pr pl s w = zs_tt r c k tl pr pl s w := fun w => if_pos hk
    refine ⟨fun q => absurd q (by decide), fun _ => e8_goesTetra hB1 hd hw hF1 hs hp2 (fun a b hm ha hb hn σ2 x2 hF2 => ?_) (fun hn σ2 x2 => ?_)⟩
    · refine ⟨fun q => absurd q (by decide), fun _ => ?_⟩
      unfold zq8_rolls_57
      have y2 : zx σ σ2 [8, 12] [10, 11, 13] := y1.tr (x2.mono (by decide) (by decide))
      have hB2 := hB1.x x2 (by decide)
      have hcell := zs_cell (c := 2 * c) ha hb
      have h2rc : r * (2 * c) = 2 * (r * c) := by rw [Nat.mul_left_comm]
      have e2 : (a * (2 * c) + b) / 2 = a * c + b / 2 := by
        rw [Nat.mul_left_comm]; omega
      have hlt : a * c + b / 2 < 36 := by
        have := zs_cell (c := c) ha (show b / 2 < c by omega)
        omega
      have hn' : ¬ (k = 5 ∧ ¬ pr (a * c + b / 2) = -1) := fun z => hn ⟨z.1, by
        rcases hpr _ hlt with q | q
        · exact absurd q z.2
        · exact q⟩
      refine e8_mayLie_t hB2 hd hk hF2.1 (by omega) (fun σ3 x3 ht => ?_) (fun σ3 x3 ht => ?_)
      · refine ⟨fun q => absurd q (by decide), fun _ => rest1 σ3 _ _ (y2.tr (x3.mono (by decide) (by decide))) (hF2.x x3 (by decide)) ?_⟩
        rw [hroll, zs_tt_mv hm, zs_tfin, if_pos ⟨ha, hb, by rw [← e2]; exact ht, hn'⟩]
      · refine ⟨fun _ => rest0' σ3 (y2.tr (x3.mono (by decide) (by decide))) (fun i hi => ?_) ?_, fun q => absurd rfl q⟩
        · rw [x3.2.1 13 (by decide), x2.2.1 13 (by decide)]; exact hs1 i hi
        · rw [hroll, zs_tt_mv hm, zs_tfin, if_neg (fun z => z.2.2.1 (by rw [← e2]; exact ht))]
    · refine ⟨fun _ => rest0' σ2 (y1.tr (x2.mono (by decide) (by decide))) (fun i hi => ?_) ?_, fun q => absurd rfl q⟩
      · rw [x2.2.1 13 (by decide)]; exact hs1 i hi
      · rw [hroll]
        refine zs_tt_no hw (fun a b hm => ?_)
        rw [zs_tfin, if_neg]
        intro z
        have h5 := hn a b hm z.1 z.2.1
        refine z.2.2.2 ⟨h5.1, fun e => ?_⟩
        rw [e] at h5
        exact absurd h5.2 (by decide)
  · have hte : zs_te k = false := decide_eq_false hk
    rw [hte] at hF1 hs rest0' rest1 hs1
    have hp2 : pl < r * c := by rw [zs_np, if_neg hk] at hp; exact hp
    have hroll : ∀ w, zs_roll r c k tl pr pl s w = zs_sq r c k tl pl s w := fun w => if_neg hk
    have hs2 : zs_T false s w < 24 := zs_T_lt false s hs w hw
    refine ⟨fun _ => e8_goesSquare hB1 hd hw hF1 hs hp2 (fun a b hm ha hb σ2 x2 hF2 => ?_) (fun hn => ?_), fun q => absurd rfl q⟩
    · refine ⟨fun q => absurd q (by decide), fun _ => ?_⟩
      unfold zq8_rolls_57
      have y2 : zx σ σ2 [8, 12] [10, 11, 13] := y1.tr (x2.mono (by decide) (by decide))
      have hB2 := hB1.x x2 (by decide)
      have hcell := zs_cell ha hb
      have hdm := zs_divmod (row := a) hb
      refine e8_mayLie hB2 hd hk hF2 hs2 hcell (fun σ3 x3 ht => ?_) (fun σ3 x3 ht => ?_)
      · rw [hdm.1, hdm.2] at ht
        refine ⟨fun q => absurd q (by decide), fun _ => rest1 σ3 _ _ (y2.tr (x3.mono (by decide) (by decide))) (hF2.x x3 (by decide)) ?_⟩
        rw [hroll, zs_sq_mv hm, zs_fin, if_pos ht]
      · rw [hdm.1, hdm.2] at ht
        refine ⟨fun _ => rest0' σ3 (y2.tr (x3.mono (by decide) (by decide))) (fun i hi => ?_) ?_, fun q => absurd rfl q⟩
        · rw [x3.2.1 13 (by decide), x2.2.1 13 (by decide)]; exact hs1 i hi
        · rw [hroll, zs_sq_mv hm, zs_fin, if_neg ht]
    · refine ⟨fun _ => rest0' σ1 y1 hs1 ?_, fun q => absurd rfl q⟩
      rw [hroll]
      exact zs_sq_no hw hn
end M7
