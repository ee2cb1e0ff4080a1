theorem zs_snd_lt {r c k pl s : Nat} (hp : pl < r * c) (h1 : zs_lie k s = 1 → pl % c + 1 < c) (h2 : zs_lie k s = 2 → pl / c + 1 < r) : zs_snd c (zs_lie k s) pl < r * c := by
  have hd := zs_div_lt hp
  have e := zs_divadd pl c
  unfold zs_snd
  split
  · rename_i q
    have := zs_cell hd.1 (h1 q)
    omega
  split
  · rename_i q
    have := zs_cell (h2 q) hd.2
    rw [Nat.succ_mul] at this
    omega
  · exact hp
section M3
variable {σ : zz_St} {r c k : Nat} {tl pr : Nat → Int32}
theorem e8_mayLie_40 {Q : Int32 → zz_St → Prop} (hB : MB σ r c k tl pr) {n : Nat} (hn : n ≤ 2) (hm : σ.1 12 = nI n) (u : Nat → Nat) (hu : ∀ i, i < n → σ.2.1 11 i = nI (u i) ∧ u i < 36) (v1 : Int32) (wk : Prop) (hw : (v1 = 0 ∧ ¬ wk) ∨ (v1 = 1 ∧ wk))
    (h1 : (∀ i, i < n → ¬ (tl (u i) = 1 ∨ (tl (u i) = 2 ∧ wk))) → Q 1 σ) (h0 : ¬ (∀ i, i < n → ¬ (tl (u i) = 1 ∨ (tl (u i) = 2 ∧ wk))) → Q 0 σ) : zq8_mayLie_40 v1 0 σ Q := by
  unfold zq8_mayLie_40
  refine ⟨fun v => ∃ i, i ≤ n ∧ v = nI i ∧ ∀ j, j < i → ¬ (tl (u j) = 1 ∨ (tl (u j) = 2 ∧ wk)), fun v => n - v.toNatClampNeg, ⟨0, Nat.zero_le _, rfl, fun j h => absurd h (Nat.not_lt_zero j)⟩, ?_⟩
  rintro v ⟨i, hi, rfl, hb⟩
  rw [hm]
  have hle : nI n ≤ nI i ↔ n ≤ i := nI_leI (by omega) (by omega)
  rw [hle]
  refine ⟨fun q => h1 (fun j hj => hb j (by omega)), fun q => ?_⟩
  have hlt : i < n := by omega
  obtain ⟨hui, hu36⟩ := hu i hlt
  have hci : (nI i).toNatClampNeg = i := nI_clamp (by omega)
  have hcu : (nI (u i)).toNatClampNeg = u i := nI_clamp (by omega)
  rw [hci, hui, hB.2.2.2.1, hcu]
  refine ⟨vp_in_nI (by omega) (by decide), vp_in_nI hu36 (by decide), fun x hx => ?_⟩
  subst hx
  have hnext : ¬ (tl (u i) = 1 ∨ (tl (u i) = 2 ∧ wk)) → zq8_mayLie_76 v1 (nI i) σ Q (fun v2' => (∃ i, i ≤ n ∧ v2' = nI i ∧ ∀ j, j < i → ¬ (tl (u j) = 1 ∨ (tl (u j) = 2 ∧ wk))) ∧ n - v2'.toNatClampNeg < n - (nI i).toNatClampNeg) := by
    intro hbi
    unfold zq8_mayLie_76
    have h1i : nI i + 1 = nI (i + 1) := nI_1 i
    have hc1 : (nI (i + 1)).toNatClampNeg = i + 1 := nI_clamp (by omega)
    rw [h1i]
    refine ⟨⟨i + 1, hlt, rfl, fun j hj => ?_⟩, by rw [hc1, hci]; omega⟩
    rcases Nat.lt_succ_iff_lt_or_eq.mp hj with z | z
    · exact hb j z
    · rw [z]; exact hbi
  have h01 : ¬ (1 : Int32) = 0 := by decide
  have h21 : ¬ (2 : Int32) = 1 := by decide
  refine ⟨fun q1 => h0 (fun z => z i hlt (Or.inl q1)), fun q1 => ⟨fun q2 => hnext ?_, fun q2 => ⟨fun q3 => hnext ?_, fun q3 => h0 (fun z => z i hlt (Or.inr ⟨q2, ?_⟩))⟩⟩⟩
  · rintro (z | z)
    · exact q1 z
    · exact q2 z.1
  · rintro (z | z)
    · exact q1 z
    · rcases hw with w | w
      · exact w.2 z.2
      · exact h01 (w.1.symm.trans q3)
  · rcases hw with w | w
    · exact absurd w.1 q3
    · exact w.2
theorem e8_mayLie {Q : Int32 → zz_St → Prop} (hB : MB σ r c k tl pr) (hd : zs_dim r c k) (hk : ¬ 4 ≤ k) {pl s : Nat} (hF : MF σ false pl s) (hs : s < 24) (hp : pl < r * c)
    (h1 : ∀ σ2, zx σ σ2 [12] [11] → zs_may r c k tl (pl / c) (pl % c) (zs_lie k s) → Q 1 σ2)
    (h0 : ∀ σ2, zx σ σ2 [12] [11] → ¬ zs_may r c k tl (pl / c) (pl % c) (zs_lie k s) → Q 0 σ2) : zq8_mayLie σ Q := by
  unfold zq8_mayLie
  have hrc := zs_rc hd.2.1 hd.2.2.2.1
  have hdv := zs_div_lt hp
  refine e8_tellsUnder hB hd hk hF hs hp (fun σ2 x a1 a2 hu => ?_) (fun σ2 x a hu => ?_)
  rotate_left
  · refine ⟨fun q => absurd rfl q, fun _ => h0 σ2 x (fun z => a ⟨z.1.2.2.1, z.1.2.2.2⟩)⟩
  refine ⟨fun _ => ?_, fun q => absurd q (by decide)⟩
  have hB2 := hB.x x (by decide)
  have hF2 := hF.x x (by decide)
  have hmay : zs_may r c k tl (pl / c) (pl % c) (zs_lie k s) ↔ ¬ zs_bar k (zs_lie k s) (tl pl) ∧ ¬ zs_bar k (zs_lie k s) (tl (zs_snd c (zs_lie k s) pl)) := by
    unfold zs_may
    rw [zs_divadd]
    exact ⟨fun z => z.2, fun z => ⟨⟨hdv.1, hdv.2, a1, a2⟩, z⟩⟩
  have hsl := zs_snd_lt hp a1 a2
  have hl3 := zs_lie_lt k s
  have key : ∀ v1 : Int32, ((v1 = 0 ∧ ¬ zs_weak k (zs_lie k s)) ∨ (v1 = 1 ∧ zs_weak k (zs_lie k s))) → zq8_mayLie_40 v1 0 σ2 Q := by
    intro v1 hw
    by_cases hl : zs_lie k s = 0
    · have hsnd : zs_snd c (zs_lie k s) pl = pl := by rw [hl]; rfl
      refine e8_mayLie_40 hB2 (n := 1) (by decide) (hu.2.1 hl) (fun _ => pl) (fun i hi => ?_) v1 _ hw (fun z => h1 σ2 x (hmay.mpr ?_)) (fun z => h0 σ2 x (fun y => z ?_))
      · have : i = 0 := by omega
        rw [this]; exact ⟨hu.1, by omega⟩
      · rw [hsnd]; exact ⟨z 0 (by decide), z 0 (by decide)⟩
      · intro i _; exact (hmay.mp y).1
    · refine e8_mayLie_40 hB2 (n := 2) (by decide) (hu.2.2 hl).1 (fun i => if i = 0 then pl else zs_snd c (zs_lie k s) pl) (fun i hi => ?_) v1 _ hw (fun z => h1 σ2 x (hmay.mpr ?_)) (fun z => h0 σ2 x (fun y => z ?_))
      · by_cases e : i = 0
        · rw [e]; exact ⟨hu.1, by rw [if_pos rfl]; omega⟩
        · have : i = 1 := by omega
          rw [this]; exact ⟨(hu.2.2 hl).2, by rw [if_neg (by decide)]; omega⟩
      · exact ⟨z 0 (by decide), z 1 (by decide)⟩
      · intro i hi
        by_cases e : i = 0
        · simp only [if_pos e]; exact (hmay.mp y).1
        · simp only [if_neg e]; exact (hmay.mp y).2
  have ek1 : nI k = 1 ↔ k = 1 := nI_eq (b := 1) (by omega) (by decide)
  have ek3 : nI k = 3 ↔ k = 3 := nI_eq (b := 3) (by omega) (by decide)
  have y1 : zs_weak k (zs_lie k s) → zq8_mayLie_32 σ2 Q := fun w => by unfold zq8_mayLie_32 zq8_mayLie_37; exact key 1 (Or.inr ⟨rfl, w⟩)
  have y0 : ¬ zs_weak k (zs_lie k s) → zq8_mayLie_36 σ2 Q := fun w => by unfold zq8_mayLie_36 zq8_mayLie_37; exact key 0 (Or.inl ⟨rfl, w⟩)
  rw [hB2.2.2.1, ek1, ek3]
  refine ⟨fun q => y1 (Or.inl q), fun q => ⟨fun q2 => y0 (fun w => ?_), fun q2 => ?_⟩⟩
  · rcases w with w | w
    · exact q w
    · exact q2 w.1
  · refine e8_lying hF2 hs ?_
    have hlk : zs_lie k s = zs_LC s := if_pos (Or.inr q2)
    have hL := zs_LC_lt s
    have e0 : nI (zs_LC s) = 0 ↔ zs_LC s = 0 := nI_eq (b := 0) (by omega) (by decide)
    rw [e0]
    refine ⟨fun z => y0 (fun w => ?_), fun z => y1 (Or.inr ⟨q2, by rw [hlk]; exact z⟩)⟩
    rcases w with w | w
    · exact q w
    · exact w.2 (hlk.trans z)
theorem e8_mayLie_t {Q : Int32 → zz_St → Prop} (hB : MB σ r c k tl pr) (hd : zs_dim r c k) (hk : 4 ≤ k) {pl : Nat} (h8 : σ.1 8 = nI pl) (hp : pl < 2 * (r * c))
    (h1 : ∀ σ2, zx σ σ2 [12] [11] → ¬ tl (pl / 2) = 1 → Q 1 σ2)
    (h0 : ∀ σ2, zx σ σ2 [12] [11] → tl (pl / 2) = 1 → Q 0 σ2) : zq8_mayLie σ Q := by
  unfold zq8_mayLie zq8_tellsUnder
  have hrc := zs_rc hd.2.1 hd.2.2.2.1
  intro g hg
  have x1 : zx σ g [12] [11] := by rw [hg]; exact zx.I 12 _ (by decide)
  refine e8_isTetra (hB.x x1 (by decide)) hd (fun _ => ?_) (fun q => absurd hk q)
  refine ⟨fun q => absurd q (by decide), fun _ => ⟨vp_in_nI (n := 0) (by decide) (by decide), fun g2 hg2 => ?_⟩⟩
  have x2 : zx σ g2 [12] [11] := by rw [hg2]; exact x1.tr (zx.A 11 _ (by decide))
  have h8g : g.1 8 = nI pl := (x1.1 8 (by decide)).trans h8
  have h82 : g2.1 8 = nI pl := (x2.1 8 (by decide)).trans h8
  have n2 : g2.1 12 = 1 := by rw [hg2, zz_A1, hg, zz_I1, if_pos rfl]
  have u0 : g2.2.1 11 0 = nI (pl / 2) := by rw [hg2, zz_A2, if_pos rfl, zt_0, pk_us, h8g, zs_2 (by omega)]
  have hB2 := hB.x x2 (by decide)
  refine e8_tileMany hB2 ?_
  rw [h82, show (2 : Int32) * nI (r * c) = nI (2 * (r * c)) from pk_mul 2 (r * c)]
  refine e8_inN (by omega) (fun _ => ⟨Or.inr rfl, ?_⟩) (fun q => absurd (vp_in_nI hp (by omega)) q)
  refine ⟨fun _ => ?_, fun q => absurd q (by decide)⟩
  have ek1 : nI k = 1 ↔ k = 1 := nI_eq (b := 1) (by have := hd.2.2.2.2; omega) (by decide)
  have ek3 : nI k = 3 ↔ k = 3 := nI_eq (b := 3) (by have := hd.2.2.2.2; omega) (by decide)
  rw [hB2.2.2.1, ek1, ek3]
  refine ⟨fun q => by omega, fun _ => ⟨fun _ => ?_, fun q => by omega⟩⟩
  unfold zq8_mayLie_36 zq8_mayLie_37
  refine e8_mayLie_40 hB2 (n := 1) (by decide) n2 (fun _ => pl / 2) (fun i hi => ?_) 0 False (Or.inl ⟨rfl, fun z => z⟩) (fun z => h1 g2 x2 (fun y => z 0 (by decide) (Or.inl y))) (fun z => h0 g2 x2 (Classical.byContradiction fun y => z (fun i _ w => ?_)))
  · have : i = 0 := by omega
    rw [this]; exact ⟨u0, by omega⟩
  · rcases w with w | w
    · exact y w
    · exact w.2
end M3
