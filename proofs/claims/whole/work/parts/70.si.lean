/-! call: walk -/
/-- which states still lead there, as marks, from the i-th on -/
def OB (σ : zz_St) (O : Nat → Prop) (i n : Nat) : Prop := ∀ j, i ≤ j → j < n → (O j ∧ σ.2.1 33 j = 1) ∨ (¬ O j ∧ σ.2.1 33 j = 0)
section WB
variable {σ τ : zz_St} {r c k x0 : Nat} {tl pr : Nat → Int32}
theorem e8_wayAt_79 {Q : Int32 → zz_St → Prop} {B36 : Int32 → zz_St → Prop} {l : List (Nat × Nat × Nat)} {G : Nat → Prop} {D i : Nat} {e : Nat × Nat × Nat} {v1 v2 v3 : Int32} (hL : ML σ (zs_te k) l) (hN : MN σ (zs_st r c k tl pr) l (4 * l.length)) (hlen : l.length ≤ 864) (hfar : ∀ (i : Nat) (e : Nat × Nat × Nat), l[i]? = some e → e.2.2 ≤ i) (hmono : ∀ (j i : Nat) (e f : Nat × Nat × Nat), l[i]? = some e → l[j]? = some f → i ≤ j → e.2.2 ≤ f.2.2) (hnd : ∀ (i j : Nat) (e f : Nat × Nat × Nat), l[i]? = some e → l[j]? = some f → e.1 = f.1 → i = j) (hD : D < 2 ^ 31) (he : l[i]? = some e)
    (hob : OB σ (OKx (zs_st r c k tl pr) l G D) (i + 1) l.length) (h33 : ((e.2.2 = D ∧ G e.1) ∧ σ.2.1 33 i = 1) ∨ (¬ (e.2.2 = D ∧ G e.1) ∧ σ.2.1 33 i = 0))
    (h : ∀ σ2, zx σ σ2 [] [33] → OB σ2 (OKx (zs_st r c k tl pr) l G D) i l.length → B36 (nI i + -1) σ2) : zq8_wayAt_79 v1 v2 v3 (nI D) (nI i) 0 σ Q B36 := by
  have hil := (List.getElem?_eq_some_iff.mp he).1
  have ci : (nI i).toNatClampNeg = i := nI_clamp (by omega)
  have vi : vp_in (nI i) 900 := vp_in_nI (by omega) (by decide)
  unfold zq8_wayAt_79
  generalize zs_st r c k tl pr = st at *
  refine ⟨fun v6 σ2 => ∃ w, w ≤ 4 ∧ v6 = nI w ∧ (zx σ σ2 [] [33] ∧ OB σ2 (OKx st l G D) (i + 1) l.length ∧ ((OKx st l G D i ∧ σ2.2.1 33 i = 1) ∨ (¬ (e.2.2 = D ∧ G e.1) ∧ σ2.2.1 33 i = 0 ∧ ∀ w', w' < w → ∀ (y j : Nat) (f : Nat × Nat × Nat), st e.1 w' = some y → l[j]? = some f → f.1 = y → f.2.2 = e.2.2 + 1 → ¬ OKx st l G D j))), fun v6 _ => 4 - v6.toNatClampNeg, ⟨0, by decide, rfl, zx.rf, hob, ?_⟩, ?_⟩
  · rcases h33 with ⟨⟨a, b⟩, c'⟩ | ⟨a, c'⟩
    · exact Or.inl ⟨⟨0, e, he, a, b⟩, c'⟩
    · exact Or.inr ⟨a, c', fun w' hw' => absurd hw' (Nat.not_lt_zero _)⟩
  rintro v6 σ2 ⟨w, hw4, rfl, x2, ob2, hph⟩
  have hL2 := hL.x x2 (by decide)
  have hN2 := hN.x x2 (by decide)
  have fin : ((OKx st l G D i ∧ σ2.2.1 33 i = 1) ∨ (¬ OKx st l G D i ∧ σ2.2.1 33 i = 0)) → B36 (nI i + -1) σ2 := by
    intro hh
    refine h σ2 x2 (fun j h1 h2 => ?_)
    rcases Nat.lt_or_ge i j with z | z
    · exact ob2 j z h2
    · have : j = i := by omega
      rw [this]; exact hh
  refine ⟨fun q => ?_, fun q => ?_⟩
  · have := zl_end (N := 4) hw4 (by decide) q
    subst this
    unfold zq8_wayAt_173
    refine fin ?_
    rcases hph with z | ⟨a, b, c'⟩
    · exact Or.inl z
    · refine Or.inr ⟨?_, b⟩
      rintro ⟨m, hm⟩
      cases m with
      | zero =>
        obtain ⟨e', a1, a2, a3⟩ := hm
        rw [he] at a1; cases a1
        exact a ⟨a2, a3⟩
      | succ m =>
        obtain ⟨e', w', y, j', f, a1, a2, a3, a4, a5, a6, a7⟩ := hm
        rw [he] at a1; cases a1
        exact c' w' a2 y j' f a3 a4 a5 a6 ⟨m, a7⟩
  · have hw := zl_go (N := 4) hw4 (by decide) q
    unfold zq8_wayAt_173
    refine ⟨vi, ?_⟩
    rw [ci]
    rcases hph with ⟨a, b⟩ | ⟨a, b, c'⟩
    · exact zNf (by rw [b]; decide) (fin (Or.inl ⟨a, b⟩))
    · refine zNt b ⟨vi, ?_⟩
      rw [(hL2.2 i e he).2.2]
      have hfe := hfar i e he
      refine pk_le D e.2.2 (fun u => fin (Or.inr ⟨?_, b⟩)) (fun u => ?_)
      · rintro ⟨m, hm⟩
        cases m with
        | zero =>
          obtain ⟨e', a1, a2, a3⟩ := hm
          rw [he] at a1; cases a1
          exact a ⟨a2, a3⟩
        | succ m =>
          obtain ⟨e', a1, a2⟩ := hm.far
          rw [he] at a1; cases a1
          omega
      · have e4 : (4 : Int32) * nI i + nI w = nI (4 * i + w) := by rw [show (4 : Int32) * nI i = nI (4 * i) from pk_mul 4 i, nI_add]
        have ct : (nI (4 * i + w)).toNatClampNeg = 4 * i + w := nI_clamp (by omega)
        have hdiv : (4 * i + w) / 4 = i := by omega
        have hmod : (4 * i + w) % 4 = w := by omega
        have leaf : ∀ g26, zx σ2 g26 [] [33] → (∀ j, ¬ j = i → g26.2.1 33 j = σ2.2.1 33 j) → ((OKx st l G D i ∧ g26.2.1 33 i = 1) ∨ (g26.2.1 33 i = 0 ∧ ∀ (y j : Nat) (f : Nat × Nat × Nat), st e.1 w = some y → l[j]? = some f → f.1 = y → f.2.2 = e.2.2 + 1 → ¬ OKx st l G D j)) → (∃ w', w' ≤ 4 ∧ nI w + 1 = nI w' ∧ (zx σ g26 [] [33] ∧ OB g26 (OKx st l G D) (i + 1) l.length ∧ ((OKx st l G D i ∧ g26.2.1 33 i = 1) ∨ (¬ (e.2.2 = D ∧ G e.1) ∧ g26.2.1 33 i = 0 ∧ ∀ w'', w'' < w' → ∀ (y j : Nat) (f : Nat × Nat × Nat), st e.1 w'' = some y → l[j]? = some f → f.1 = y → f.2.2 = e.2.2 + 1 → ¬ OKx st l G D j)))) ∧ 4 - (nI w + 1).toNatClampNeg < 4 - (nI w).toNatClampNeg := by
          intro g26 x26 hk hh
          refine zl_leaf (J := fun w' g26 => zx σ g26 [] [33] ∧ OB g26 (OKx st l G D) (i + 1) l.length ∧ ((OKx st l G D i ∧ g26.2.1 33 i = 1) ∨ (¬ (e.2.2 = D ∧ G e.1) ∧ g26.2.1 33 i = 0 ∧ ∀ w'', w'' < w' → ∀ (y j : Nat) (f : Nat × Nat × Nat), st e.1 w'' = some y → l[j]? = some f → f.1 = y → f.2.2 = e.2.2 + 1 → ¬ OKx st l G D j))) hw (by decide) ⟨x2.tr x26, fun j h1 h2 => ?_, ?_⟩
          · rw [hk j (by omega)]
            exact ob2 j h1 h2
          · rcases hh with z | ⟨z1, z2⟩
            · exact Or.inl z
            · refine Or.inr ⟨a, z1, fun w'' hw'' => ?_⟩
              rcases Nat.lt_succ_iff_lt_or_eq.mp hw'' with u2 | u2
              · exact c' w'' u2
              · rw [u2]; exact z2
        have wrA : ∀ b : Int32, zx σ2 (zz_A σ2 33 (upd (σ2.2.1 33) i b)) [] [33] := fun b => zx.A 33 _ (by decide)
        have off : (∀ (y j : Nat) (f : Nat × Nat × Nat), st e.1 w = some y → l[j]? = some f → f.1 = y → f.2.2 = e.2.2 + 1 → ¬ OKx st l G D j) → zq8_wayAt_165 v1 v2 v3 (nI D) (nI i) (nI w) (nI i) σ2 Q B36 (fun v6' σ' => (∃ w', w' ≤ 4 ∧ v6' = nI w' ∧ (zx σ σ' [] [33] ∧ OB σ' (OKx st l G D) (i + 1) l.length ∧ ((OKx st l G D i ∧ σ'.2.1 33 i = 1) ∨ (¬ (e.2.2 = D ∧ G e.1) ∧ σ'.2.1 33 i = 0 ∧ ∀ w'', w'' < w' → ∀ (y j : Nat) (f : Nat × Nat × Nat), st e.1 w'' = some y → l[j]? = some f → f.1 = y → f.2.2 = e.2.2 + 1 → ¬ OKx st l G D j)))) ∧ 4 - v6'.toNatClampNeg < 4 - (nI w).toNatClampNeg) := by
          intro hh
          unfold zq8_wayAt_165 zq8_wayAt_166
          refine ⟨vi, fun g26 e26 => ?_⟩
          rw [ci, vp_nar_b0] at e26
          refine leaf g26 (by rw [e26]; exact wrA 0) (fun j hj => by rw [e26, zz_A2, if_pos rfl, pk_un hj]) (Or.inr ⟨by rw [e26, zz_A2, if_pos rfl, pk_us], hh⟩)
        rw [e4, ct]
        refine ⟨vp_in_nI (by omega) (by decide), fun x30 e30 => ?_⟩
        rcases hN2 (4 * i + w) (by omega) e (by rw [hdiv]; exact he) with ⟨n1, n2⟩ | ⟨y, j, f, n1, n2, n3, n4⟩
        · rw [n2] at e30
          subst e30
          rw [hmod] at n1
          exact zYt (by decide) (off (fun y j f hy => by rw [n1] at hy; cases hy))
        · rw [n4] at e30
          subst e30
          rw [hmod] at n1
          have hj := (List.getElem?_eq_some_iff.mp n2).1
          have hfj := hfar j f n2
          have cj : (nI j).toNatClampNeg = j := nI_clamp (by omega)
          have vj : vp_in (nI j) 900 := vp_in_nI (by omega) (by decide)
          have uni : ∀ (y' j' : Nat) (f' : Nat × Nat × Nat), st e.1 w = some y' → l[j']? = some f' → f'.1 = y' → j' = j ∧ f' = f := by
            intro y' j' f' h1 h2 h3
            rw [n1] at h1; cases h1
            have : j' = j := hnd j' j f' f h2 n2 (by rw [h3, n3])
            subst this
            rw [h2] at n2; cases n2
            exact ⟨rfl, rfl⟩
          refine zYf (nI_pos (by omega)) ⟨vj, vi, ?_⟩
          rw [cj, (hL2.2 j f n2).2.2, nI_1, nI_eq (a := f.2.2) (b := e.2.2 + 1) (by omega) (by omega)]
          refine ⟨fun u2 => off (fun y' j' f' h1 h2 h3 h4 => absurd (by rw [(uni y' j' f' h1 h2 h3).2] at h4; exact h4) u2), fun u2 => ⟨vj, ?_⟩⟩
          have hij : i + 1 ≤ j := by
            rcases Nat.lt_or_ge i j with z | z
            · exact z
            · have := hmono i j f e n2 he z
              omega
          rcases ob2 j hij hj with ⟨o1, o2⟩ | ⟨o1, o2⟩
          · rw [o2]
            refine zYf n10 ?_
            unfold zq8_wayAt_166
            refine ⟨vi, fun g26 e26 => ?_⟩
            rw [ci, vp_nar_b1] at e26
            obtain ⟨m, hm⟩ := o1
            exact leaf g26 (by rw [e26]; exact wrA 1) (fun j hj => by rw [e26, zz_A2, if_pos rfl, pk_un hj]) (Or.inl ⟨⟨m + 1, e, w, y, j, f, he, hw, n1, n2, n3, u2, hm⟩, by rw [e26, zz_A2, if_pos rfl, pk_us]⟩)
          · rw [o2]
            exact zYt rfl (off (fun y' j' f' h1 h2 h3 h4 => by rw [(uni y' j' f' h1 h2 h3).1]; exact o1))
/-- the first ways that still lead there are the first goal's -/
theorem e8_wayAt_188 {Q : Int32 → zz_St → Prop} {l : List (Nat × Nat × Nat)} {G : Nat → Prop} {D g kk : Nat} (hl : l = bf (zs_st r c k tl pr) x0 3600) (hL : ML σ (zs_te k) l) (hN : MN σ (zs_st r c k tl pr) l (4 * l.length)) (hlen : l.length ≤ 864) (hg : FX l G D g) (hk : kk < D)
    (hob : OB σ (OKx (zs_st r c k tl pr) l G D) 0 l.length) (h : ∀ e : Nat × Nat × Nat, l[zan l g (D - 1 - kk)]? = some e → Q (nI (e.2.1 % 4)) σ) : zq8_wayAt_188 (nI kk) 0 0 0 σ Q := by
  have hfar : ∀ (i : Nat) (e : Nat × Nat × Nat), l[i]? = some e → e.2.2 ≤ i := fun i e he => by rw [hl] at he; exact bf_far_le _ i e he
  have hD : D ≤ 864 := by
    obtain ⟨e, a, _, b, _⟩ := hg
    have := hfar g e a
    have := (List.getElem?_eq_some_iff.mp a).1
    omega
  unfold zq8_wayAt_188
  generalize zs_st r c k tl pr = st at *
  have hnd : ∀ (i j : Nat) (e f : Nat × Nat × Nat), l[i]? = some e → l[j]? = some f → e.1 = f.1 → i = j := fun i j e f h1 h2 => by rw [hl] at h1 h2; exact bf_nodup _ i j e f h1 h2
  have hzok := fun m hm => zan_ok (st := st) (x0 := x0) (n := 3600) (G := G) (D := D) (g := g) (by rw [← hl]; exact hg) m hm
  have hzpos := fun m hm => zan_pos (st := st) (x0 := x0) (n := 3600) (G := G) (D := D) (g := g) (by rw [← hl]; exact hg) (m := m) hm
  have hzless := zan_less (st := st) (x0 := x0) (n := 3600) (G := G) (D := D) (g := g) (by rw [← hl]; exact hg) (by rw [← hl]; omega)
  have hztop := zan_top (st := st) (x0 := x0) (n := 3600) (G := G) (D := D) (g := g) (by rw [← hl]; exact hg)
  have hbef := fun (i w y j : Nat) (e f : Nat × Nat × Nat) h1 h2 h3 h4 h5 h6 => bf_bef (st := st) (x0 := x0) 3600 i w y j e f h1 h2 h3 h4 h5 h6
  have hlow := fun (j i : Nat) (f e : Nat × Nat × Nat) h1 h2 h3 h4 => bf_low (st := st) (x0 := x0) (n := 3600) (j := j) (i := i) (f := f) (e := e) h1 h2 h3 h4
  have hent := fun (i : Nat) (e : Nat × Nat × Nat) h1 h2 => bf_ent (st := st) (x0 := x0) 3600 i e h1 h2
  rw [← hl] at hzok hzpos hzless hztop hbef hlow
  rw [← hl] at hent
  refine ⟨fun v5 v6 v7 => ∃ t, t ≤ kk + 1 ∧ v7 = nI t ∧ v5 = nI (zan l g (D - t)) ∧ (t = 0 ∨ ∃ e : Nat × Nat × Nat, l[zan l g (D - t)]? = some e ∧ v6 = nI (e.2.1 % 4)), fun _ _ v7 => kk + 1 - v7.toNatClampNeg, ⟨0, Nat.zero_le _, rfl, by rw [Nat.sub_zero, hztop]; rfl, Or.inl rfl⟩, ?_⟩
  rintro v5 v6 v7 ⟨t, ht, rfl, rfl, hv⟩
  refine pk_lt kk t (fun q => ?_) (fun q => ?_)
  · rcases hv with z | ⟨e, he, rfl⟩
    · omega
    · have : t = kk + 1 := by omega
      subst this
      rw [show D - (kk + 1) = D - 1 - kk from by omega] at he
      exact h e he
  · clear hv
    obtain ⟨m, hm⟩ : ∃ m, D - t = m + 1 := ⟨D - t - 1, by omega⟩
    have hm2 : D - (t + 1) = m := by omega
    obtain ⟨ea, a1, a2, a3⟩ := hzok (m + 1) (by omega)
    obtain ⟨eg, g1, g2, g3⟩ := hzok m (by omega)
    have hpos := hzpos m (by omega)
    have ez : zan l g (m + 1) = eg.2.1 / 4 := zpa_e g1
    obtain ⟨b1, b2, b3, p, b4, b5, b6, b7⟩ := hent _ eg g1 hpos
    rw [hm]
    have hal := (List.getElem?_eq_some_iff.mp a1).1
    rw [ez] at a1 a3 hal ⊢
    have hp : p = ea := by
      have : some p = some ea := b4.symm.trans a1
      exact Option.some.inj this
    subst hp
    have ca : (nI (eg.2.1 / 4)).toNatClampNeg = eg.2.1 / 4 := nI_clamp (by omega)
    have va : vp_in (nI (eg.2.1 / 4)) 900 := vp_in_nI (by omega) (by decide)
    have hpf := hfar _ p a1
    unfold zq8_wayAt_197
    refine ⟨fun v6 => ∃ w, w ≤ eg.2.1 % 4 ∧ v6 = nI w, fun v6 => 4 - v6.toNatClampNeg, ⟨0, Nat.zero_le _, rfl⟩, ?_⟩
    rintro v6 ⟨w, hw, rfl⟩
    have hw4 : w < 4 := by omega
    have e4 : (4 : Int32) * nI (eg.2.1 / 4) + nI w = nI (4 * (eg.2.1 / 4) + w) := by rw [show (4 : Int32) * nI (eg.2.1 / 4) = nI (4 * (eg.2.1 / 4)) from pk_mul 4 _, nI_add]
    have ct : (nI (4 * (eg.2.1 / 4) + w)).toNatClampNeg = 4 * (eg.2.1 / 4) + w := nI_clamp (by omega)
    have vt : vp_in (nI (4 * (eg.2.1 / 4) + w)) 3600 := vp_in_nI (by omega) (by decide)
    have hdiv : (4 * (eg.2.1 / 4) + w) / 4 = eg.2.1 / 4 := by omega
    have hmod : (4 * (eg.2.1 / 4) + w) % 4 = w := by omega
    rw [e4, ct, ca]
    have next : (∀ y j (f : Nat × Nat × Nat), st p.1 w = some y → l[j]? = some f → f.1 = y → f.2.2 = p.2.2 + 1 → ¬ OKx st l G D j) → zq8_wayAt_261 (nI kk) (nI (eg.2.1 / 4)) (nI w) (nI t) σ Q (fun v5' v6' v7' => (∃ t', t' ≤ kk + 1 ∧ v7' = nI t' ∧ v5' = nI (zan l g (D - t')) ∧ (t' = 0 ∨ ∃ e : Nat × Nat × Nat, l[zan l g (D - t')]? = some e ∧ v6' = nI (e.2.1 % 4))) ∧ kk + 1 - v7'.toNatClampNeg < kk + 1 - (nI t).toNatClampNeg) (fun v6' => (∃ w, w ≤ eg.2.1 % 4 ∧ v6' = nI w) ∧ 4 - v6'.toNatClampNeg < 4 - (nI w).toNatClampNeg) := by
      intro hh
      unfold zq8_wayAt_261
      have hlt : w < eg.2.1 % 4 := by
        rcases Nat.lt_or_ge w (eg.2.1 % 4) with z | z
        · exact z
        · have : w = eg.2.1 % 4 := by omega
          exact absurd ⟨m, g3⟩ (hh eg.1 _ eg (by rw [this]; exact b5) g1 rfl b6)
      rw [nI_1]
      refine ⟨⟨w + 1, hlt, rfl⟩, ?_⟩
      rw [nI_clamp (n := w + 1) (by omega), nI_clamp (n := w) (by omega)]
      omega
    refine ⟨vt, ?_⟩
    rcases hN (4 * (eg.2.1 / 4) + w) (by omega) p (by rw [hdiv]; exact a1) with ⟨n1, n2⟩ | ⟨y, j, f, n1, n2, n3, n4⟩
    · rw [n2]
      rw [hmod] at n1
      exact zYt (by decide) (next (fun y j f hy => by rw [n1] at hy; cases hy))
    · rw [n4]
      rw [hmod] at n1
      have hj := (List.getElem?_eq_some_iff.mp n2).1
      have hfj := hfar j f n2
      have cj : (nI j).toNatClampNeg = j := nI_clamp (by omega)
      have vj : vp_in (nI j) 900 := vp_in_nI (by omega) (by decide)
      have uni : ∀ (y' j' : Nat) (f' : Nat × Nat × Nat), st p.1 w = some y' → l[j']? = some f' → f'.1 = y' → j' = j ∧ f' = f := by
        intro y' j' f' h1 h2 h3
        rw [n1] at h1; cases h1
        have : j' = j := hnd j' j f' f h2 n2 (by rw [h3, n3])
        subst this
        rw [h2] at n2; cases n2
        exact ⟨rfl, rfl⟩
      rw [cj]
      refine zYf (nI_pos (by omega)) ⟨vt, vj, va, ?_⟩
      rw [(hL.2 j f n2).2.2, (hL.2 _ p a1).2.2, nI_1, nI_eq (a := f.2.2) (b := p.2.2 + 1) (by omega) (by omega)]
      refine ⟨fun u2 => next (fun y' j' f' h1 h2 h3 h4 => absurd (by rw [(uni y' j' f' h1 h2 h3).2] at h4; exact h4) u2), fun u2 => ⟨vt, vj, ?_⟩⟩
      rcases hob j (Nat.zero_le _) hj with ⟨o1, o2⟩ | ⟨o1, o2⟩
      · rw [o2]
        refine zNf n10 ⟨vt, fun x38 e38 => ?_⟩
        subst e38
        obtain ⟨m', hm'⟩ := o1
        obtain ⟨f', f1, f2⟩ := hm'.far
        rw [n2] at f1; cases f1
        have em : m' = m := by omega
        subst em
        have hge : ¬ j < zan l g m' := fun z => hzless m' (by omega) j z hm'
        have hbj := hbef _ w y j p f a1 (by omega) hw4 n1 n2 n3
        have hjw : w = eg.2.1 % 4 := by
          rcases Nat.lt_or_ge w (eg.2.1 % 4) with z | z
          · exact absurd (hlow j _ f eg n2 g1 hpos (by rcases hbj with z2 | z2; · exact Or.inl z2
                                                       · exact Or.inr (by omega))) hge
          · omega
        have hje : j = zan l g m' := hnd j _ f eg n2 g1 (by rw [n3]; rw [← hjw] at b5; rw [n1] at b5; cases b5; rfl)
        refine ⟨⟨t + 1, by omega, nI_1 t, by rw [hm2, hje], Or.inr ⟨eg, by rw [hm2]; exact g1, by rw [hjw]⟩⟩, ?_⟩
        show kk + 1 - (nI t + 1).toNatClampNeg < kk + 1 - (nI t).toNatClampNeg
        rw [nI_1, nI_clamp (n := t + 1) (by omega), nI_clamp (n := t) (by omega)]
        omega
      · rw [o2]
        exact zNt rfl (next (fun y' j' f' h1 h2 h3 h4 => by rw [(uni y' j' f' h1 h2 h3).1]; exact o1))
end WB
