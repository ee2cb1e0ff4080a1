/-! calls: tile, places -/
section CD0
variable {σ σ' τ τ' : zz_St} {ks js ks' js' : List Nat}
/-- scratch alone has changed -/
theorem Rel.sc (h : Rel σ τ) (hx : zy σ σ' ks js) (hy : zy τ τ' ks' js') (h1 : okE ks js ks' js') (h2 : ok0 ks js ks' js') (h3 : 8 ∉ ks ∧ 10 ∉ js ∧ 8 ∉ ks') : Rel σ' τ' := by
  obtain ⟨r, c, k, h0⟩ := h.1
  exact h.r0 hx hy h1 (h0.x hx hy h2 h3)
/-- place and faces were changed and are as before -/
theorem R0.eq {r c k : Nat} (h : R0 r c k σ τ) (hx : zy σ σ' ks js) (hy : zy τ τ' ks' js') (h2 : ok0 ks js ks' js') (h3 : 8 ∉ ks') (h8 : σ'.1 8 = σ.1 8) (h10 : ∀ i, i < 6 → σ'.2.1 10 i = σ.2.1 10 i) : R0 r c k σ' τ' := by
  refine ⟨h.1.x hx h2.1, h.2.1.x hy h2.2.1, ?_, h.2.2.2.x hx hy h2.2.2.1⟩
  obtain ⟨a1, a2, a3, a4, a5⟩ := h.2.2.1
  unfold RW
  rw [hx.1 9 h2.2.2.1.1.2.1, h8, hx.1 6 h2.2.2.2.1, hy.1 8 h3, hy.1 10 h2.2.2.2.2.2.2.1, hx.2 4 h2.2.2.2.2.1, hx.2 5 h2.2.2.2.2.2.1, hy.2 14 h2.2.2.2.2.2.2.2.1, hy.2 16 h2.2.2.2.2.2.2.2.2]
  refine ⟨a1, a2, a3, a4, ?_⟩
  rcases a5 with z | ⟨z1, x, z2, z3, z4, z5⟩
  · exact Or.inl z
  · exact Or.inr ⟨z1, x, z2, z3, fun i hi => (h10 i hi).trans (z4 i hi), z5⟩
theorem Rel.eq (h : Rel σ τ) (hx : zy σ σ' ks js) (hy : zy τ τ' ks' js') (h1 : okE ks js ks' js') (h2 : ok0 ks js ks' js') (h3 : 8 ∉ ks') (h8 : σ'.1 8 = σ.1 8) (h10 : ∀ i, i < 6 → σ'.2.1 10 i = σ.2.1 10 i) : Rel σ' τ' := by
  obtain ⟨r, c, k, h0⟩ := h.1
  exact h.r0 hx hy h1 (h0.eq hx hy h2 h3 h8 h10)
theorem R0.tiles {r c k : Nat} {f f' : Nat → Int32} (h : R0 r c k σ τ) (hf : ∀ i, i < 36 → f i = f' i) : R0 r c k (zz_A σ 4 f) (zz_A τ 14 f') := by
  have x1 : zy σ (zz_A σ 4 f) [] [4] := (zx.A 4 _ (by decide)).y
  have x2 : zy τ (zz_A τ 14 f') [] [14] := (zx.A 14 _ (by decide)).y
  refine ⟨h.1.x x1 (by decide), h.2.1.x x2 (by decide), ?_, h.2.2.2.x x1 x2 (by decide)⟩
  obtain ⟨a1, a2, a3, a4, a5⟩ := h.2.2.1
  unfold RW
  rw [x1.2 10 (by decide), x1.2 5 (by decide), x2.2 16 (by decide), zz_A2, if_pos rfl, zz_A2, if_pos rfl]
  exact ⟨a1, hf, a3, a4, a5⟩
end CD0
section CD1
variable {σ τ : zz_St} {r c k x : Nat} {tl pr : Nat → Int32}
theorem e6_stands {Q : Int32 → Prop} (hB : CB τ r c k tl pr) (hT : CT τ) (hk : k < 6) (hx : x < 2 ^ 31) (h1 : zs_lie k (x % 24) = 0 → Q 1) (h0 : ¬ zs_lie k (x % 24) = 0 → Q 0) : zq6_stands (nI x) τ Q := by
  unfold zq6_stands
  rw [zs_rem24 hx]
  refine e6_lie hB hT hk (Nat.mod_lt _ (by decide)) ?_
  have hl3 := zs_lie_lt k (x % 24)
  have e0 : nI (zs_lie k (x % 24)) = 0 ↔ zs_lie k (x % 24) = 0 := nI_eq (b := 0) (by omega) (by decide)
  rw [e0]
  exact ⟨h0, h1⟩
theorem e6_wouldBar {Q : Int32 → Prop} {v : Int32} (hB : CB τ r c k tl pr) (hT : CT τ) (hk : k < 6) (hx : x < 2 ^ 31) (h8 : τ.1 8 = nI x) (h1 : zs_bar k (zs_lie k (x % 24)) v → Q 1) (h0 : ¬ zs_bar k (zs_lie k (x % 24)) v → Q 0) : zq6_wouldBar v τ Q := by
  unfold zq6_wouldBar
  have ek1 : nI k = 1 ↔ k = 1 := nI_eq (b := 1) (by omega) (by decide)
  have ek3 : nI k = 3 ↔ k = 3 := nI_eq (b := 3) (by omega) (by decide)
  have y1 : zs_weak k (zs_lie k (x % 24)) → zq6_wouldBar_27 v τ Q := by
    intro w
    unfold zq6_wouldBar_27 zq6_wouldBar_32
    exact ⟨fun q => h1 (Or.inl q), fun q => zYf n10 ⟨fun q2 => h0 (fun z => z.elim q (fun y => q2 y.1)), fun q2 => h1 (Or.inr ⟨q2, w⟩)⟩⟩
  have y0 : ¬ zs_weak k (zs_lie k (x % 24)) → zq6_wouldBar_31 v τ Q := by
    intro w
    unfold zq6_wouldBar_31 zq6_wouldBar_32
    exact ⟨fun q => h1 (Or.inl q), fun q => zYt n00 (h0 (fun z => z.elim q (fun y => w y.2)))⟩
  rw [hB.2.2.1, ek1, ek3, h8]
  refine ⟨fun q => y1 (Or.inl q), fun q => ⟨fun q3 => y0 (fun w => w.elim q (fun z => q3 z.1)), fun q3 => e6_stands hB hT hk hx (fun z => zNf n10 (y0 (fun w => w.elim q (fun y => y.2 z)))) (fun z => zNt n00 (y1 (Or.inr ⟨q3, z⟩)))⟩⟩
theorem R_tile (h : Rel σ τ) (v w : Int32) : zq7_tile v w τ (fun a τ' => zq8_tile v w σ (fun b σ' => RQ τ' a b σ')) := by
  obtain ⟨⟨r, c, k, h0⟩, hE⟩ := id h
  have hT := h.ct
  have hd := h0.dim
  have hk6 := hd.2.2.2.2
  have hrc := zs_rc hd.2.1 hd.2.2.2.1
  unfold zq7_tile zq8_tile zq7_tile_26
  refine e6_hasTile h0.2.1 hd (fun q => zNf n10 (zn_le (n := 2) (by decide) (fun qw => ?_) (fun qw => ?_))) (fun q => zNt n00 ?_)
  · obtain ⟨t, ht, rfl⟩ := vp_in_of q (by omega)
    have ct : (nI t).toNatClampNeg = t := nI_clamp (by omega)
    have v36 : vp_in (nI t) 36 := vp_in_nI (by omega) (by decide)
    have et := h0.2.2.1.2.1 t (by omega)
    have hset : R0 r c k (zz_A σ 4 (upd (σ.2.1 4) t w)) (zz_A τ 14 (upd (τ.2.1 14) t w)) := h0.tiles (fun i hi => by
      by_cases z : i = t
      · rw [z, pk_us, pk_us]
      · rw [pk_un z, pk_un z]; exact h0.2.2.1.2.1 i hi)
    have xs : zx σ (zz_A σ 4 (upd (σ.2.1 4) t w)) [] [4] := zx.A 4 _ (by decide)
    have ys : zx τ (zz_A τ 14 (upd (τ.2.1 14) t w)) [] [14] := zx.A 14 _ (by decide)
    have done : ∀ σ', zx (zz_A σ 4 (upd (σ.2.1 4) t w)) σ' [12] [11] → Rel σ' (zz_A τ 14 (upd (τ.2.1 14) t w)) := fun σ' x' => (h.r0 xs.y ys.y (by decide) hset).sc x'.y zy.rf (ks' := []) (js' := []) (by decide) (by decide) (by decide)
    rcases h0.there with ⟨z1, z2⟩ | ⟨z1, x, hV, hF, z2⟩
    · unfold zq6_isOn zq7_tile_62
      rw [ct]
      refine e6_none0 z2 (zNf n10 (zYt n00 ⟨v36, fun x19 e19 => ⟨v36, fun g20 e20 => e8_isTile h0.mb hd (fun _ => zNf n10 (e8_in3 (fun _ => zNf n10 ⟨v36, fun x31 e31 => ⟨v36, fun g32 e32 => zYt ?_ ⟨?_, ?_⟩⟩⟩) (fun z => absurd qw z))) (fun z => absurd q z)⟩⟩))
      · rw [e32, zz_A1]; exact z1
      · rw [e19, e31, et]
      · rw [e20, e32]; exact done _ zx.rf
    · have hx17 := (zs_V_lt hd hV).1
      have hu : ∀ τ2 a, (¬ (zs_un c k x t ∧ zs_bar k (zs_lie k (x % 24)) w) → a = τ.2.1 14 t ∧ τ2 = zz_A τ 14 (upd (τ.2.1 14) t w)) → ((zs_un c k x t ∧ zs_bar k (zs_lie k (x % 24)) w) → a = -3 ∧ τ2 = zno τ 45 3) → zq8_isTile (nI t) σ (fun r27 => ((¬ r27 = 0) → zq8_in (w.toInt64) (0 : Int64) (2 : Int64) (fun r29 => ((¬ r29 = 0) → vp_in (nI t) 36 ∧ ∀ x31 : Int32, x31 = (σ).2.1 4 (nI t).toNatClampNeg → vp_in (nI t) 36 ∧ ∀ g32 : zz_St, g32 = zz_A σ 4 (upd ((σ).2.1 4) (nI t).toNatClampNeg w) → (((g32.1 9) = 0) → RQ τ2 a x31 g32) ∧ (¬ ((g32.1 9) = 0) → zq8_isUnder (nI t) g32 (fun r34 g35 => ((r34 = 0) → RQ τ2 a x31 g35) ∧ (¬ (r34 = 0) → ((w = (1 : Int32)) → zq8_tile_95 (nI t) x31 g35 (fun b σ' => RQ τ2 a b σ')) ∧ (¬ (w = (1 : Int32)) → ((¬ w = (2 : Int32)) → RQ τ2 a x31 g35) ∧ (w = (2 : Int32) → (((g35.1 7) = (1 : Int32)) → zq8_tile_95 (nI t) x31 g35 (fun b σ' => RQ τ2 a b σ')) ∧ (¬ ((g35.1 7) = (1 : Int32)) → ((¬ (g35.1 7) = (3 : Int32)) → RQ τ2 a x31 g35) ∧ ((g35.1 7) = (3 : Int32) → zq8_lying g35 (fun r41 => ((r41 = 0) → RQ τ2 a x31 g35) ∧ (¬ (r41 = 0) → zq8_tile_95 (nI t) x31 g35 (fun b σ' => RQ τ2 a b σ'))))))))))) ∧ (r29 = 0 → zq8_no (-2 : Int32) σ (fun r43 g44 => RQ τ2 a r43 g44)))) ∧ (r27 = 0 → zq8_no (-1 : Int32) σ (fun r45 g46 => RQ τ2 a r45 g46))) := by
        intro τ2 a m0 m1
        refine e8_isTile h0.mb hd (fun _ => zNf n10 (e8_in3 (fun _ => zNf n10 ⟨v36, fun x31 e31 => ⟨v36, fun g32 e32 => zYf ?_ ?_⟩⟩) (fun z => absurd qw z))) (fun z => absurd q z)
        · rw [e32, zz_A1, z1]; decide
        rw [ct] at e31 e32
        have xg : zx σ g32 [] [4] := by rw [e32]; exact xs
        have hB32 : MB g32 r c k (upd (σ.2.1 4) t w) (σ.2.1 5) := by
          refine ⟨(xg.1 2 (by decide)).trans h0.1.1, (xg.1 3 (by decide)).trans h0.1.2.1, (xg.1 7 (by decide)).trans h0.1.2.2, ?_, xg.2.1 5 (by decide)⟩
          rw [e32, zz_A2, if_pos rfl]
        have hF32 : MF g32 (zs_te k) (x / 24) (x % 24) := hF.x xg (by decide)
        have fine : ¬ (zs_un c k x t ∧ zs_bar k (zs_lie k (x % 24)) w) → ∀ σ2, zx g32 σ2 [12] [11] → RQ τ2 a x31 σ2 := by
          intro z σ2 x2
          obtain ⟨b1, b2⟩ := m0 z
          refine ⟨by rw [b1, e31, et], ?_⟩
          rw [b2]
          exact done σ2 (by rw [← e32]; exact x2)
        have bad : (zs_un c k x t ∧ zs_bar k (zs_lie k (x % 24)) w) → ∀ σ2, zx g32 σ2 [12] [11] → zq8_tile_95 (nI t) x31 σ2 (fun b σ' => RQ τ2 a b σ') := by
          intro z σ2 x2
          obtain ⟨b1, b2⟩ := m1 z
          unfold zq8_tile_95
          rw [ct]
          refine ⟨v36, fun g24 e24 => e8_no 3 (by decide) (by decide) (by decide) ⟨b1, ?_⟩⟩
          rw [b2]
          refine Rel.no ?_ (by decide)
          have back : g24.2.1 4 = σ.2.1 4 := by
            rw [e24, zz_A2, if_pos rfl, x2.2.1 4 (by decide), e32, zz_A2, if_pos rfl]
            funext i
            by_cases y : i = t
            · rw [y, pk_us, e31]
            · rw [pk_un y, pk_un y]
          have x24 : zx σ2 g24 [] [4] := by rw [e24]; exact zx.A 4 _ (by decide)
          have x1 : zx σ g24 [12] [4, 11] := ((xg.mono (by decide) (by decide)).tr (x2.mono (by decide) (by decide))).tr (x24.mono (by decide) (by decide))
          have x3 : zy σ g24 [12] [11] := ⟨x1.1, fun j hj => by
            by_cases y : j = 4
            · rw [y]; exact back
            · exact x1.2.1 j (by simp only [List.mem_cons, List.not_mem_nil, or_false] at hj ⊢; omega)⟩
          exact h.sc x3 zy.rf (ks' := []) (js' := []) (by decide) (by decide) (by decide)
        refine e8_isUnder hB32 hd hV hF32 (by omega) (fun un σ2 x2 => zYf n10 ?_) (fun un σ2 x2 => zYt n00 (fine (fun z => un z.1) σ2 x2))
        have hB2 := hB32.x x2 (by decide)
        have hF2 := hF32.x x2 (by decide)
        have ek1 : nI k = 1 ↔ k = 1 := nI_eq (b := 1) (by omega) (by decide)
        have ek3 : nI k = 3 ↔ k = 3 := nI_eq (b := 3) (by omega) (by decide)
        rw [hB2.2.2.1, ek1, ek3]
        refine ⟨fun y => bad ⟨un, Or.inl y⟩ σ2 x2, fun y => ⟨fun y2 => fine (fun z => z.2.elim y (fun u => y2 u.1)) σ2 x2, fun y2 => ⟨fun y3 => bad ⟨un, Or.inr ⟨y2, Or.inl y3⟩⟩ σ2 x2, fun y3 => ⟨fun y4 => fine (fun z => z.2.elim y (fun u => u.2.elim y3 (fun u2 => y4 u2.1))) σ2 x2, fun y4 => ?_⟩⟩⟩⟩
        have hte : zs_te k = false := decide_eq_false (by omega)
        have hlk : zs_lie k (x % 24) = zs_LC (x % 24) := if_pos (Or.inr y4)
        rw [hte] at hF2
        refine e8_lying hF2 (Nat.mod_lt _ (by decide)) ?_
        have hL := zs_LC_lt (x % 24)
        have e0 : nI (zs_LC (x % 24)) = 0 ↔ zs_LC (x % 24) = 0 := nI_eq (b := 0) (by omega) (by decide)
        rw [e0, ← hlk]
        exact ⟨fun u => fine (fun z => z.2.elim y (fun u2 => u2.2.elim y3 (fun u3 => u3.2 u))) σ2 x2, fun u => bad ⟨un, Or.inr ⟨y2, Or.inr ⟨y4, u⟩⟩⟩ σ2 x2⟩
      unfold zq6_isOn
      refine e6_none1 (by omega) z2 (zNt n00 ?_)
      rw [z2]
      refine e6_tilesUnder h0.cb hT hd hV ?_
      rw [zs_um_test hd hV (by omega)]
      have set : ¬ (zs_un c k x t ∧ zs_bar k (zs_lie k (x % 24)) w) → zq7_tile_62 (nI t) w τ (fun a τ' => zq8_isTile (nI t) σ (fun r27 => ((¬ r27 = 0) → zq8_in (w.toInt64) (0 : Int64) (2 : Int64) (fun r29 => ((¬ r29 = 0) → vp_in (nI t) 36 ∧ ∀ x31 : Int32, x31 = (σ).2.1 4 (nI t).toNatClampNeg → vp_in (nI t) 36 ∧ ∀ g32 : zz_St, g32 = zz_A σ 4 (upd ((σ).2.1 4) (nI t).toNatClampNeg w) → (((g32.1 9) = 0) → RQ τ' a x31 g32) ∧ (¬ ((g32.1 9) = 0) → zq8_isUnder (nI t) g32 (fun r34 g35 => ((r34 = 0) → RQ τ' a x31 g35) ∧ (¬ (r34 = 0) → ((w = (1 : Int32)) → zq8_tile_95 (nI t) x31 g35 (fun b σ' => RQ τ' a b σ')) ∧ (¬ (w = (1 : Int32)) → ((¬ w = (2 : Int32)) → RQ τ' a x31 g35) ∧ (w = (2 : Int32) → (((g35.1 7) = (1 : Int32)) → zq8_tile_95 (nI t) x31 g35 (fun b σ' => RQ τ' a b σ')) ∧ (¬ ((g35.1 7) = (1 : Int32)) → ((¬ (g35.1 7) = (3 : Int32)) → RQ τ' a x31 g35) ∧ ((g35.1 7) = (3 : Int32) → zq8_lying g35 (fun r41 => ((r41 = 0) → RQ τ' a x31 g35) ∧ (¬ (r41 = 0) → zq8_tile_95 (nI t) x31 g35 (fun b σ' => RQ τ' a b σ'))))))))))) ∧ (r29 = 0 → zq8_no (-2 : Int32) σ (fun r43 g44 => RQ τ' a r43 g44)))) ∧ (r27 = 0 → zq8_no (-1 : Int32) σ (fun r45 g46 => RQ τ' a r45 g46)))) := by
        intro z
        unfold zq7_tile_62
        refine ⟨v36, fun x19 e19 => ⟨v36, fun g20 e20 => ?_⟩⟩
        rw [ct] at e19 e20
        exact hu g20 x19 (fun _ => ⟨e19, e20⟩) (fun y => absurd y z)
      refine ⟨fun un => zYt n00 (set (fun z => un z.1)), fun un => zYf n10 ?_⟩
      refine e6_wouldBar h0.cb hT hk6 (by omega) z2 (fun bar => zYf n10 (e7_refuse 3 (by decide) (by decide) ?_)) (fun bar => zYt n00 (set (fun z => bar z.2)))
      exact hu _ _ (fun z => absurd ⟨un, bar⟩ z) (fun _ => ⟨rfl, rfl⟩)
  · exact e7_refuse 2 (by decide) (by decide) (e8_isTile h0.mb hd (fun _ => zNf n10 (e8_in3 (fun z => absurd z qw) (fun _ => zNt n00 (RQ.no8 h 2 (by decide) (by decide) (by decide))))) (fun z => absurd q z))
  · exact e7_refuse 1 (by decide) (by decide) (e8_isTile h0.mb hd (fun z => absurd z q) (fun _ => zNt n00 (RQ.no8 h 1 (by decide) (by decide) (by decide))))
/-! placing -/
theorem zs_FA_0 (te : Bool) : ∀ i, i < 6 → zs_FA te 0 i = i := by
  cases te
  · exact (by decide +kernel : ∀ i, i < 6 → zs_FA false 0 i = i)
  · exact (by decide +kernel : ∀ i, i < 6 → zs_FA true 0 i = i)
theorem zs_lie_0 (k : Nat) : zs_lie k 0 = 0 := by
  unfold zs_lie
  split
  · decide +kernel
  · rfl
/-- a tile that bears the solid as it is placed -/
def zs_pl (k p : Nat) (tl : Nat → Int32) : Prop := ¬ (tl (if 4 ≤ k then p / 2 else p) = 1 ∨ (tl (if 4 ≤ k then p / 2 else p) = 2 ∧ k = 1))
theorem zs_V_0 {r c k p : Nat} (hd : zs_dim r c k) (hp : p < zs_np r c k) : zs_V r c k (24 * p) := by
  have h := zs_V_code (r := r) (c := c) (k := k) (pl := p) (s := 0) ⟨hp, by unfold zs_ns; split <;> decide, fun hk => ?_⟩
  · exact h
  · rw [zs_np, if_neg hk] at hp
    have := zs_div_lt hp
    rw [zs_lie_0]
    exact ⟨this.1, this.2, fun z => absurd z (by decide), fun z => absurd z (by decide)⟩
theorem e8_placesAt {Q : zz_St → Prop} {v : Int32} (h : ∀ σ2, zx σ σ2 [8] [10] → σ2.1 8 = v → (∀ i, i < 6 → σ2.2.1 10 i = nI i) → Q σ2) : zq8_placesAt v σ Q := by
  unfold zq8_placesAt zq8_placesAt_7
  intro g hg
  have x1 : zx σ g [8] [10] := by rw [hg]; exact zx.I 8 _ (by decide)
  have n8 : g.1 8 = v := by rw [hg, zz_I1, if_pos rfl]
  refine ⟨fun v σ2 => ∃ j, j ≤ 6 ∧ v = nI j ∧ (zx g σ2 [] [10] ∧ ∀ t, t < j → σ2.2.1 10 t = nI t), fun v _ => 6 - v.toNatClampNeg, ⟨0, Nat.zero_le _, rfl, zx.rf, fun t h => absurd h (Nat.not_lt_zero t)⟩, ?_⟩
  rintro w σ2 ⟨j, hj, rfl, hx, ht⟩
  refine ⟨fun q => ?_, fun q => ?_⟩
  · have := zl_end (N := 6) hj (by decide) q
    subst this
    exact h σ2 (x1.tr (hx.mono (by decide) (by decide))) ((hx.1 8 (by decide)).trans n8) ht
  · have hlt := zl_go (N := 6) hj (by decide) q
    have cj : (nI j).toNatClampNeg = j := nI_clamp (by omega)
    rw [cj]
    refine ⟨vp_in_nI hlt (by decide), fun g2 hg2 => zl_leaf (J := fun j σ2 => zx g σ2 [] [10] ∧ ∀ t, t < j → σ2.2.1 10 t = nI t) (N := 6) hlt (by decide) ⟨?_, fun t htj => ?_⟩⟩
    · rw [hg2]; exact hx.tr (zx.A 10 _ (by decide))
    · rw [hg2, zz_A2, if_pos rfl]
      rcases Nat.lt_succ_iff_lt_or_eq.mp htj with z | z
      · rw [pk_un (by omega)]; exact ht t z
      · rw [z, pk_us]
theorem e6_mayBePlaced {Q : Int32 → Prop} {j p : Nat} (hB : CB τ r c k tl pr) (hd : zs_dim r c j) (hp : p < zs_np r c j) (h1 : zs_pl j p tl → Q 1) (h0 : ¬ zs_pl j p tl → Q 0) : zq6_mayBePlaced (nI j) (nI p) τ Q := by
  have hrc := zs_rc hd.2.1 hd.2.2.2.1
  unfold zq6_mayBePlaced zq6_mayBePlaced_14 zq6_mayBePlaced_27
  have ek1 : nI j = 1 ↔ j = 1 := nI_eq (b := 1) (by have := hd.2.2.2.2; omega) (by decide)
  rw [ek1]
  have key : ∀ t, t < 36 → t = (if 4 ≤ j then p / 2 else p) → (¬ j = 1 → zq6_bears (nI t) 0 τ (fun r5 => (r5 = 0 ∨ r5 = 1) ∧ Q r5)) ∧ (j = 1 → zq6_bears (nI t) 1 τ (fun r5 => (r5 = 0 ∨ r5 = 1) ∧ Q r5)) := by
    intro t ht et
    unfold zs_pl at h1 h0
    rw [← et] at h1 h0
    exact ⟨fun q => e6_bears hB ht (wk := j = 1) (Or.inl ⟨rfl, q⟩) (fun z => ⟨Or.inr rfl, h1 z⟩) (fun z => ⟨Or.inl rfl, h0 (fun y => y z)⟩), fun q => e6_bears hB ht (wk := j = 1) (Or.inr ⟨rfl, q⟩) (fun z => ⟨Or.inr rfl, h1 z⟩) (fun z => ⟨Or.inl rfl, h0 (fun y => y z)⟩)⟩
  refine e7_isTetra hd.2.2.2.2 (fun h4 => zYf n10 ?_) (fun h4 => zYt n00 ?_)
  · rw [zs_np, if_pos h4] at hp
    rw [zs_2 (by omega)]
    exact key (p / 2) (by omega) (by rw [if_pos h4])
  · rw [zs_np, if_neg h4] at hp
    exact key p (by omega) (by rw [if_neg h4])
/-- the reference may lie as it is placed -/
theorem e8_mayPlace {Q : Int32 → zz_St → Prop} {p : Nat} (hB : MB σ r c k tl pr) (hd : zs_dim r c k) (hp : p < zs_np r c k) (h8 : σ.1 8 = nI p) (h10 : ∀ i, i < 6 → σ.2.1 10 i = nI i)
    (h1 : zs_pl k p tl → ∀ σ2, zx σ σ2 [12] [11] → Q 1 σ2) (h0 : ¬ zs_pl k p tl → ∀ σ2, zx σ σ2 [12] [11] → Q 0 σ2) : zq8_mayLie σ Q := by
  unfold zs_pl at h1 h0
  by_cases h4 : 4 ≤ k
  · rw [zs_np, if_pos h4] at hp
    rw [if_pos h4] at h1 h0
    exact e8_mayLie_t hB hd h4 h8 hp (fun σ2 x2 z => h1 (fun y => y.elim z (fun u => by omega)) σ2 x2) (fun σ2 x2 z => h0 (fun y => y (Or.inl z)) σ2 x2)
  · rw [zs_np, if_neg h4] at hp
    rw [if_neg h4] at h1 h0
    have hdv := zs_div_lt hp
    have hF : MF σ false p 0 := ⟨h8, fun i hi => by rw [h10 i hi, zs_FA_0 false i hi]⟩
    have key : zs_may r c k tl (p / c) (p % c) (zs_lie k 0) ↔ ¬ (tl p = 1 ∨ (tl p = 2 ∧ k = 1)) := by
      rw [zs_lie_0]
      unfold zs_may
      rw [zs_divadd]
      constructor
      · rintro ⟨_, a, _⟩ z
        exact a (z.elim Or.inl (fun y => Or.inr ⟨y.1, Or.inl y.2⟩))
      · intro z
        have y : ¬ zs_bar k 0 (tl p) := fun u => z (u.elim Or.inl (fun v => Or.inr ⟨v.1, v.2.elim (fun t => t) (fun t => absurd rfl t.2)⟩))
        exact ⟨⟨hdv.1, hdv.2, fun t => absurd t (by decide), fun t => absurd t (by decide)⟩, y, y⟩
    exact e8_mayLie hB hd h4 hF (by decide) hp (fun σ2 x2 z => h1 (key.mp z) σ2 x2) (fun σ2 x2 z => h0 (fun y => z (key.mpr y)) σ2 x2)
/-- the solid is placed anew; nothing can be undone -/
theorem R0.set {σ' τ' : zz_St} {k' p nx : Nat} (h : R0 r c k σ τ) (hd : zs_dim r c k') (hp : p < zs_np r c k') (hM : MD σ' r c k') (hC : CD τ' r c k') (h6 : σ'.1 6 = σ.1 6) (t10 : τ'.1 10 = τ.1 10) (h4 : σ'.2.1 4 = σ.2.1 4) (h5 : σ'.2.1 5 = σ.2.1 5) (t14 : τ'.2.1 14 = τ.2.1 14) (t16 : τ'.2.1 16 = τ.2.1 16) (h9 : σ'.1 9 = 1) (h8 : σ'.1 8 = nI p) (h10 : ∀ i, i < 6 → σ'.2.1 10 i = nI i) (t8 : τ'.1 8 = nI (24 * p)) (h19 : σ'.1 19 = 0) (t15 : τ'.1 15 = 0) (tn : τ'.1 14 = nI nx) (hn : nx < 20) : R0 r c k' σ' τ' := by
  refine ⟨hM, hC, ?_, RH.none h19 t15 tn hn⟩
  obtain ⟨a1, a2, a3, a4, a5⟩ := h.2.2.1
  unfold RW
  rw [h6, t10, h4, h5, t14, t16]
  refine ⟨hd, a2, a3, a4, Or.inr ⟨h9, 24 * p, zs_V_0 hd hp, ?_, fun i hi => ?_, t8⟩⟩
  · rw [h8, show 24 * p / 24 = p from by omega]
  · rw [h10 i hi, show 24 * p % 24 = 0 from by omega, zs_FA_0 _ i hi]
theorem R_places (h : Rel σ τ) (v w : Int32) : zq7_places v w τ (fun a τ' => zq8_places v w σ (fun b σ' => RQ τ' a b σ')) := by
  obtain ⟨⟨r, c, k, h0⟩, hE⟩ := id h
  have hd := h0.dim
  have hrc := zs_rc hd.2.1 hd.2.2.2.1
  unfold zq7_places zq8_places
  refine e7_isKind (fun q => zNf n10 ?_) (fun q => zNt n00 ?_)
  rotate_left
  · exact e7_refuse 2 (by decide) (by decide) (e8_in6 (fun z => absurd z q) (fun _ => zNt n00 (RQ.no8 h 2 (by decide) (by decide) (by decide))))
  obtain ⟨j, hj, rfl⟩ := vp_in_of q (by decide)
  have hdj : zs_dim r c j := ⟨hd.1, hd.2.1, hd.2.2.1, hd.2.2.2.1, hj⟩
  -- the reference: what it answers, by place and tile
  have M : ∀ {Q : Int32 → zz_St → Prop},
      (¬ vp_in w (zs_np r c j) → ∀ σ2, Rel σ2 τ → zq8_no (-1) σ2 Q) →
      (∀ p, w = nI p → p < zs_np r c j → ¬ zs_pl j p (σ.2.1 4) → ∀ σ2, Rel σ2 τ → zq8_no (-3) σ2 Q) →
      (∀ p, w = nI p → p < zs_np r c j → zs_pl j p (σ.2.1 4) → ∀ σ2, zx σ σ2 [7, 8, 9, 12, 19] [10, 11, 13] → σ2.1 7 = nI j → σ2.1 8 = nI p → σ2.1 9 = 1 → σ2.1 19 = 0 → (∀ i, i < 6 → σ2.2.1 10 i = nI i) → Q 1 σ2) →
      zq8_in (nI j).toInt64 (0 : Int64) (5 : Int64) (fun r45 => ((¬ r45 = 0) → ∀ x47 : Int32, x47 = (σ).1 7 → ∀ x48 : Int32, x48 = (σ).1 8 → zq8_places_39 (nI j) w x47 x48 (0 : Int32) σ Q) ∧ (r45 = 0 → zq8_no (-2 : Int32) σ (fun r49 g50 => Q r49 g50))) := by
    intro Q m1 m3 m0
    refine e8_in6 (fun _ => zNf n10 (fun x47 e47 x48 e48 => ?_)) (fun z => absurd q z)
    unfold zq8_places_39
    refine zl_copy (src := 10) (dst := 13) (N := 6) (by decide) (by decide) (fun σ1 x1 hc1 _ g41 h41 => ?_)
    have y41 : zx σ1 g41 [7] [] := by rw [h41]; exact zx.I 7 _ (by decide)
    have y1 : zx σ g41 [7] [13] := (x1.mono (by decide) (by decide)).tr (y41.mono (by decide) (by decide))
    have hB1 : MB g41 r c j (σ.2.1 4) (σ.2.1 5) := ⟨(y1.1 2 (by decide)).trans h0.1.1, (y1.1 3 (by decide)).trans h0.1.2.1, by rw [h41, zz_I1, if_pos rfl], y1.2.1 4 (by decide), y1.2.1 5 (by decide)⟩
    have f13 : ∀ i, i < 6 → g41.2.1 13 i = σ.2.1 10 i := fun i hi => by rw [y41.2.1 13 (by decide)]; exact hc1 i hi
    -- all is laid back
    have back : ∀ {v7 : Int32} {σ2 : zz_St}, zx σ σ2 [7, 8, 12] [10, 11, 13] → (∀ i, i < 6 → σ2.2.1 13 i = σ.2.1 10 i) → ¬ v7 = 0 → (∀ σ3, Rel σ3 τ → zq8_no v7 σ3 Q) → zq8_places_113 x47 x48 v7 σ2 Q := by
      intro v7 σ2 x2 f2 hv hq
      unfold zq8_places_113 zq8_places_132
      refine zYf hv (fun g33 h33 g34 h34 => ?_)
      refine zl_copy (src := 13) (dst := 10) (N := 6) (by decide) (by decide) (fun σ3 x3 hc3 _ => ?_)
      have y33 : zx σ2 g33 [7] [] := by rw [h33]; exact zx.I 7 _ (by decide)
      have y34 : zx g33 g34 [8] [] := by rw [h34]; exact zx.I 8 _ (by decide)
      have y : zx σ σ3 [7, 8, 12] [10, 11, 13] := (x2.tr ((y33.mono (by decide) (by decide)).tr (y34.mono (by decide) (by decide)))).tr (x3.mono (by decide) (by decide))
      have e7 : σ3.1 7 = σ.1 7 := by rw [x3.1 7 (by decide), y34.1 7 (by decide), h33, zz_I1, if_pos rfl, e47]
      have e8 : σ3.1 8 = σ.1 8 := by rw [x3.1 8 (by decide), h34, zz_I1, if_pos rfl, e48]
      have e10 : ∀ i, i < 6 → σ3.2.1 10 i = σ.2.1 10 i := fun i hi => by rw [hc3 i hi, y34.2.1 13 (by decide), y33.2.1 13 (by decide)]; exact f2 i hi
      refine hq σ3 (h.eq (ks := [8, 12]) (js := [10, 11, 13]) (ks' := []) (js' := []) ⟨fun a ha => ?_, fun a ha => y.2.1 a ha⟩ zy.rf (by decide) (by decide) (by decide) e8 e10)
      by_cases z : a = 7
      · rw [z]; exact e7
      · exact y.1 a (by simp only [List.mem_cons, List.not_mem_nil, or_false] at ha ⊢; omega)
    refine e8_isPlace hB1 hdj (fun hp => zYf n10 ?_) (fun hp => zYt n00 ?_)
    · obtain ⟨p, hpl, rfl⟩ := vp_in_of hp (by unfold zs_np; split <;> omega)
      unfold zq8_places_86 zq8_places_111
      refine zYf n10 (e8_placesAt (fun g36 x36 b8 b10 => ?_))
      have y36 : zx σ g36 [7, 8, 12] [10, 11, 13] := (y1.mono (by decide) (by decide)).tr (x36.mono (by decide) (by decide))
      have hB36 : MB g36 r c j (σ.2.1 4) (σ.2.1 5) := hB1.x x36 (by decide)
      refine e8_mayPlace hB36 hdj hpl b8 b10 (fun hz σ2 x2 => zYf n10 ?_) (fun hz σ2 x2 => zYt n00 ?_)
      · unfold zq8_places_113
        refine zYt n00 (fun g31 h31 g32 h32 => ?_)
        have y31 : zx σ2 g31 [9] [] := by rw [h31]; exact zx.I 9 _ (by decide)
        have y32 : zx g31 g32 [19] [] := by rw [h32]; exact zx.I 19 _ (by decide)
        have y : zx g36 g32 [9, 12, 19] [11] := (x2.mono (by decide) (by decide)).tr ((y31.mono (by decide) (by decide)).tr (y32.mono (by decide) (by decide)))
        refine m0 p rfl hpl hz g32 ((y36.mono (by decide) (by decide)).tr (y.mono (by decide) (by decide))) ?_ ?_ ?_ ?_ (fun i hi => ?_)
        · rw [y.1 7 (by decide)]; exact hB36.2.2.1
        · rw [y.1 8 (by decide)]; exact b8
        · rw [y32.1 9 (by decide), h31, zz_I1, if_pos rfl]
        · rw [h32, zz_I1, if_pos rfl]
        · rw [y.2.1 10 (by decide)]; exact b10 i hi
      · exact back (y36.tr (x2.mono (by decide) (by decide))) (fun i hi => by rw [x2.2.1 13 (by decide), x36.2.1 13 (by decide)]; exact f13 i hi) (by decide) (fun σ3 h3 => m3 p rfl hpl hz σ3 h3)
    · unfold zq8_places_86
      exact zYt n00 (back (y1.mono (by decide) (by decide)) f13 (by decide) (fun σ3 h3 => m1 hp σ3 h3))
  refine e6_hasPlace h0.2.1 hd hj (fun hp => zNf n10 ?_) (fun hp => zNt n00 ?_)
  · obtain ⟨p, hpl, rfl⟩ := vp_in_of hp (by unfold zs_np; split <;> omega)
    have inj : ∀ p', nI p = nI p' → p' < zs_np r c j → p = p' := fun p' e hp' => by
      have hb : zs_np r c j < 2 ^ 31 := by unfold zs_np; split <;> omega
      exact (nI_eq (by omega) (by omega)).mp e
    have epl : zs_pl j p (τ.2.1 14) ↔ zs_pl j p (σ.2.1 4) := by
      unfold zs_pl
      have : (if 4 ≤ j then p / 2 else p) < 36 := by
        unfold zs_np at hpl
        by_cases z : 4 ≤ j
        · rw [if_pos z] at hpl ⊢; omega
        · rw [if_neg z] at hpl ⊢; omega
      rw [h0.2.2.1.2.1 _ this]
    refine e6_mayBePlaced h0.cb hdj hpl (fun hz => zNf n10 ?_) (fun hz => zNt n00 ?_)
    · unfold zq6_setSolid zq0_forget
      intro g3 h3 g4 h4 g22 h22
      have y3 : zx τ g3 [6] [] := by rw [h3]; exact zx.I 6 _ (by decide)
      have y4 : zx g3 g4 [8] [] := by rw [h4]; exact zx.I 8 _ (by decide)
      have y22 : zx g4 g22 [15] [] := by rw [h22]; exact zx.I 15 _ (by decide)
      have yy : zx τ g22 [6, 8, 15] [] := (y3.mono (by decide) (by decide)).tr ((y4.mono (by decide) (by decide)).tr (y22.mono (by decide) (by decide)))
      refine M (fun z => absurd hp z) (fun p' e hp' hz' => absurd (epl.mp hz) (by rw [inj p' e hp']; exact hz')) (fun p' e hp' _ σ2 x2 e7 e8 e9 e19 e10 => ⟨rfl, ?_⟩)
      obtain ⟨d, nx, _, hnx, _, _, hnx2, _⟩ := h0.2.2.2
      have c6 : g22.1 6 = nI j := by rw [y22.1 6 (by decide), y4.1 6 (by decide), h3, zz_I1, if_pos rfl]
      have c8 : g22.1 8 = nI (24 * p) := by rw [y22.1 8 (by decide), h4, zz_I1, if_pos rfl, show nI p * 24 = nI (p * 24) from pk_mul p 24, Nat.mul_comm]
      refine h.r0 x2.y yy.y (by decide) (h0.set (p := p) (nx := nx) hdj hpl ⟨(x2.1 2 (by decide)).trans h0.1.1, (x2.1 3 (by decide)).trans h0.1.2.1, e7⟩ ⟨(yy.1 2 (by decide)).trans h0.2.1.1, (yy.1 4 (by decide)).trans h0.2.1.2.1, c6⟩ (x2.1 6 (by decide)) (yy.1 10 (by decide)) (x2.2.1 4 (by decide)) (x2.2.1 5 (by decide)) (yy.2.1 14 (by decide)) (yy.2.1 16 (by decide)) e9 ?_ e10 c8 e19 ?_ ((yy.1 14 (by decide)).trans hnx2) hnx)
      · rw [e8, e]
      · rw [h22, zz_I1, if_pos rfl]
    · refine e7_refuse 3 (by decide) (by decide) (M (fun z => absurd hp z) (fun p' e hp' _ σ2 h2 => RQ.no8 h2 3 (by decide) (by decide) (by decide)) (fun p' e hp' hz' => absurd (epl.mpr (by rw [inj p' e hp']; exact hz')) hz))
  · exact e7_refuse 1 (by decide) (by decide) (M (fun _ σ2 h2 => RQ.no8 h2 1 (by decide) (by decide) (by decide)) (fun p e hp' => absurd (by rw [e]; exact vp_in_nI hp' (by unfold zs_np; split <;> omega)) hp) (fun p e hp' => absurd (by rw [e]; exact vp_in_nI hp' (by unfold zs_np; split <;> omega)) hp))
end CD1
