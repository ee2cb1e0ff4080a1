/-! likely: the reference -/
def zq_l (σ σ' : zz_St) : Prop := σ'.1 = σ.1 ∧ σ'.2.1 = σ.2.1
theorem zq_l.rf {σ : zz_St} : zq_l σ σ := ⟨rfl, rfl⟩
theorem zq_l.L {σ σ' : zz_St} (h : zq_l σ σ') (k : Nat) (f : Nat → Int64) : zq_l σ (zz_L σ' k f) := h
theorem zq_L3 (σ : zz_St) (k : Nat) (f : Nat → Int64) (j : Nat) : (zz_L σ k f).2.2 j = if j = k then f else σ.2.2 j := rfl
/-- how far the sum for j has come -/
def zQ (ti : Nat → Nat) (N n j m : Nat) : Nat := zsm (fun m => if j = ti m then zI ti N n (m / 4) else 0) m
theorem zQ_s {ti : Nat → Nat} {N n j i w : Nat} (hw : w < 4) : zQ ti N n j (4 * i + w + 1) = zQ ti N n j (4 * i + w) + (if j = ti (4 * i + w) then zI ti N n i else 0) := by
  unfold zQ
  rw [zsm_s, show (4 * i + w) / 4 = i from by omega]
def zti (σ : zz_St) (m : Nat) : Nat := if σ.2.1 26 m < 0 then m / 4 else (σ.2.1 26 m).toNatClampNeg
section SP
variable {σ : zz_St} {r c k x0 : Nat} {tl pr : Nat → Int32}
theorem e8_likely_328 {Q : Int64 → zz_St → Prop} {a n v : Nat} (hn : n ≤ 12) (ha : a ≤ 4 ^ n) (hv : v < 2) (h : Q (lN ((if v = 0 then a else 4 ^ n) / Nat.gcd a (4 ^ n))) σ) : zq8_likely_328 (nI v) (lN (4 ^ n)) (lN a) (lN a) (lN (4 ^ n)) σ Q := by
  have h24 := z412 hn
  have hp : 0 < 4 ^ n := Nat.pow_pos (by decide)
  have v0 : nI v = 0 ↔ v = 0 := nI_eq (b := 0) (by omega) (by decide)
  unfold zq8_likely_328
  refine ⟨fun v8 v10 => ∃ x y, x ≤ 2 ^ 24 ∧ y ≤ 2 ^ 24 ∧ v8 = lN x ∧ v10 = lN y ∧ Nat.gcd x y = Nat.gcd a (4 ^ n), fun _ v10 => v10.toInt.toNat, ⟨a, 4 ^ n, by omega, h24, rfl, rfl, rfl⟩, ?_⟩
  rintro v8 v10 ⟨x, y, hx, hy, rfl, rfl, hg⟩
  have ly : lN y = 0 ↔ y = 0 := lN_eq (b := 0) (by omega) (by decide)
  rw [lg_cmp_eq, ly]
  refine ⟨fun z => ?_, fun z => ⟨z, fun x51 e51 => ?_⟩⟩
  · rw [z, Nat.gcd_zero_right] at hg
    have gp : 0 < Nat.gcd a (4 ^ n) := Nat.gcd_pos_of_pos_right _ hp
    have lx : ¬ lN (Nat.gcd a (4 ^ n)) = 0 := fun u => by
      have := (lN_eq (a := Nat.gcd a (4 ^ n)) (b := 0) (by omega) (by decide)).mp u
      omega
    rw [v0, pk_lDiv (by omega) (by omega) (by omega), pk_lDiv (by omega) (by omega) (by omega), hg]
    refine ⟨fun nv => ⟨lx, ?_⟩, fun yv => ⟨lx, ?_⟩⟩
    · rw [if_neg nv] at h; exact h
    · rw [if_pos yv] at h; exact h
  · rw [pk_lRem (by omega) (by omega) (by omega)] at e51
    have hlt : x % y < y := Nat.mod_lt _ (by omega)
    refine ⟨⟨y, x % y, hy, by omega, rfl, e51, ?_⟩, ?_⟩
    · rw [← hg, Nat.gcd_comm x y, Nat.gcd_rec y x, Nat.gcd_comm y (x % y)]
    · show x51.toInt.toNat < (lN y).toInt.toNat
      rw [e51, lN_toInt (by omega), lN_toInt (by omega)]
      omega
theorem e8_likely_278 {Q : Int64 → zz_St → Prop} {n v p N : Nat} {cd : Nat → Nat} {ti : Nat → Nat} (hn : n ≤ 12) (hv : v < 2) (hp : p < 72) (hN : N ≤ 864) (h27 : σ.1 27 = nI N) (h23 : ∀ i, i < N → cd i / 24 < 72 ∧ σ.2.1 23 i = nI (cd i / 24)) (h34 : ∀ i, i < N → σ.2.2 34 i = lN (zI ti N n i)) (ha : zsm (fun i => if cd i / 24 = p then zI ti N n i else 0) N ≤ 4 ^ n)
    (h : Q (lN ((if v = 0 then zsm (fun i => if cd i / 24 = p then zI ti N n i else 0) N else 4 ^ n) / Nat.gcd (zsm (fun i => if cd i / 24 = p then zI ti N n i else 0) N) (4 ^ n))) σ) : zq8_likely_278 (nI p) (nI v) (lN (4 ^ n)) 0 0 σ Q := by
  unfold zq8_likely_278
  refine ⟨fun v6 v8 => ∃ i, i ≤ N ∧ v8 = nI i ∧ v6 = lN (zsm (fun i => if cd i / 24 = p then zI ti N n i else 0) i), fun _ v8 => N - v8.toNatClampNeg, ⟨0, Nat.zero_le _, rfl, rfl⟩, ?_⟩
  rintro v6 v8 ⟨i, hi, rfl, rfl⟩
  rw [h27]
  refine pk_le N i (fun q => ?_) (fun q => ⟨vp_in_nI (by omega) (by decide), ?_⟩)
  · have e : i = N := by omega
    subst e
    exact e8_likely_328 hn ha hv h
  · have ci : (nI i).toNatClampNeg = i := nI_clamp (by omega)
    obtain ⟨b1, b2⟩ := h23 i q
    have ep : nI (cd i / 24) = nI p ↔ cd i / 24 = p := nI_eq (by omega) (by omega)
    unfold zq8_likely_311
    rw [ci, b2, ep, h34 i q]
    have mes : N - (nI i + 1).toNatClampNeg < N - (nI i).toNatClampNeg := by
      rw [nI_1, nI_clamp (by omega), nI_clamp (by omega)]
      omega
    refine ⟨fun u x48 e48 => ⟨⟨i + 1, q, nI_1 i, ?_⟩, mes⟩, fun u => ⟨vp_in_nI (by omega) (by decide), fun x48 e48 => ⟨⟨i + 1, q, nI_1 i, ?_⟩, mes⟩⟩⟩
    · rw [e48, zsm_s, if_neg u]
      exact lN_add _ 0
    · rw [e48, zsm_s, if_pos u, lN_add]
theorem e8_likely_229 {Q : Int64 → zz_St → Prop} {B114 : Int64 → Int32 → zz_St → Prop} {t N : Nat} {v1 v2 v3 v6 : Int32} {g : Nat → Nat} (hN : N ≤ 864) (h27 : σ.1 27 = nI N) (h35 : ∀ i, i < N → σ.2.2 35 i = lN (g i))
    (h : ∀ σ2, zq_l σ σ2 → (∀ i, i < N → σ2.2.2 34 i = lN (g i)) → B114 (lN (4 ^ (t + 1))) (v6 + 1) σ2) : zq8_likely_229 v1 v2 v3 (lN (4 ^ t)) v6 0 σ Q B114 := by
  unfold zq8_likely_229
  refine ⟨fun v7 σ2 => ∃ i, i ≤ N ∧ v7 = nI i ∧ (zq_l σ σ2 ∧ σ2.2.2 35 = σ.2.2 35 ∧ ∀ j, j < i → σ2.2.2 34 j = lN (g j)), fun v7 _ => N - v7.toNatClampNeg, ⟨0, Nat.zero_le _, rfl, zq_l.rf, rfl, fun j hj => absurd hj (Nat.not_lt_zero j)⟩, ?_⟩
  rintro v7 σ2 ⟨i, hi, rfl, x2, e35, e34⟩
  rw [x2.1, h27]
  refine pk_le N i (fun q x43 e43 => ?_) (fun q => ?_)
  · rw [show lN (4 ^ t) * (4 : Int64) = lN (4 ^ t * 4) from lN_mul _ 4, ← Nat.pow_succ] at e43
    subst e43
    exact h σ2 x2 (fun j hj => e34 j (by omega))
  · have ci : (nI i).toNatClampNeg = i := nI_clamp (by omega)
    have vi : vp_in (nI i) 900 := vp_in_nI (by omega) (by decide)
    refine ⟨vi, vi, fun g44 h44 => ?_⟩
    rw [ci, e35, h35 i q] at h44
    refine zl_leaf (J := fun i σ2 => zq_l σ σ2 ∧ σ2.2.2 35 = σ.2.2 35 ∧ ∀ j, j < i → σ2.2.2 34 j = lN (g j)) q (by omega) ⟨by rw [h44]; exact x2.L _ _, by rw [h44, zq_L3, if_neg (by decide)]; exact e35, fun j hj => ?_⟩
    rw [h44, zq_L3, if_pos rfl]
    rcases Nat.lt_succ_iff_lt_or_eq.mp hj with z | z
    · rw [pk_uLn (by omega)]; exact e34 j z
    · rw [z, pk_uLs]
theorem e8_likely_149 {Q : Int64 → zz_St → Prop} {B114 : Int64 → Int32 → zz_St → Prop} {t N : Nat} {v1 v2 v3 v6 : Int32} (hN : N ≤ 864) (h27 : σ.1 27 = nI N) (hti : ∀ i, i < N → ∀ w, w < 4 → zti σ (4 * i + w) < N) (h34 : ∀ i, i < N → σ.2.2 34 i = lN (zI (zti σ) N t i)) (h35 : ∀ i, i < N → σ.2.2 35 i = 0)
    (h : ∀ σ2, zq_l σ σ2 → (∀ i, i < N → σ2.2.2 34 i = lN (zI (zti σ) N (t + 1) i)) → B114 (lN (4 ^ (t + 1))) (v6 + 1) σ2) : zq8_likely_149 v1 v2 v3 (lN (4 ^ t)) v6 0 σ Q B114 := by
  generalize hT : zti σ = ti at *
  have hT : ∀ m, (if σ.2.1 26 m < 0 then m / 4 else (σ.2.1 26 m).toNatClampNeg) = ti m := fun m => by rw [← hT]; rfl
  unfold zq8_likely_149
  refine ⟨fun v7 σ2 => ∃ i, i ≤ N ∧ v7 = nI i ∧ (zq_l σ σ2 ∧ σ2.2.2 34 = σ.2.2 34 ∧ ∀ j, j < N → σ2.2.2 35 j = lN (zQ ti N t j (4 * i))), fun v7 _ => N - v7.toNatClampNeg, ⟨0, Nat.zero_le _, rfl, zq_l.rf, rfl, fun j hj => by rw [h35 j hj]; rfl⟩, ?_⟩
  rintro v7 σ2 ⟨i, hi, rfl, x2, e34, e35⟩
  rw [x2.1, h27]
  refine pk_le N i (fun q => ?_) (fun q => ?_)
  · have e : i = N := by omega
    subst e
    exact e8_likely_229 (g := fun j => zI ti i (t + 1) j) hN (by rw [x2.1]; exact h27) (fun j hj => e35 j hj) (fun σ3 x3 e3 => h σ3 ⟨x3.1.trans x2.1, x3.2.trans x2.2⟩ e3)
  · have ci : (nI i).toNatClampNeg = i := nI_clamp (by omega)
    have vi : vp_in (nI i) 900 := vp_in_nI (by omega) (by decide)
    unfold zq8_likely_161
    refine ⟨fun v8 σ3 => ∃ w, w ≤ 4 ∧ v8 = nI w ∧ (zq_l σ σ3 ∧ σ3.2.2 34 = σ.2.2 34 ∧ ∀ j, j < N → σ3.2.2 35 j = lN (zQ ti N t j (4 * i + w))), fun v8 _ => 4 - v8.toNatClampNeg, ⟨0, by decide, rfl, x2, e34, e35⟩, ?_⟩
    rintro v8 σ3 ⟨w, hw, rfl, x3, f34, f35⟩
    refine ⟨fun q2 => ?_, fun q2 => ?_⟩
    · have := zl_end (N := 4) hw (by decide) q2
      subst this
      exact zl_leaf (J := fun i σ2 => zq_l σ σ2 ∧ σ2.2.2 34 = σ.2.2 34 ∧ ∀ j, j < N → σ2.2.2 35 j = lN (zQ ti N t j (4 * i))) q (by omega) ⟨x3, f34, f35⟩
    · have hw4 := zl_go (N := 4) hw (by decide) q2
      have e4 : (4 : Int32) * nI i + nI w = nI (4 * i + w) := by rw [show (4 : Int32) * nI i = nI (4 * i) from pk_mul 4 i, nI_add]
      have ct : (nI (4 * i + w)).toNatClampNeg = 4 * i + w := nI_clamp (by omega)
      have vt : vp_in (nI (4 * i + w)) 3600 := vp_in_nI (by omega) (by decide)
      have hlt := hti i q w hw4
      have put : zq8_likely_203 v1 v2 v3 (lN (4 ^ t)) v6 (nI i) (nI w) (nI (ti (4 * i + w))) σ3 Q B114 (fun v7' σ' => (∃ i, i ≤ N ∧ v7' = nI i ∧ (zq_l σ σ' ∧ σ'.2.2 34 = σ.2.2 34 ∧ ∀ j, j < N → σ'.2.2 35 j = lN (zQ ti N t j (4 * i)))) ∧ N - v7'.toNatClampNeg < N - (nI i).toNatClampNeg) (fun v8' σ' => (∃ w, w ≤ 4 ∧ v8' = nI w ∧ (zq_l σ σ' ∧ σ'.2.2 34 = σ.2.2 34 ∧ ∀ j, j < N → σ'.2.2 35 j = lN (zQ ti N t j (4 * i + w)))) ∧ 4 - v8'.toNatClampNeg < 4 - (nI w).toNatClampNeg) := by
        have vti : vp_in (nI (ti (4 * i + w))) 900 := vp_in_nI (by omega) (by decide)
        have cti : (nI (ti (4 * i + w))).toNatClampNeg = ti (4 * i + w) := nI_clamp (by omega)
        unfold zq8_likely_203
        refine ⟨vti, vi, vti, fun g39 h39 => ?_⟩
        rw [cti, ci, f34, h34 i q, f35 _ hlt, lN_add] at h39
        refine zl_leaf (J := fun w σ' => zq_l σ σ' ∧ σ'.2.2 34 = σ.2.2 34 ∧ ∀ j, j < N → σ'.2.2 35 j = lN (zQ ti N t j (4 * i + w))) hw4 (by decide) ⟨by rw [h39]; exact x3.L _ _, by rw [h39, zq_L3, if_neg (by decide)]; exact f34, fun j hj => ?_⟩
        rw [h39, zq_L3, if_pos rfl]
        show _ = lN (zQ ti N t j (4 * i + w + 1))
        rw [zQ_s hw4]
        by_cases z : j = ti (4 * i + w)
        · rw [if_pos z, z, pk_uLs]
        · rw [if_neg z, pk_uLn z, Nat.add_zero]; exact f35 j hj
      rw [e4, ct, x3.2]
      have ht := hT (4 * i + w)
      refine ⟨vt, fun u => ⟨vt, ?_⟩, fun u => ?_⟩
      · rw [if_neg (Int32.not_lt.mpr u)] at ht
        obtain ⟨z, hz, ez⟩ := nI_of (Int32.not_lt.mpr u)
        rw [ez, nI_clamp hz] at ht
        rw [ez, ht]
        exact put
      · rw [if_pos (Int32.not_le.mp u), show (4 * i + w) / 4 = i from by omega] at ht
        rw [← ht] at put
        exact put
theorem e8_likely_114 {Q : Int64 → zz_St → Prop} {n v p N : Nat} {cd : Nat → Nat} (hn : n ≤ 12) (hv : v < 2) (hp : p < 72) (hN : N ≤ 864) (h27 : σ.1 27 = nI N) (h23 : ∀ i, i < N → cd i / 24 < 72 ∧ σ.2.1 23 i = nI (cd i / 24)) (hti : ∀ i, i < N → ∀ w, w < 4 → zti σ (4 * i + w) < N) (h34 : ∀ i, i < N → σ.2.2 34 i = lN (zI (zti σ) N 0 i)) (ha : zsm (fun i => if cd i / 24 = p then zI (zti σ) N n i else 0) N ≤ 4 ^ n)
    (h : ∀ σ2, zq_l σ σ2 → Q (lN ((if v = 0 then zsm (fun i => if cd i / 24 = p then zI (zti σ) N n i else 0) N else 4 ^ n) / Nat.gcd (zsm (fun i => if cd i / 24 = p then zI (zti σ) N n i else 0) N) (4 ^ n))) σ2) : zq8_likely_114 (nI n) (nI p) (nI v) 1 0 σ Q := by
  unfold zq8_likely_114
  refine ⟨fun v4 v6 σ2 => ∃ t, t ≤ n ∧ v6 = nI t ∧ (v4 = lN (4 ^ t) ∧ zq_l σ σ2 ∧ ∀ i, i < N → σ2.2.2 34 i = lN (zI (zti σ) N t i)), fun _ v6 _ => n - v6.toNatClampNeg, ⟨0, Nat.zero_le _, rfl, rfl, zq_l.rf, h34⟩, ?_⟩
  rintro v4 v6 σ2 ⟨t, ht, rfl, rfl, x2, e34⟩
  have ez : zti σ2 = zti σ := by unfold zti; rw [x2.2]
  refine pk_le n t (fun q => ?_) (fun q => ?_)
  · have e : t = n := by omega
    subst e
    exact e8_likely_278 (cd := cd) (ti := zti σ) hn hv hp hN (by rw [x2.1]; exact h27) (fun i hi => by rw [x2.2]; exact h23 i hi) e34 ha (h σ2 x2)
  · unfold zq8_likely_123
    refine ⟨fun v7 σ3 => ∃ i, i ≤ N ∧ v7 = nI i ∧ (zq_l σ σ3 ∧ σ3.2.2 34 = σ2.2.2 34 ∧ ∀ j, j < i → σ3.2.2 35 j = 0), fun v7 _ => N - v7.toNatClampNeg, ⟨0, Nat.zero_le _, rfl, x2, rfl, fun j hj => absurd hj (Nat.not_lt_zero j)⟩, ?_⟩
    rintro v7 σ3 ⟨i, hi, rfl, x3, f34, f35⟩
    rw [x3.1, h27]
    refine pk_le N i (fun q2 => ?_) (fun q2 => ⟨vp_in_nI (by omega) (by decide), fun g47 h47 => ?_⟩)
    · have ez3 : zti σ3 = zti σ := by unfold zti; rw [x3.2]
      refine e8_likely_149 hN (by rw [x3.1]; exact h27) (fun i hi w hw => by rw [ez3]; exact hti i hi w hw) (fun i hi => by rw [f34, ez3]; exact e34 i hi) (fun j hj => f35 j (by omega)) (fun σ4 x4 e4 => ?_)
      rw [ez3] at e4
      exact zl_leaf (J := fun j σ2 => lN (4 ^ (t + 1)) = lN (4 ^ j) ∧ zq_l σ σ2 ∧ ∀ i, i < N → σ2.2.2 34 i = lN (zI (zti σ) N j i)) q (by omega) ⟨rfl, ⟨x4.1.trans x3.1, x4.2.trans x3.2⟩, e4⟩
    · have ci : (nI i).toNatClampNeg = i := nI_clamp (by omega)
      rw [ci] at h47
      refine zl_leaf (J := fun i σ3 => zq_l σ σ3 ∧ σ3.2.2 34 = σ2.2.2 34 ∧ ∀ j, j < i → σ3.2.2 35 j = 0) q2 (by omega) ⟨by rw [h47]; exact x3.L _ _, by rw [h47, zq_L3, if_neg (by decide)]; exact f34, fun j hj => ?_⟩
      rw [h47, zq_L3, if_pos rfl]
      rcases Nat.lt_succ_iff_lt_or_eq.mp hj with z | z
      · rw [pk_uLn (by omega)]; exact f35 j z
      · rw [z, pk_uLs]
theorem e8_likely_76 {Q : Int64 → zz_St → Prop} {n v p N : Nat} {cd : Nat → Nat} (hn : n ≤ 12) (hv : v < 2) (hp : p < 72) (hN : N ≤ 864) (h27 : σ.1 27 = nI N) (h23 : ∀ i, i < N → cd i / 24 < 72 ∧ σ.2.1 23 i = nI (cd i / 24)) (hti : ∀ i, i < N → ∀ w, w < 4 → zti σ (4 * i + w) < N) (ha : zsm (fun i => if cd i / 24 = p then zI (zti σ) N n i else 0) N ≤ 4 ^ n)
    (h : ∀ σ2, zq_l σ σ2 → Q (lN ((if v = 0 then zsm (fun i => if cd i / 24 = p then zI (zti σ) N n i else 0) N else 4 ^ n) / Nat.gcd (zsm (fun i => if cd i / 24 = p then zI (zti σ) N n i else 0) N) (4 ^ n))) σ2) : zq8_likely_76 (nI n) (nI p) (nI v) 0 σ Q := by
  unfold zq8_likely_76
  refine ⟨fun v4 σ2 => ∃ i, i ≤ N ∧ v4 = nI i ∧ (zq_l σ σ2 ∧ ∀ j, j < i → σ2.2.2 34 j = lN (if j = 0 then 1 else 0)), fun v4 _ => N - v4.toNatClampNeg, ⟨0, Nat.zero_le _, rfl, zq_l.rf, fun j hj => absurd hj (Nat.not_lt_zero j)⟩, ?_⟩
  rintro v4 σ2 ⟨i, hi, rfl, x2, e34⟩
  rw [x2.1, h27]
  refine pk_le N i (fun q => ?_) (fun q => ?_)
  · have ez : zti σ2 = zti σ := by unfold zti; rw [x2.2]
    refine e8_likely_114 (cd := cd) hn hv hp hN (by rw [x2.1]; exact h27) (fun i hi => by rw [x2.2]; exact h23 i hi) (fun i hi w hw => by rw [ez]; exact hti i hi w hw) (fun j hj => e34 j (by omega)) (by rw [ez]; exact ha) (fun σ3 x3 => ?_)
    rw [ez]
    exact h σ3 ⟨x3.1.trans x2.1, x3.2.trans x2.2⟩
  · have ci : (nI i).toNatClampNeg = i := nI_clamp (by omega)
    have vi : vp_in (nI i) 900 := vp_in_nI (by omega) (by decide)
    have e0 : nI i = 0 ↔ i = 0 := nI_eq (b := 0) (by omega) (by decide)
    have leaf : ∀ b, b = lN (if i = 0 then 1 else 0) → zq8_likely_101 (nI n) (nI p) (nI v) (nI i) b (nI i) σ2 Q (fun v4' σ' => (∃ i, i ≤ N ∧ v4' = nI i ∧ (zq_l σ σ' ∧ ∀ j, j < i → σ'.2.2 34 j = lN (if j = 0 then 1 else 0))) ∧ N - v4'.toNatClampNeg < N - (nI i).toNatClampNeg) := by
      intro b hb
      unfold zq8_likely_101
      refine ⟨vi, fun g38 h38 => ?_⟩
      rw [ci] at h38
      refine zl_leaf (J := fun i σ' => zq_l σ σ' ∧ ∀ j, j < i → σ'.2.2 34 j = lN (if j = 0 then 1 else 0)) q (by omega) ⟨by rw [h38]; exact x2.L _ _, fun j hj => ?_⟩
      rw [h38, zq_L3, if_pos rfl]
      rcases Nat.lt_succ_iff_lt_or_eq.mp hj with z | z
      · rw [pk_uLn (by omega)]; exact e34 j z
      · rw [z, pk_uLs]; exact hb
    rw [e0]
    exact ⟨fun u => leaf 0 (by rw [if_neg u]; rfl), fun u => leaf 1 (by rw [if_pos u]; rfl)⟩
end SP
