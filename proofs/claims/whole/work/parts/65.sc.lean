/-! call: reached; even and odd never meet -/
theorem zb_or0 (p : Nat) (hp : p < 2) : (0 : Int32) ||| nI (1 + p) = nI (1 + p) ∧ ¬ nI (1 + p) = 0 ∧ nI (1 + p) ||| nI (1 + p) = nI (1 + p) ∧ nI (1 + p) ||| 0 = nI (1 + p) ∧ ¬ nI (1 + p) = 3 := by
  rcases (by omega : p = 0 ∨ p = 1) with rfl | rfl <;> decide
theorem zb_mk (p : Nat) (hp : p < 2) : ((0 : Int32) >>> (nI p &&& 31)) &&& 1 = 0 ∧ ¬ ((nI (1 + p)) >>> (nI p &&& 31)) &&& 1 = 0 ∧ (0 : Int32) ||| ((1 : Int32) <<< (nI p &&& 31)) = nI (1 + p) := by
  rcases (by omega : p = 0 ∨ p = 1) with rfl | rfl <;> decide
theorem zb_tr (p : Nat) (hp : p < 2) : ((nI (1 + p) &&& 1) <<< ((1 : Int32) &&& 31)) ||| (nI (1 + p) >>> ((1 : Int32) &&& 31)) = nI (1 + (1 - p)) ∧ (((0 : Int32) &&& 1) <<< ((1 : Int32) &&& 31)) ||| ((0 : Int32) >>> ((1 : Int32) &&& 31)) = 0 := by
  rcases (by omega : p = 0 ∨ p = 1) with rfl | rfl <;> decide
section SC
variable {σ τ : zz_St} {r c k x0 : Nat} {tl pr : Nat → Int32}
/-- the class's queue of states with their parity -/
def CE (k x0 : Nat) (τ : zz_St) (D : List Nat) : Prop := τ.1 13 = nI D.length ∧ (∀ (i x : Nat), D[i]? = some x → τ.2.1 22 i = nI (2 * x + zs_pp k x0 x)) ∧ ∀ x, x < 1728 → (x ∈ D → τ.2.1 23 x = nI (1 + zs_pp k x0 x)) ∧ (x ∉ D → τ.2.1 23 x = 0)
def ZND (D : List Nat) : Prop := ∀ (i j : Nat), i < j → ∀ (x y : Nat), D[i]? = some x → D[j]? = some y → x ≠ y
theorem zl_nodup_len {D : List Nat} (h1 : ∀ x ∈ D, x < 1728) (h2 : ZND D) : D.length ≤ 1728 := by
  refine fb_holes 1728 _ (fun i => D.getD i 0) (fun i hi => ?_) (fun i j hij hj => ?_)
  · have : D[i]? = some (D.getD i 0) := by rw [List.getD_eq_getElem?_getD, List.getElem?_eq_getElem hi]; rfl
    exact h1 _ (List.mem_of_getElem? this)
  · have hi : i < D.length := Nat.lt_trans hij hj
    have e1 : D[i]? = some (D.getD i 0) := by rw [List.getD_eq_getElem?_getD, List.getElem?_eq_getElem hi]; rfl
    have e2 : D[j]? = some (D.getD j 0) := by rw [List.getD_eq_getElem?_getD, List.getElem?_eq_getElem hj]; rfl
    exact h2 i j hij _ _ e1 e2
theorem e4_hasEven {Q : Int32 → zz_St → Prop} (hB : CB τ r c k tl pr) (hT : CT τ) (hd : zs_dim r c k) (hV : zs_V r c k x0) (h8 : τ.1 8 = nI x0) (h : ∀ τ2, zx τ τ2 [13] [22, 23] → Q 0 τ2) : zq4_hasEven τ Q := by
  have hx0 := zs_V_lt hd hV
  unfold zq4_hasEven
  intro f29 hf g31 h31
  have x31 : zx τ g31 [] [23] := by rw [h31]; exact zx.A 23 _ (by decide)
  have c0 : (nI x0).toNatClampNeg = x0 := nI_clamp (by omega)
  rw [x31.1 8 (by decide), h8, c0]
  refine ⟨vp_in_nI hx0.1 (by decide), fun g32 h32 => ⟨vp_in_nI (n := 0) (by decide) (by decide), fun g33 h33 g34 h34 => ?_⟩⟩
  have x32 : zx g31 g32 [] [23] := by rw [h32]; exact zx.A 23 _ (by decide)
  have x33 : zx g32 g33 [] [22] := by rw [h33]; exact zx.A 22 _ (by decide)
  have x34 : zx g33 g34 [13] [] := by rw [h34]; exact zx.I 13 _ (by decide)
  have xx : zx τ g34 [13] [22, 23] := (((x31.mono (by decide) (by decide)).tr (x32.mono (by decide) (by decide))).tr (x33.mono (by decide) (by decide))).tr (x34.mono (by decide) (by decide))
  have hCE : CE k x0 g34 [x0] := by
    refine ⟨by rw [h34, zz_I1, if_pos rfl]; rfl, fun i x hi => ?_, fun x hx => ?_⟩
    · have hil := (List.getElem?_eq_some_iff.mp hi).1
      have : i = 0 := by simp only [List.length_cons, List.length_nil] at hil; omega
      subst this
      have : x0 = x := Option.some.inj hi
      subst this
      rw [x34.2.1 22 (by decide), h33, zz_A2, if_pos rfl, zt_0, pk_us, x32.1 8 (by decide), x31.1 8 (by decide), h8, zs_pp_0]
      exact pk_mul 2 x0
    · rw [x34.2.1 23 (by decide), x33.2.1 23 (by decide), h32, zz_A2, if_pos rfl]
      by_cases y : x = x0
      · rw [y, pk_us, zs_pp_0]
        exact ⟨fun _ => rfl, fun u => absurd List.mem_cons_self u⟩
      · rw [pk_un y, h31, zz_A2, if_pos rfl, hf x hx]
        exact ⟨fun u => absurd (List.mem_singleton.mp u) y, fun _ => rfl⟩
  unfold zq4_hasEven_37
  refine ⟨fun v2 τ2 => ∃ i, i ≤ 3456 ∧ v2 = nI i ∧ (zx τ τ2 [13] [22, 23] ∧ ∃ D, CE k x0 τ2 D ∧ (∀ x ∈ D, zs_V r c k x) ∧ ZND D), fun v2 _ => 3456 - v2.toNatClampNeg, ⟨0, Nat.zero_le _, rfl, xx, [x0], hCE, fun x hx => by rw [List.mem_singleton.mp hx]; exact hV, fun i j hij x y _ hy => ?_⟩, ?_⟩
  · have := (List.getElem?_eq_some_iff.mp hy).1
    simp only [List.length_cons, List.length_nil] at this
    omega
  rintro v2 τ2 ⟨i, hi, rfl, x2, D, hD, hDV, hDn⟩
  have hlen := zl_nodup_len (fun x hx => (zs_V_lt hd (hDV x hx)).1) hDn
  rw [hD.1]
  refine pk_le D.length i (fun _ => h τ2 x2) (fun q => ⟨fun _ => h τ2 x2, fun _ => ⟨vp_in_nI (by omega) (by decide), ?_⟩⟩)
  have he : D[i]? = some D[i] := List.getElem?_eq_getElem q
  generalize D[i] = x at he
  have hVx := hDV x (List.mem_of_getElem? he)
  have hx := zs_V_lt hd hVx
  have ci : (nI i).toNatClampNeg = i := nI_clamp (by omega)
  have hp := zs_pp_lt k x0 x
  rw [ci, hD.2.1 i x he]
  have e28 : (1 : Int32) - (nI (2 * x + zs_pp k x0 x) - nI (2 * x + zs_pp k x0 x) / 2 * 2) = nI (1 - zs_pp k x0 x) := by
    rw [zs_r2 (by omega), show (2 * x + zs_pp k x0 x) % 2 = zs_pp k x0 x from by omega]
    exact pk_sub (a := 1) (by omega)
  rw [e28]
  intro x28 e28'
  subst e28'
  unfold zq4_hasEven_68 zq4_hasEven_160
  refine ⟨fun v4 τ3 => ∃ w, w ≤ 4 ∧ v4 = nI w ∧ (zx τ τ3 [13] [22, 23] ∧ ∃ D, D[i]? = some x ∧ CE k x0 τ3 D ∧ (∀ x ∈ D, zs_V r c k x) ∧ ZND D), fun v4 _ => 4 - v4.toNatClampNeg, ⟨0, Nat.zero_le _, rfl, x2, D, he, hD, hDV, hDn⟩, ?_⟩
  clear he hD hDV hDn hlen q
  rintro v4 τ3 ⟨w, hw4, rfl, x3, D, he, hD, hDV, hDn⟩
  have hlen := zl_nodup_len (fun x hx => (zs_V_lt hd (hDV x hx)).1) hDn
  have hiD := (List.getElem?_eq_some_iff.mp he).1
  refine ⟨fun q => ?_, fun q => ?_⟩
  · exact zl_leaf (J := fun i τ2 => zx τ τ2 [13] [22, 23] ∧ ∃ D, CE k x0 τ2 D ∧ (∀ x ∈ D, zs_V r c k x) ∧ ZND D) (N := 3456) (by omega) (by decide) ⟨x3, D, hD, hDV, hDn⟩
  have hw := zl_go (N := 4) hw4 (by decide) q
  have ci : (nI i).toNatClampNeg = i := nI_clamp (by omega)
  have leaf : ∀ τ4 D', zx τ τ4 [13] [22, 23] → D'[i]? = some x → CE k x0 τ4 D' → (∀ x ∈ D', zs_V r c k x) → ZND D' → (∃ w', w' ≤ 4 ∧ nI w + 1 = nI w' ∧ (zx τ τ4 [13] [22, 23] ∧ ∃ D, D[i]? = some x ∧ CE k x0 τ4 D ∧ (∀ x ∈ D, zs_V r c k x) ∧ ZND D)) ∧ 4 - (nI w + 1).toNatClampNeg < 4 - (nI w).toNatClampNeg := fun τ4 D' a b c' d e => zl_leaf (J := fun w τ4 => zx τ τ4 [13] [22, 23] ∧ ∃ D, D[i]? = some x ∧ CE k x0 τ4 D ∧ (∀ x ∈ D, zs_V r c k x) ∧ ZND D) hw (by decide) ⟨a, D', b, c', d, e⟩
  rw [ci, hD.2.1 i x he, zs_2 (by omega), show (2 * x + zs_pp k x0 x) / 2 = x from by omega]
  obtain ⟨hp2, hss, _⟩ := zs_V_dm hd hVx
  refine ⟨vp_in_nI (by omega) (by decide), e6_rolledx (hB.x x3 (by decide)) (hT.x x3 (by decide) (by decide)) hd hw hss hp2 (fun y hy => zYf (nI_pos (by have := (zs_V_lt hd (zs_st_V hVx hw hy)).1; omega)) ?_) (fun hn => zYt (by decide) (leaf τ3 D x3 he hD hDV hDn))⟩
  have hVy := zs_st_V hVx hw hy
  have hy17 := zs_V_lt hd hVy
  have cy : (nI y).toNatClampNeg = y := nI_clamp (by omega)
  have vy : vp_in (nI y) 1728 := vp_in_nI hy17.1 (by decide)
  have epp := zs_pp_st (x0 := x0) hVx hw hy
  rw [← epp, cy]
  have hpy := zs_pp_lt k x0 y
  obtain ⟨m1, m2, m3⟩ := zb_mk _ hpy
  refine ⟨vy, ?_⟩
  by_cases hin : y ∈ D
  · rw [(hD.2.2 y hy17.1).1 hin]
    exact zNf m2 (leaf τ3 D x3 he hD hDV hDn)
  · rw [(hD.2.2 y hy17.1).2 hin]
    refine zNt m1 ⟨vy, vy, fun g22 h22 => ?_⟩
    rw [m3] at h22
    have y22 : zx τ3 g22 [] [23] := by rw [h22]; exact zx.A 23 _ (by decide)
    have e13 : g22.1 13 = nI D.length := (y22.1 13 (by decide)).trans hD.1
    have cl : (nI D.length).toNatClampNeg = D.length := nI_clamp (by omega)
    rw [e13, cl]
    refine ⟨vp_in_nI (by omega) (by decide), fun g23 h23 g24 h24 => ⟨vy, ?_⟩⟩
    have y23 : zx g22 g23 [] [22] := by rw [h23]; exact zx.A 22 _ (by decide)
    have y24 : zx g23 g24 [13] [] := by rw [h24]; exact zx.I 13 _ (by decide)
    have m23 : g24.2.1 23 = upd (τ3.2.1 23) y (nI (1 + zs_pp k x0 y)) := by rw [y24.2.1 23 (by decide), y23.2.1 23 (by decide), h22, zz_A2, if_pos rfl]
    have m22 : g24.2.1 22 = upd (τ3.2.1 22) D.length (nI (2 * y + zs_pp k x0 y)) := by
      rw [y24.2.1 22 (by decide), h23, zz_A2, if_pos rfl, y22.2.1 22 (by decide), show (2 : Int32) * nI y = nI (2 * y) from pk_mul 2 y, nI_add]
    rw [m23, pk_us]
    refine zNf (zb_or0 _ hpy).2.2.2.2 (leaf g24 (D ++ [y]) (((x3.tr (y22.mono (by decide) (by decide))).tr (y23.mono (by decide) (by decide))).tr (y24.mono (by decide) (by decide))) (zl_front _ he) ⟨?_, fun j z hz => ?_, fun z hz => ?_⟩ (fun z hz => ?_) (fun a b hab u v hu hv => ?_))
    · rw [h24, zz_I1, if_pos rfl, y23.1 13 (by decide), e13, nI_1, List.length_append]; rfl
    · rw [m22]
      rcases zl_snoc hz with ⟨a1, a2⟩ | ⟨a1, a2⟩
      · rw [pk_un (by omega)]; exact hD.2.1 j z a2
      · rw [a1, ← a2, pk_us]
    · rw [m23]
      by_cases u : z = y
      · rw [u, pk_us]
        exact ⟨fun _ => rfl, fun v => absurd (List.mem_append_right _ (List.mem_singleton.mpr rfl)) v⟩
      · rw [pk_un u]
        refine ⟨fun v => (hD.2.2 z hz).1 ?_, fun v => (hD.2.2 z hz).2 (fun w => v (List.mem_append_left _ w))⟩
        rcases List.mem_append.mp v with m | m
        · exact m
        · exact absurd (List.mem_singleton.mp m) u
    · rcases List.mem_append.mp hz with m | m
      · exact hDV z m
      · rw [List.mem_singleton.mp m]; exact hVy
    · rcases zl_snoc hu with ⟨a1, a2⟩ | ⟨a1, a2⟩
      · rcases zl_snoc hv with ⟨b1, b2⟩ | ⟨b1, b2⟩
        · exact hDn a b hab u v a2 b2
        · subst b2
          exact fun w => hin (by rw [← w]; exact List.mem_of_getElem? a2)
      · have := (List.getElem?_eq_some_iff.mp hv).1
        rw [List.length_append] at this
        simp only [List.length_cons, List.length_nil] at this
        omega
/-- the reference's parities: none, or the state's own -/
def ME (k x0 : Nat) (l : List (Nat × Nat × Nat)) (σ : zz_St) : Prop := ∀ (i : Nat) (e : Nat × Nat × Nat), l[i]? = some e → σ.2.1 30 i = 0 ∨ σ.2.1 30 i = nI (1 + zs_pp k x0 e.1)
def mez (l : List (Nat × Nat × Nat)) (σ : zz_St) : Nat := zcnt (fun i => decide (σ.2.1 30 i = 0)) l.length
theorem e8_isEven {Q : Int32 → zz_St → Prop} {te : Bool} {l : List (Nat × Nat × Nat)} (hL : ML σ te l) (hl : l.length ≤ 864) (hl0 : l[0]? = some (x0, 0, 0)) (hVl : ∀ (i : Nat) (e : Nat × Nat × Nat), l[i]? = some e → zs_V r c k e.1) (hN : MN σ (zs_st r c k tl pr) l (4 * l.length)) (h : ∀ σ2, zx σ σ2 [] [30] → Q 0 σ2) : zq8_isEven σ Q := by
  unfold zq8_isEven zq8_isEven_2 zq8_isEven_24
  have hlen0 : 0 < l.length := (List.getElem?_eq_some_iff.mp hl0).1
  refine ⟨fun v σ2 => ∃ i, i ≤ l.length ∧ v = nI i ∧ (zx σ σ2 [] [30] ∧ ∀ j, j < i → σ2.2.1 30 j = if j = 0 then 1 else 0), fun v _ => l.length - v.toNatClampNeg, ⟨0, Nat.zero_le _, rfl, zx.rf, fun j hj => absurd hj (Nat.not_lt_zero j)⟩, ?_⟩
  rintro v σ2 ⟨i, hi, rfl, x2, hp⟩
  rw [x2.1 27 (by decide), hL.1]
  refine pk_le l.length i (fun q => ?_) (fun q => ?_)
  rotate_left
  · have ci : (nI i).toNatClampNeg = i := nI_clamp (by omega)
    have e0 : nI i = 0 ↔ i = 0 := nI_eq (b := 0) (by omega) (by decide)
    rw [e0]
    have leaf : ∀ (v : Int32) (g14 : zz_St), v = (if i = 0 then 1 else 0) → g14 = zz_A σ2 30 (upd (σ2.2.1 30) (nI i).toNatClampNeg v) → (∃ j, j ≤ l.length ∧ nI i + 1 = nI j ∧ (zx σ g14 [] [30] ∧ ∀ t, t < j → g14.2.1 30 t = if t = 0 then 1 else 0)) ∧ l.length - (nI i + 1).toNatClampNeg < l.length - (nI i).toNatClampNeg := by
      intro v g14 ev h14
      rw [ci] at h14
      refine zl_leaf (J := fun j g14 => zx σ g14 [] [30] ∧ ∀ t, t < j → g14.2.1 30 t = if t = 0 then 1 else 0) q (by omega) ⟨?_, fun t ht => ?_⟩
      · rw [h14]; exact x2.tr (zx.A 30 _ (by decide))
      · rw [h14, zz_A2, if_pos rfl]
        rcases Nat.lt_succ_iff_lt_or_eq.mp ht with y | y
        · rw [pk_un (by omega)]; exact hp t y
        · rw [y, pk_us, ev]
    exact ⟨fun y => ⟨vp_in_nI (by omega) (by decide), fun g14 h14 => leaf 0 g14 (by rw [if_neg y]) h14⟩, fun y => ⟨vp_in_nI (by omega) (by decide), fun g14 h14 => leaf 1 g14 (by rw [if_pos y]) h14⟩⟩
  have hil : i = l.length := by omega
  subst hil
  have hME : ME k x0 l σ2 := by
    intro j e he
    have hj := (List.getElem?_eq_some_iff.mp he).1
    rw [hp j hj]
    by_cases y : j = 0
    · rw [if_pos y]
      rw [y, hl0] at he
      cases he
      exact Or.inr (by rw [zs_pp_0]; rfl)
    · rw [if_neg y]; exact Or.inl rfl
  unfold zq8_isEven_33
  refine ⟨fun v σ3 => (v = 0 ∨ v = 1) ∧ zx σ σ3 [] [30] ∧ ME k x0 l σ3, fun v σ3 => mez l σ3 + (if v = 0 then 0 else 1), ⟨Or.inr rfl, x2, hME⟩, ?_⟩
  clear hp x2 hME q
  rintro v σ3 ⟨hv, x3, hM⟩
  refine ⟨fun y => ?_, fun y => ?_⟩
  · unfold zq8_isEven_145
    refine ⟨fun v => ∃ i, i ≤ l.length ∧ v = nI i, fun v => l.length - v.toNatClampNeg, ⟨0, Nat.zero_le _, rfl⟩, ?_⟩
    rintro v ⟨i, hi, rfl⟩
    rw [x3.1 27 (by decide), hL.1]
    refine pk_le l.length i (fun _ => h σ3 x3) (fun q => ⟨vp_in_nI (by omega) (by decide), ?_⟩)
    have he : l[i]? = some l[i] := List.getElem?_eq_getElem q
    generalize l[i] = e at he
    have ci : (nI i).toNatClampNeg = i := nI_clamp (by omega)
    have n3 : ¬ σ3.2.1 30 i = 3 := by
      rcases hM i e he with u | u
      · rw [u]; decide
      · rw [u]; exact (zb_or0 _ (zs_pp_lt _ _ _)).2.2.2.2
    rw [ci]
    exact zNf n3 (zl_leaf0 (J := fun _ => True) q (by omega) trivial |> fun f => ⟨by obtain ⟨⟨j, a, b, _⟩, _⟩ := f; exact ⟨j, a, b⟩, f.2⟩)
  · have v1 : v = 1 := hv.resolve_left y
    subst v1
    unfold zq8_isEven_41
    refine ⟨fun v1 v2 σ4 => ∃ i, i ≤ l.length ∧ v2 = nI i ∧ (zx σ σ4 [] [30] ∧ ME k x0 l σ4 ∧ ((v1 = 0 ∧ mez l σ4 = mez l σ3) ∨ (v1 = 1 ∧ mez l σ4 < mez l σ3))), fun _ v2 _ => l.length - v2.toNatClampNeg, ⟨0, Nat.zero_le _, rfl, x3, hM, Or.inl ⟨rfl, rfl⟩⟩, ?_⟩
    rintro v1 v2 σ4 ⟨i, hi, rfl, x4, hM4, hz⟩
    rw [x4.1 27 (by decide), hL.1]
    refine pk_le l.length i (fun q => ?_) (fun q => ⟨vp_in_nI (by omega) (by decide), vp_in_nI (by omega) (by decide), ?_⟩)
    · refine ⟨⟨hz.elim (fun u => Or.inl u.1) (fun u => Or.inr u.1), x4, hM4⟩, ?_⟩
      show mez l σ4 + (if v1 = 0 then 0 else 1) < mez l σ3 + (if (1 : Int32) = 0 then 0 else 1)
      rw [if_neg n10]
      rcases hz with ⟨u1, u2⟩ | ⟨u1, u2⟩
      · rw [if_pos u1]; omega
      · rw [u1, if_neg n10]; omega
    · have he : l[i]? = some l[i] := List.getElem?_eq_getElem q
      generalize l[i] = e at he
      have hVe := hVl i e he
      have ci : (nI i).toNatClampNeg = i := nI_clamp (by omega)
      rw [ci]
      intro x21 e21
      have hturn : x21 = 0 ∨ x21 = nI (1 + (1 - zs_pp k x0 e.1)) := by
        rcases hM4 i e he with u | u
        · rw [u] at e21; rw [e21]; exact Or.inl (zb_tr 0 (by decide)).2
        · rw [u] at e21; rw [e21]; exact Or.inr (zb_tr _ (zs_pp_lt _ _ _)).1
      unfold zq8_isEven_72 zq8_isEven_128
      refine ⟨fun v1 v4 σ5 => ∃ w, w ≤ 4 ∧ v4 = nI w ∧ (zx σ σ5 [] [30] ∧ ME k x0 l σ5 ∧ ((v1 = 0 ∧ mez l σ5 = mez l σ3) ∨ (v1 = 1 ∧ mez l σ5 < mez l σ3))), fun _ v4 _ => 4 - v4.toNatClampNeg, ⟨0, Nat.zero_le _, rfl, x4, hM4, hz⟩, ?_⟩
      clear hz e21
      rintro v1 v4 σ5 ⟨w, hw4, rfl, x5, hM5, hz⟩
      refine ⟨fun q2 => ?_, fun q2 => ?_⟩
      · exact zl_leaf (J := fun _ σ4 => zx σ σ4 [] [30] ∧ ME k x0 l σ4 ∧ ((v1 = 0 ∧ mez l σ4 = mez l σ3) ∨ (v1 = 1 ∧ mez l σ4 < mez l σ3))) q (by omega) ⟨x5, hM5, hz⟩
      have hw := zl_go (N := 4) hw4 (by decide) q2
      have leaf : ∀ (v1' : Int32) (σ6 : zz_St), zx σ σ6 [] [30] → ME k x0 l σ6 → ((v1' = 0 ∧ mez l σ6 = mez l σ3) ∨ (v1' = 1 ∧ mez l σ6 < mez l σ3)) → (∃ w', w' ≤ 4 ∧ nI w + 1 = nI w' ∧ (zx σ σ6 [] [30] ∧ ME k x0 l σ6 ∧ ((v1' = 0 ∧ mez l σ6 = mez l σ3) ∨ (v1' = 1 ∧ mez l σ6 < mez l σ3)))) ∧ 4 - (nI w + 1).toNatClampNeg < 4 - (nI w).toNatClampNeg := fun v1' σ6 a b c' => zl_leaf (J := fun _ σ6 => zx σ σ6 [] [30] ∧ ME k x0 l σ6 ∧ ((v1' = 0 ∧ mez l σ6 = mez l σ3) ∨ (v1' = 1 ∧ mez l σ6 < mez l σ3))) hw (by decide) ⟨a, b, c'⟩
      have e4 : (4 : Int32) * nI i + nI w = nI (4 * i + w) := zn_ma 4 i w
      have c4 : (nI (4 * i + w)).toNatClampNeg = 4 * i + w := nI_clamp (by omega)
      rw [e4, c4, x5.2.1 26 (by decide)]
      refine ⟨vp_in_nI (by omega) (by decide), fun x16 e16 => ?_⟩
      have hdiv : (4 * i + w) / 4 = i := by omega
      have hmod : (4 * i + w) % 4 = w := by omega
      have hnx := hN (4 * i + w) (by omega) e (by rw [hdiv]; exact he)
      rw [hmod] at hnx
      rcases hnx with ⟨_, a2⟩ | ⟨y', j, f, a1, a2, a3, a4⟩
      · rw [a2] at e16
        rw [e16]
        exact zYt (by decide) (leaf v1 σ5 x5 hM5 hz)
      · rw [a4] at e16
        rw [e16]
        have hj := (List.getElem?_eq_some_iff.mp a2).1
        have cj : (nI j).toNatClampNeg = j := nI_clamp (by omega)
        have vj : vp_in (nI j) 900 := vp_in_nI (by omega) (by decide)
        have epp := zs_pp_st (x0 := x0) hVe hw a1
        rw [← a3] at epp
        rw [← epp] at hturn
        have hpf := zs_pp_lt k x0 f.1
        obtain ⟨o1, o2, o3, o4, _⟩ := zb_or0 _ hpf
        rw [cj]
        refine zYf (nI_pos (by omega)) ⟨vj, vj, ?_⟩
        rcases hM5 j f a2 with u | u
        · rcases hturn with t | t
          · rw [u, t]
            exact zYt (by decide) (leaf v1 σ5 x5 hM5 hz)
          · rw [u, t, o1]
            refine zYf o2 ⟨vj, vj, fun g19 h19 => ?_⟩
            have x19 : zx σ5 g19 [] [30] := by rw [h19]; exact zx.A 30 _ (by decide)
            have less : mez l g19 + 1 = mez l σ5 := by
              refine zcnt_upd hj (fun t' ht' hne => ?_) (decide_eq_true u) (decide_eq_false ?_)
              · rw [h19, zz_A2, if_pos rfl, pk_un hne]
              · rw [h19, zz_A2, if_pos rfl, pk_us]; exact o2
            refine leaf 1 g19 (x5.tr x19) (fun t' e' he' => ?_) (Or.inr ⟨rfl, by rcases hz with z | z <;> omega⟩)
            rw [h19, zz_A2, if_pos rfl]
            by_cases y2 : t' = j
            · rw [y2, a2] at he'
              cases he'
              rw [y2, pk_us]; exact Or.inr rfl
            · rw [pk_un y2]; exact hM5 t' e' he'
        · rcases hturn with t | t
          · rw [u, t, o4]
            exact zYt rfl (leaf v1 σ5 x5 hM5 hz)
          · rw [u, t, o3]
            exact zYt rfl (leaf v1 σ5 x5 hM5 hz)
end SC
section SD
variable {σ τ : zz_St}
theorem R_reached (h : Rel σ τ) (v : Int32) : zq7_reached v τ (fun a τ' => zq8_reached v σ (fun b σ' => RQ τ' a b σ')) := by
  obtain ⟨⟨r, c, k, h0⟩, hE⟩ := id h
  have hT := h.ct
  have hd := h0.dim
  unfold zq7_reached zq8_reached zq7_reached_9
  refine zn_le (n := 3) (by decide) (fun q => ?_) (fun q => e7_refuse 2 (by decide) (by decide) (e8_in4 (fun u => absurd u q) (fun _ => zNt n00 (RQ.no8 h 2 (by decide) (by decide) (by decide)))))
  rcases h0.there with ⟨z1, z2⟩ | ⟨z1, x, hV, hF, z2⟩
  · exact e6_none0 z2 (zYf n10 (e7_refuse 3 (by decide) (by decide) (e8_in4 (fun _ => zNf n10 (zNt z1 (RQ.no8 h 3 (by decide) (by decide) (by decide)))) (fun u => absurd q u))))
  · have hx := zs_V_lt hd hV
    have th : ¬ σ.1 9 = 0 := by rw [z1]; decide
    have est : bfx r c k (τ.2.1 14) (τ.2.1 16) x = bfx r c k (σ.2.1 4) (σ.2.1 5) x := by unfold bfx; rw [h0.st]
    have hlen := bfx_len (tl := σ.2.1 4) (pr := σ.2.1 5) hd hV
    have hl0 : (bfx r c k (σ.2.1 4) (σ.2.1 5) x)[0]? = some (x, 0, 0) := bf_0 _
    have hlpos : 0 < (bfx r c k (σ.2.1 4) (σ.2.1 5) x).length := bf_pos _
    have hVl : ∀ (i : Nat) (e : Nat × Nat × Nat), (bfx r c k (σ.2.1 4) (σ.2.1 5) x)[i]? = some e → zs_V r c k e.1 := fun i e he => bfx_V hV he
    have M : ∀ {Q : Int32 → zz_St → Prop}, (∀ σ2, zx σ σ2 [8, 12, 20, 27, 28] [10, 11, 13, 21, 22, 23, 24, 25, 26] → MF σ2 (zs_te k) (x / 24) (x % 24) → MG σ2 (zs_te k) (zs_st r c k (σ.2.1 4) (σ.2.1 5)) x (bfx r c k (σ.2.1 4) (σ.2.1 5) x) → ((¬ v = 0) → ((¬ v = (1 : Int32)) → ((¬ v = (2 : Int32)) → vp_in ((σ2.1 27) - (1 : Int32)) 900 ∧ Q (σ2.2.1 25 ((σ2.1 27) - (1 : Int32)).toNatClampNeg) σ2) ∧ (v = (2 : Int32) → zq8_isEven σ2 (fun r24 g25 => ((r24 = 0) → Q (0 : Int32) g25) ∧ (¬ (r24 = 0) → Q (1 : Int32) g25)))) ∧ (v = (1 : Int32) → zq8_placesReached σ2 (fun r27 g28 => Q r27 g28))) ∧ (v = 0 → Q (σ2.1 27) σ2)) → zq8_in (v.toInt64) (0 : Int64) (3 : Int64) (fun r17 => ((¬ r17 = 0) → ((¬ ((σ).1 9) = 0) → zq8_goesThrough σ (fun g20 => ((¬ v = 0) → ((¬ v = (1 : Int32)) → ((¬ v = (2 : Int32)) → vp_in ((g20.1 27) - (1 : Int32)) 900 ∧ Q (g20.2.1 25 ((g20.1 27) - (1 : Int32)).toNatClampNeg) g20) ∧ (v = (2 : Int32) → zq8_isEven g20 (fun r24 g25 => ((r24 = 0) → Q (0 : Int32) g25) ∧ (¬ (r24 = 0) → Q (1 : Int32) g25)))) ∧ (v = (1 : Int32) → zq8_placesReached g20 (fun r27 g28 => Q r27 g28))) ∧ (v = 0 → Q (g20.1 27) g20))) ∧ (((σ).1 9) = 0 → zq8_no (-3 : Int32) σ (fun r29 g30 => Q r29 g30))) ∧ (r17 = 0 → zq8_no (-2 : Int32) σ (fun r31 g32 => Q r31 g32))) := by
      intro Q m
      exact e8_in4 (fun _ => zNf n10 (zNf th (e8_goesThrough h0.mb hd h0.pr hV hF (fun σ2 x2 F2 hG => m σ2 x2 F2 hG)))) (fun u => absurd q u)
    have rel : ∀ σ2 σ3 τ2, zx σ σ2 [8, 12, 20, 27, 28] [10, 11, 13, 21, 22, 23, 24, 25, 26] → zx σ2 σ3 [] [29, 30] → MF σ2 (zs_te k) (x / 24) (x % 24) → zx τ τ2 [13] [19, 20, 21, 22, 23] → Rel σ3 τ2 := fun σ2 σ3 τ2 a b c' d => h.sr h0 z1 hV z2 ((a.mono (by decide) (by decide)).tr (b.mono (by decide) (by decide))).y (d.mono (by decide) (by decide)).y (c'.x b (by decide))
    unfold zq4_floodAll
    refine e6_none1 (by omega) z2 (zYt n00 ⟨fun n2 => e4_all h0.cb hT hd hV z2 (fun τ2 y2 hC => ?_), fun y2 => ?_⟩)
    · rw [est] at hC
      refine ⟨fun n0 => ⟨fun n1 => ?_, fun y1 => ?_⟩, fun y0 => ?_⟩
      · unfold zq4_farthest
        generalize hll : bfx r c k (σ.2.1 4) (σ.2.1 5) x = l at *
        have el : l[l.length - 1]? = some l[l.length - 1] := List.getElem?_eq_getElem (by omega)
        generalize l[l.length - 1] = e at el
        have he17 := zs_V_lt hd (hVl _ e el)
        rw [hC.1, show nI l.length - 1 = nI (l.length - 1) from pk_sub (b := 1) (by omega)]
        have cl : (nI (l.length - 1)).toNatClampNeg = l.length - 1 := nI_clamp (by omega)
        have ce : (nI e.1).toNatClampNeg = e.1 := nI_clamp (by omega)
        rw [cl, (hC.2.1 _ e el).1, ce, (hC.2.1 _ e el).2.1]
        refine zYf (nI_nle (by omega) (by omega)) ⟨vp_in_nI (by omega) (by decide), vp_in_nI he17.1 (by decide), M (fun σ2 x2 F2 hG => ?_)⟩
        refine zNf n0 (zNf n1 (zNf n2 ?_))
        rw [hG.1.1, show nI l.length - 1 = nI (l.length - 1) from pk_sub (b := 1) (by omega), cl, (hG.1.2 _ e el).2.2]
        exact ⟨vp_in_nI (by omega) (by decide), rfl, rel σ2 σ2 τ2 x2 zx.rf F2 (y2.mono (by decide) (by decide))⟩
      · refine e4_countPlaces hd hC hlen hVl (fun τ3 y3 => M (fun σ2 x2 F2 hG => zNf n0 (zNt y1 (e8_placesReached hd hG.1 hlen hVl (fun σ3 x3 => ⟨rfl, rel σ2 σ3 τ3 x2 (x3.mono (by decide) (by decide)) F2 ((y2.mono (by decide) (by decide)).tr (y3.mono (by decide) (by decide)))⟩)))))
      · rw [hC.1]
        refine M (fun σ2 x2 F2 hG => zNt y0 ⟨hG.1.1.symm, rel σ2 σ2 τ2 x2 zx.rf F2 (y2.mono (by decide) (by decide))⟩)
    · have n0 : ¬ v = 0 := by rw [y2]; decide
      have n1 : ¬ v = 1 := by rw [y2]; decide
      refine e4_hasEven h0.cb hT hd hV z2 (fun τ2 t2 => zYt n00 (M (fun σ2 x2 F2 hG => zNf n0 (zNf n1 (zNt y2 (e8_isEven hG.1 hlen hl0 hVl hG.2.1 (fun σ3 x3 => zYt n00 ⟨rfl, rel σ2 σ3 τ2 x2 (x3.mono (by decide) (by decide)) F2 (t2.mono (by decide) (by decide))⟩)))))))
end SD
