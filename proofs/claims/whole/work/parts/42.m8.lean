/-! the reference: the search, row by row as the list of 40.bfs -/
def MK (σ : zz_St) (a b : Nat) (te : Bool) (pl s : Nat) : Prop := σ.1 a = nI pl ∧ ∀ i, i < 6 → σ.2.1 b i = nI (zs_FA te s i)
theorem MK.x {σ σ' : zz_St} {a b : Nat} {te : Bool} {pl s : Nat} {ks js : List Nat} (h : MK σ a b te pl s) (hx : zx σ σ' ks js) (h2 : a ∉ ks ∧ b ∉ js) : MK σ' a b te pl s :=
  ⟨(hx.1 a h2.1).trans h.1, fun i hi => by rw [hx.2.1 b h2.2]; exact h.2 i hi⟩
theorem zl_snoc {α : Type} {l : List α} {a e : α} {i : Nat} (h : (l ++ [a])[i]? = some e) : (i < l.length ∧ l[i]? = some e) ∨ (i = l.length ∧ a = e) := by
  have hl := (List.getElem?_eq_some_iff.mp h).1
  rw [List.length_append] at hl
  simp only [List.length_cons, List.length_nil] at hl
  rcases Nat.lt_or_ge i l.length with q | q
  · rw [List.getElem?_append_left q] at h
    exact Or.inl ⟨q, h⟩
  · have hi : i = l.length := by omega
    rw [List.getElem?_append_right q, hi, Nat.sub_self] at h
    exact Or.inr ⟨hi, Option.some.inj h⟩
theorem zl_last {α : Type} (l : List α) (a : α) : (l ++ [a])[l.length]? = some a := List.getElem?_concat_length
theorem zl_front {α : Type} {l : List α} (a : α) {i : Nat} {e : α} (h : l[i]? = some e) : (l ++ [a])[i]? = some e := by
  rw [List.getElem?_append_left (List.getElem?_eq_some_iff.mp h).1]; exact h
/-- a row is filled, place by place -/
theorem zl_fill {dst N : Nat} {c : Int32} (hN : N < 2 ^ 31) {E : zz_St → Prop} {σ : zz_St}
    (hE : ∀ σ2, zx σ σ2 [] [dst] → (∀ i, i < N → σ2.2.1 dst i = c) → (∀ i, N ≤ i → σ2.2.1 dst i = σ.2.1 dst i) → E σ2) :
    ∃ (I : Int32 → zz_St → Prop) (M : Int32 → zz_St → Nat), I 0 σ ∧ ∀ (v : Int32) (σ : zz_St), I v σ → ((nI N ≤ v) → E σ) ∧ (¬ (nI N ≤ v) → vp_in v N ∧ ∀ g : zz_St, g = zz_A σ dst (upd (σ.2.1 dst) v.toNatClampNeg c) → I (v + 1) g ∧ M (v + 1) g < M v σ) := by
  refine ⟨fun v σ2 => ∃ i, i ≤ N ∧ v = nI i ∧ (zx σ σ2 [] [dst] ∧ (∀ j, j < i → σ2.2.1 dst j = c) ∧ ∀ j, i ≤ j → σ2.2.1 dst j = σ.2.1 dst j), fun v _ => N - v.toNatClampNeg, ⟨0, Nat.zero_le _, rfl, zx.rf, fun j h => absurd h (Nat.not_lt_zero j), fun _ _ => rfl⟩, ?_⟩
  rintro v σ2 ⟨i, hi, rfl, hx, h1, h2⟩
  refine ⟨fun q => ?_, fun q => ?_⟩
  · have := zl_end hi hN q
    subst this
    exact hE σ2 hx h1 h2
  · have hlt := zl_go hi hN q
    have c0 : (nI i).toNatClampNeg = i := nI_clamp (by omega)
    refine ⟨vp_in_nI hlt hN, fun g hg => zl_leaf (J := fun i g => zx σ g [] [dst] ∧ (∀ j, j < i → g.2.1 dst j = c) ∧ ∀ j, i ≤ j → g.2.1 dst j = σ.2.1 dst j) hlt hN ⟨?_, ?_, ?_⟩⟩
    · rw [hg]; exact hx.tr (zx.A dst _ List.mem_cons_self)
    · intro j hj
      rw [hg, zz_A2, if_pos rfl, c0]
      rcases Nat.lt_succ_iff_lt_or_eq.mp hj with z | z
      · rw [pk_un (by omega)]; exact h1 j z
      · rw [z, pk_us]
    · intro j hj
      rw [hg, zz_A2, if_pos rfl, c0, pk_un (by omega)]
      exact h2 j (by omega)
theorem zl_leafS {J : Nat → zz_St → Prop} {i N : Nat} {g : zz_St} (hi : i < N) (hN : N < 2 ^ 31) (hJ : J (i + 1) g) : (∃ j, j ≤ N ∧ nI (i + 1) = nI j ∧ J j g) ∧ N - (nI (i + 1)).toNatClampNeg < N - (nI i).toNatClampNeg := by
  rw [← nI_1]
  exact zl_leaf hi hN hJ
section M8
variable {σ : zz_St}
theorem e8_keeps1 {Q : zz_St → Prop} {te : Bool} {pl s : Nat} (hF : MF σ te pl s) (h : ∀ σ2, zx σ σ2 [20] [21] → MK σ2 20 21 te pl s → Q σ2) : zq8_keeps1 σ Q := by
  unfold zq8_keeps1 zq8_keeps1_10
  intro g hg
  have x1 : zx σ g [20] [21] := by rw [hg]; exact zx.I 20 _ (by decide)
  have n1 : g.1 20 = nI pl := by rw [hg, zz_I1, if_pos rfl]; exact hF.1
  have hFg := hF.x x1 (by decide)
  exact zl_copy (src := 10) (dst := 21) (N := 6) (by decide) (by decide) (fun σ2 x2 hc _ => h σ2 (x1.tr (x2.mono (by decide) (by decide))) ⟨(x2.1 20 (by decide)).trans n1, fun i hi => (hc i hi).trans (hFg.2 i hi)⟩)
theorem e8_keeps2 {Q : zz_St → Prop} {te : Bool} {pl s : Nat} (hF : MF σ te pl s) (h : ∀ σ2, zx σ σ2 [31] [32] → MK σ2 31 32 te pl s → Q σ2) : zq8_keeps2 σ Q := by
  unfold zq8_keeps2 zq8_keeps2_10
  intro g hg
  have x1 : zx σ g [31] [32] := by rw [hg]; exact zx.I 31 _ (by decide)
  have n1 : g.1 31 = nI pl := by rw [hg, zz_I1, if_pos rfl]; exact hF.1
  have hFg := hF.x x1 (by decide)
  exact zl_copy (src := 10) (dst := 32) (N := 6) (by decide) (by decide) (fun σ2 x2 hc _ => h σ2 (x1.tr (x2.mono (by decide) (by decide))) ⟨(x2.1 31 (by decide)).trans n1, fun i hi => (hc i hi).trans (hFg.2 i hi)⟩)
theorem e8_lays1 {Q : zz_St → Prop} {te : Bool} {pl s : Nat} (hF : MK σ 20 21 te pl s) (h : ∀ σ2, zx σ σ2 [8] [10] → MF σ2 te pl s → Q σ2) : zq8_lays1 σ Q := by
  unfold zq8_lays1 zq8_lays1_10
  intro g hg
  have x1 : zx σ g [8] [10] := by rw [hg]; exact zx.I 8 _ (by decide)
  have n1 : g.1 8 = nI pl := by rw [hg, zz_I1, if_pos rfl]; exact hF.1
  have hFg := hF.x x1 (by decide)
  exact zl_copy (src := 21) (dst := 10) (N := 6) (by decide) (by decide) (fun σ2 x2 hc _ => h σ2 (x1.tr (x2.mono (by decide) (by decide))) ⟨(x2.1 8 (by decide)).trans n1, fun i hi => (hc i hi).trans (hFg.2 i hi)⟩)
theorem e8_lays2 {Q : zz_St → Prop} {te : Bool} {pl s : Nat} (hF : MK σ 31 32 te pl s) (h : ∀ σ2, zx σ σ2 [8] [10] → MF σ2 te pl s → Q σ2) : zq8_lays2 σ Q := by
  unfold zq8_lays2 zq8_lays2_10
  intro g hg
  have x1 : zx σ g [8] [10] := by rw [hg]; exact zx.I 8 _ (by decide)
  have n1 : g.1 8 = nI pl := by rw [hg, zz_I1, if_pos rfl]; exact hF.1
  have hFg := hF.x x1 (by decide)
  exact zl_copy (src := 32) (dst := 10) (N := 6) (by decide) (by decide) (fun σ2 x2 hc _ => h σ2 (x1.tr (x2.mono (by decide) (by decide))) ⟨(x2.1 8 (by decide)).trans n1, fun i hi => (hc i hi).trans (hFg.2 i hi)⟩)
theorem e8_key {r c k : Nat} {tl pr : Nat → Int32} {Q : Int32 → Prop} {x : Nat} (hB : MB σ r c k tl pr) (hd : zs_dim r c k) (hF : MF σ (zs_te k) (x / 24) (x % 24)) (h : Q (nI (zs_key (zs_te k) x))) : zq8_key σ Q := by
  unfold zq8_key
  unfold zs_key at h
  generalize x / 24 = pl at *
  generalize x % 24 = s at *
  have v (n : Nat) (hn : n < 6) : vp_in (nI n) 6 := vp_in_nI hn (by decide)
  refine e8_isTetra hB hd (fun hk => ?_) (fun hk => ?_)
  · rw [show zs_te k = true from decide_eq_true hk] at h hF
    refine ⟨fun q => absurd q (by decide), fun _ => ⟨v 0 (by decide), v 1 (by decide), v 2 (by decide), ?_⟩⟩
    rw [zt_0, zt_1, zt_2, hF.1, hF.2 0 (by decide), hF.2 1 (by decide), hF.2 2 (by decide)]
    have e : zs_lowkey true s = 16 * zs_FA true s 0 + 4 * zs_FA true s 1 + zs_FA true s 2 := rfl
    rw [e] at h
    generalize zs_FA true s 0 = a at *
    generalize zs_FA true s 1 = b at *
    generalize zs_FA true s 2 = d at *
    have e2 : (64 : Int32) * nI pl + ((16 : Int32) * nI a + (4 : Int32) * nI b + nI d) = nI (64 * pl + (16 * a + 4 * b + d)) := by
      rw [show (64 : Int32) * nI pl = nI (64 * pl) from pk_mul 64 pl, show (16 : Int32) * nI a = nI (16 * a) from pk_mul 16 a, show (4 : Int32) * nI b = nI (4 * b) from pk_mul 4 b, nI_add, nI_add, nI_add]
    rw [e2]
    exact h
  · rw [show zs_te k = false from decide_eq_false hk] at h hF
    refine ⟨fun _ => ⟨v 1 (by decide), v 3 (by decide), ?_⟩, fun q => absurd rfl q⟩
    rw [zt_1, zt_3, hF.1, hF.2 1 (by decide), hF.2 3 (by decide)]
    have e : zs_lowkey false s = 6 * zs_FA false s 1 + zs_FA false s 3 := rfl
    rw [e] at h
    generalize zs_FA false s 1 = a at *
    generalize zs_FA false s 3 = b at *
    have e2 : (64 : Int32) * nI pl + ((6 : Int32) * nI a + nI b) = nI (64 * pl + (6 * a + b)) := by
      rw [show (64 : Int32) * nI pl = nI (64 * pl) from pk_mul 64 pl, show (6 : Int32) * nI a = nI (6 * a) from pk_mul 6 a, nI_add, nI_add]
    rw [e2]
    exact h
theorem e8_loads {Q : zz_St → Prop} {te : Bool} {i pl s : Nat} (hi : i < 900) (h23 : σ.2.1 23 i = nI pl) (h24 : ∀ j, j < 6 → σ.2.1 24 (6 * i + j) = nI (zs_FA te s j)) (h : ∀ σ2, zx σ σ2 [8] [10] → MF σ2 te pl s → Q σ2) : zq8_loads (nI i) σ Q := by
  unfold zq8_loads zq8_loads_12
  have ci : (nI i).toNatClampNeg = i := nI_clamp (by omega)
  rw [ci, h23]
  refine ⟨vp_in_nI hi (by decide), fun g hg => ?_⟩
  have x1 : zx σ g [8] [10] := by rw [hg]; exact zx.I 8 _ (by decide)
  refine ⟨fun v σ2 => ∃ j, j ≤ 6 ∧ v = nI j ∧ (zx σ σ2 [8] [10] ∧ σ2.1 8 = nI pl ∧ ∀ t, t < j → σ2.2.1 10 t = nI (zs_FA te s t)), fun v _ => 6 - v.toNatClampNeg, ⟨0, Nat.zero_le _, rfl, x1, by rw [hg, zz_I1, if_pos rfl], fun t h => absurd h (Nat.not_lt_zero t)⟩, ?_⟩
  rintro v σ2 ⟨j, hj, rfl, hx, h8, ht⟩
  refine ⟨fun q => ?_, fun q => ?_⟩
  · have := zl_end (N := 6) hj (by decide) q
    subst this
    exact h σ2 hx ⟨h8, ht⟩
  · have hlt := zl_go (N := 6) hj (by decide) q
    have e6 : (6 : Int32) * nI i + nI j = nI (6 * i + j) := by rw [show (6 : Int32) * nI i = nI (6 * i) from pk_mul 6 i, nI_add]
    have cj : (nI j).toNatClampNeg = j := nI_clamp (by omega)
    have c6 : (nI (6 * i + j)).toNatClampNeg = 6 * i + j := nI_clamp (by omega)
    rw [e6, c6, cj]
    refine ⟨vp_in_nI (by omega) (by decide), vp_in_nI hlt (by decide), fun g2 hg2 => ?_⟩
    have := zl_leaf (J := fun j g => zx σ g [8] [10] ∧ g.1 8 = nI pl ∧ ∀ t, t < j → g.2.1 10 t = nI (zs_FA te s t)) (i := j) (N := 6) (g := g2) hlt (by decide) ⟨?_, ?_, ?_⟩
    · exact this
    · rw [hg2]; exact hx.tr (zx.A 10 _ (by decide))
    · rw [hg2]; exact h8
    · intro t htj
      rw [hg2, zz_A2, if_pos rfl]
      rcases Nat.lt_succ_iff_lt_or_eq.mp htj with z | z
      · rw [pk_un (by omega)]; exact ht t z
      · rw [z, pk_us, hx.2.1 24 (by decide)]; exact h24 j hlt
end M8
/-- the rows hold the list -/
def ML (σ : zz_St) (te : Bool) (l : List (Nat × Nat × Nat)) : Prop := σ.1 27 = nI l.length ∧ ∀ i e, l[i]? = some e → σ.2.1 23 i = nI (e.1 / 24) ∧ (∀ j, j < 6 → σ.2.1 24 (6 * i + j) = nI (zs_FA te (e.1 % 24) j)) ∧ σ.2.1 25 i = nI e.2.2
/-- the index knows the list -/
def MX (σ : zz_St) (te : Bool) (l : List (Nat × Nat × Nat)) : Prop := ∀ x, x % 24 < zs_ns te → x / 24 < 72 → (∃ i e, l[i]? = some e ∧ e.1 = x ∧ σ.2.1 22 (zs_key te x) = nI i) ∨ ((¬ ∃ z ∈ l, z.1 = x) ∧ σ.2.1 22 (zs_key te x) = -1)
theorem ML.x {σ σ' : zz_St} {te : Bool} {l : List (Nat × Nat × Nat)} {ks js : List Nat} (h : ML σ te l) (hx : zx σ σ' ks js) (h2 : 27 ∉ ks ∧ 23 ∉ js ∧ 24 ∉ js ∧ 25 ∉ js) : ML σ' te l := by
  refine ⟨(hx.1 27 h2.1).trans h.1, fun i e hi => ?_⟩
  rw [hx.2.1 23 h2.2.1, hx.2.1 24 h2.2.2.1, hx.2.1 25 h2.2.2.2]
  exact h.2 i e hi
theorem MX.x {σ σ' : zz_St} {te : Bool} {l : List (Nat × Nat × Nat)} {ks js : List Nat} (h : MX σ te l) (hx : zx σ σ' ks js) (h2 : 22 ∉ js) : MX σ' te l := by
  intro x a b
  rw [hx.2.1 22 h2]
  exact h x a b
section M9
variable {σ : zz_St} {r c k : Nat} {tl pr : Nat → Int32}
theorem e8_found {Q : Int32 → zz_St → Prop} {l : List (Nat × Nat × Nat)} {x d b : Nat} (hB : MB σ r c k tl pr) (hd : zs_dim r c k) (hF : MF σ (zs_te k) (x / 24) (x % 24)) (hs : x % 24 < zs_ns (zs_te k)) (hp : x / 24 < 72) (hl : l.length < 900) (hL : ML σ (zs_te k) l) (hX : MX σ (zs_te k) l)
    (h1 : ∀ i e, l[i]? = some e → e.1 = x → Q (nI i) σ)
    (h0 : (¬ ∃ z ∈ l, z.1 = x) → ∀ σ2, zx σ σ2 [27] [22, 23, 24, 25] → ML σ2 (zs_te k) (l ++ [(x, b, d)]) → MX σ2 (zs_te k) (l ++ [(x, b, d)]) → Q (nI l.length) σ2) : zq8_found (nI d) σ Q := by
  unfold zq8_found
  refine e8_key hB hd hF ?_
  have hk := zs_key_lt hs hp
  have ck : (nI (zs_key (zs_te k) x)).toNatClampNeg = zs_key (zs_te k) x := nI_clamp (by omega)
  have vk : vp_in (nI (zs_key (zs_te k) x)) 4608 := vp_in_nI hk (by decide)
  rw [ck]
  refine ⟨vk, fun q => ⟨vk, ?_⟩, fun q => ⟨vk, fun g hg => ?_⟩⟩
  · rcases hX x hs hp with ⟨i, e, a1, a2, a3⟩ | ⟨_, a3⟩
    · rw [a3]; exact h1 i e a1 a2
    · rw [a3] at q; exact absurd q (by decide)
  have hno : ¬ ∃ z ∈ l, z.1 = x := by
    rcases hX x hs hp with ⟨i, e, a1, a2, a3⟩ | ⟨a, _⟩
    · have := (List.getElem?_eq_some_iff.mp a1).1
      rw [a3] at q
      exact absurd (nI_pos' (by omega)) q
    · exact a
  have g27 : g.1 27 = nI l.length := by rw [hg, zz_A1]; exact hL.1
  have cl : (nI l.length).toNatClampNeg = l.length := nI_clamp (by omega)
  rw [g27, cl]
  refine ⟨vp_in_nI hl (by decide), fun g2 hg2 => ?_⟩
  have x1 : zx σ g [] [22, 23] := by rw [hg]; exact zx.A 22 _ (by decide)
  have x2 : zx σ g2 [] [22, 23] := x1.tr (by rw [hg2]; exact zx.A 23 _ (by decide))
  have b27 : g2.1 27 = nI l.length := (x2.1 27 (by decide)).trans hL.1
  have b22 : g2.2.1 22 = upd (σ.2.1 22) (zs_key (zs_te k) x) (nI l.length) := by
    rw [hg2, zz_A2, if_neg (by decide), hg, zz_A2, if_pos rfl, hL.1]
  have b23 : g2.2.1 23 = upd (σ.2.1 23) l.length (nI (x / 24)) := by
    rw [hg2, zz_A2, if_pos rfl, x1.1 8 (by decide), hF.1, hg, zz_A2, if_neg (by decide)]
  have b24 : g2.2.1 24 = σ.2.1 24 := x2.2.1 24 (by decide)
  have b25 : g2.2.1 25 = σ.2.1 25 := x2.2.1 25 (by decide)
  have b10 : g2.2.1 10 = σ.2.1 10 := x2.2.1 10 (by decide)
  clear hg hg2 g27
  unfold zq8_found_39
  refine ⟨fun v σ2 => ∃ j, j ≤ 6 ∧ v = nI j ∧ (zx g2 σ2 [] [24] ∧ (∀ t, t < j → σ2.2.1 24 (6 * l.length + t) = σ.2.1 10 t) ∧ ∀ y, y < 6 * l.length → σ2.2.1 24 y = σ.2.1 24 y), fun v _ => 6 - v.toNatClampNeg, ⟨0, Nat.zero_le _, rfl, zx.rf, fun t h => absurd h (Nat.not_lt_zero t), fun y _ => by rw [b24]⟩, ?_⟩
  rintro v σ3 ⟨j, hj, rfl, hx, ht, hy⟩
  have c27 : σ3.1 27 = nI l.length := (hx.1 27 (by decide)).trans b27
  refine ⟨fun q => ?_, fun q => ?_⟩
  · have := zl_end (N := 6) hj (by decide) q
    subst this
    rw [c27, cl]
    refine ⟨vp_in_nI hl (by decide), fun g4 hg4 g5 hg5 => ⟨vk, ?_⟩⟩
    have y4 : zx σ3 g4 [] [25] := by rw [hg4]; exact zx.A 25 _ (by decide)
    have y5 : zx g4 g5 [27] [] := by rw [hg5]; exact zx.I 27 _ (by decide)
    have y35 : zx σ3 g5 [27] [25] := (y4.mono (by decide) (by decide)).tr (y5.mono (by decide) (by decide))
    have e22 : g5.2.1 22 = upd (σ.2.1 22) (zs_key (zs_te k) x) (nI l.length) := by
      rw [y35.2.1 22 (by decide), hx.2.1 22 (by decide), b22]
    have e23 : g5.2.1 23 = upd (σ.2.1 23) l.length (nI (x / 24)) := by
      rw [y35.2.1 23 (by decide), hx.2.1 23 (by decide), b23]
    have e24 : g5.2.1 24 = σ3.2.1 24 := y35.2.1 24 (by decide)
    have e25 : g5.2.1 25 = upd (σ.2.1 25) l.length (nI d) := by
      rw [y5.2.1 25 (by decide), hg4, zz_A2, if_pos rfl, hx.2.1 25 (by decide), b25]
    have e27 : g5.1 27 = nI (l.length + 1) := by
      rw [hg5, zz_I1, if_pos rfl, y4.1 27 (by decide), c27, nI_1]
    have xx : zx σ g5 [27] [22, 23, 24, 25] := ((x2.mono (by decide) (by decide)).tr (hx.mono (by decide) (by decide))).tr (y35.mono (by decide) (by decide))
    rw [e22, ck, pk_us]
    refine h0 hno g5 xx ⟨?_, fun i e hi => ?_⟩ (fun y hy1 hy2 => ?_)
    · rw [e27, List.length_append]; rfl
    · rcases zl_snoc hi with ⟨a1, a2⟩ | ⟨a1, a2⟩
      · obtain ⟨z1, z2, z3⟩ := hL.2 i e a2
        refine ⟨?_, fun t h6 => ?_, ?_⟩
        · rw [e23, pk_un (by omega)]; exact z1
        · rw [e24, hy _ (by omega)]; exact z2 t h6
        · rw [e25, pk_un (by omega)]; exact z3
      · subst a2
        refine ⟨?_, fun t h6 => ?_, ?_⟩
        · rw [e23, a1, pk_us]
        · rw [e24, a1, ht t h6]; exact hF.2 t h6
        · rw [e25, a1, pk_us]
    · by_cases hxy : y = x
      · subst hxy
        exact Or.inl ⟨l.length, _, zl_last l _, rfl, by rw [e22, pk_us]⟩
      · have hne : ¬ zs_key (zs_te k) y = zs_key (zs_te k) x := fun z => hxy (zs_key_inj hy1 hs z)
        rcases hX y hy1 hy2 with ⟨i, e, a1, a2, a3⟩ | ⟨a1, a3⟩
        · exact Or.inl ⟨i, e, zl_front _ a1, a2, by rw [e22, pk_un hne]; exact a3⟩
        · refine Or.inr ⟨?_, by rw [e22, pk_un hne]; exact a3⟩
          rintro ⟨z, hz, hzy⟩
          rcases List.mem_append.mp hz with m | m
          · exact a1 ⟨z, m, hzy⟩
          · rw [List.mem_singleton.mp m] at hzy
            exact hxy hzy.symm
  · have hlt := zl_go (N := 6) hj (by decide) q
    have e6 : (6 : Int32) * nI l.length + nI j = nI (6 * l.length + j) := by rw [show (6 : Int32) * nI l.length = nI (6 * l.length) from pk_mul 6 l.length, nI_add]
    have cj : (nI j).toNatClampNeg = j := nI_clamp (by omega)
    have c6 : (nI (6 * l.length + j)).toNatClampNeg = 6 * l.length + j := nI_clamp (by omega)
    rw [c27, e6, c6, cj]
    refine ⟨vp_in_nI hlt (by decide), vp_in_nI (by omega) (by decide), fun g2' hg2' => ?_⟩
    have := zl_leaf (J := fun j g => zx g2 g [] [24] ∧ (∀ t, t < j → g.2.1 24 (6 * l.length + t) = σ.2.1 10 t) ∧ ∀ y, y < 6 * l.length → g.2.1 24 y = σ.2.1 24 y) (i := j) (N := 6) (g := g2') hlt (by decide) ⟨?_, ?_, ?_⟩
    · exact this
    · rw [hg2']; exact hx.tr (zx.A 24 _ (by decide))
    · intro t htj
      rw [hg2', zz_A2, if_pos rfl]
      rcases Nat.lt_succ_iff_lt_or_eq.mp htj with z | z
      · rw [pk_un (by omega)]; exact ht t z
      · rw [z, pk_us, hx.2.1 10 (by decide), b10]
    · intro y hy0
      rw [hg2', zz_A2, if_pos rfl, pk_un (by omega)]; exact hy y hy0
end M9
