/-! the class: its search is the list of 40.bfs as well -/
theorem CB.x {σ σ' : zz_St} {r c k : Nat} {tl pr : Nat → Int32} {ks js : List Nat} (h : CB σ r c k tl pr) (hx : zx σ σ' ks js) (h2 : 2 ∉ ks ∧ 4 ∉ ks ∧ 6 ∉ ks ∧ 14 ∉ js ∧ 16 ∉ js) : CB σ' r c k tl pr :=
  ⟨(hx.1 2 h2.1).trans h.1, (hx.1 4 h2.2.1).trans h.2.1, (hx.1 6 h2.2.2.1).trans h.2.2.1, (hx.2.1 14 h2.2.2.2.1).trans h.2.2.2.1, (hx.2.1 16 h2.2.2.2.2).trans h.2.2.2.2⟩
theorem CT.x {σ σ' : zz_St} {ks js : List Nat} (h : CT σ) (hx : zx σ σ' ks js) (h1 : 16 ∉ ks ∧ 17 ∉ ks ∧ 18 ∉ ks ∧ 19 ∉ ks) (h2 : 28 ∉ js ∧ 29 ∉ js ∧ 30 ∉ js ∧ 31 ∉ js ∧ 32 ∉ js ∧ 33 ∉ js) : CT σ' := by
  unfold CT
  rw [hx.1 16 h1.1, hx.1 17 h1.2.1, hx.1 18 h1.2.2.1, hx.1 19 h1.2.2.2, hx.2.1 28 h2.1, hx.2.1 29 h2.2.1, hx.2.1 30 h2.2.2.1, hx.2.1 31 h2.2.2.2.1, hx.2.1 32 h2.2.2.2.2.1, hx.2.1 33 h2.2.2.2.2.2]
  exact h
def zs_goal (k : Nat) (p f : Int32) (x : Nat) : Prop := nI (x / 24) = p ∧ zs_lie k (x % 24) = 0 ∧ (f = -1 ∨ nI (zs_bel (zs_te k) (x % 24)) = f)
theorem zs_bel_lt : ∀ te : Bool, ∀ s, s < zs_ns te → zs_bel te s < 6 := by
  intro te
  cases te
  · exact (by decide +kernel : ∀ s, s < 24 → zs_bel false s < 6)
  · exact (by decide +kernel : ∀ s, s < 8 → zs_bel true s < 6)
section C4
variable {σ : zz_St} {r c k : Nat} {tl pr : Nat → Int32}
theorem e5_faceBelow0 {Q : Int32 → Prop} (hT : CT σ) {s : Nat} (hs : s < 24) (h : Q (nI (zs_bel false s))) : zq5_faceBelow (nI s) 0 σ Q := by
  unfold zq5_faceBelow
  have e6 : σ.1 (16 + 0) = 6 := hT.1.1
  have e1 : σ.1 (18 + 0) = 1 := hT.1.2.2.1
  have e : nI s * 6 + 1 = nI (6 * s + 1) := by
    rw [show nI s * 6 = nI (s * 6) from pk_mul s 6, nI_1, Nat.mul_comm]
  rw [e6, e1, e, show (nI (6 * s + 1)).toNatClampNeg = 6 * s + 1 from nI_clamp (by omega)]
  refine ⟨vp_in_nI (by omega) (by decide), ?_⟩
  have h2 := hT.2.1 (6 * s + 1) (by omega)
  show Q (σ.2.1 28 (6 * s + 1))
  rw [h2]
  exact h
theorem e5_faceBelow1 {Q : Int32 → Prop} (hT : CT σ) {s : Nat} (hs : s < 24) (h : Q (nI (zs_bel true s))) : zq5_faceBelow (nI s) 1 σ Q := by
  unfold zq5_faceBelow
  have e6 : σ.1 (16 + 1) = 4 := hT.1.2.1
  have e1 : σ.1 (18 + 1) = 0 := hT.1.2.2.2
  have e : nI s * 4 + 0 = nI (4 * s) := by
    rw [show nI s * 4 = nI (s * 4) from pk_mul s 4, show nI (s * 4) + 0 = nI (s * 4) from nI_add _ 0, Nat.mul_comm]
  rw [e6, e1, e, show (nI (4 * s)).toNatClampNeg = 4 * s from nI_clamp (by omega)]
  refine ⟨vp_in_nI (by omega) (by decide), ?_⟩
  have h2 := hT.2.2.1 (4 * s) (by omega)
  show Q (σ.2.1 29 (4 * s))
  rw [h2]
  exact h
theorem e6_faceBelow {Q : Int32 → Prop} (hB : CB σ r c k tl pr) (hT : CT σ) (hk : k < 6) {x : Nat} (hx : x < 2 ^ 31) (h : Q (nI (zs_bel (zs_te k) (x % 24)))) : zq6_faceBelow (nI x) σ Q := by
  unfold zq6_faceBelow zq6_faceBelow_21
  rw [hB.2.2.1, zs_rem24 hx]
  have hs : x % 24 < 24 := Nat.mod_lt _ (by decide)
  refine e7_isTetra hk (fun q => ⟨fun z => absurd z (by decide), fun _ => e5_faceBelow1 hT hs ?_⟩) (fun q => ⟨fun _ => e5_faceBelow0 hT hs ?_, fun z => absurd rfl z⟩)
  · rw [show zs_te k = true from decide_eq_true q] at h; exact h
  · rw [show zs_te k = false from decide_eq_false q] at h; exact h
theorem e6_isAt {Q : Int32 → Prop} {p f : Int32} (hB : CB σ r c k tl pr) (hT : CT σ) (hk : k < 6) {x : Nat} (hx : x < 2 ^ 31) (h1 : zs_goal k p f x → Q 1) (h0 : ¬ zs_goal k p f x → Q 0) : zq6_isAt (nI x) p f σ Q := by
  unfold zq6_isAt
  rw [zs_rem24 hx, zs_div24 hx]
  have hs : x % 24 < 24 := Nat.mod_lt _ (by decide)
  refine ⟨fun q => h0 (fun z => q z.1), fun q => e6_lie hB hT hk hs ?_⟩
  have hl := zs_lie_lt k (x % 24)
  have e0 : nI (zs_lie k (x % 24)) = 0 ↔ zs_lie k (x % 24) = 0 := nI_eq (b := 0) (by omega) (by decide)
  rw [e0]
  refine ⟨fun q2 => h0 (fun z => q2 z.2.1), fun q2 => ⟨fun q3 => h1 ⟨q, q2, Or.inl q3⟩, fun q3 => e6_faceBelow hB hT hk hx ⟨fun q4 => h0 (fun z => z.2.2.elim q3 q4), fun q4 => h1 ⟨q, q2, Or.inr q4⟩⟩⟩⟩
theorem e6_rolledx {Q : Int32 → Prop} (hB : CB σ r c k tl pr) (hT : CT σ) (hd : zs_dim r c k) {x w : Nat} (hw : w < 4) (hs : x % 24 < zs_ns (zs_te k)) (hp : x / 24 < zs_np r c k) (h1 : ∀ y, zs_st r c k tl pr x w = some y → Q (nI y)) (h0 : zs_st r c k tl pr x w = none → Q (-1)) : zq6_rolled (nI x) (nI w) σ Q := by
  have hcode : 24 * (x / 24) + x % 24 = x := Nat.div_add_mod _ _
  rw [← hcode]
  refine e6_rolled hB hT hd hw hs hp ?_
  unfold zs_st at h1 h0
  cases hq : zs_roll r c k tl pr (x / 24) (x % 24) w with
  | none => exact h0 (by rw [hq]; rfl)
  | some q => exact h1 (24 * q.1 + q.2) (by rw [hq]; rfl)
/-- the class's rows hold the list -/
def CQ (σ : zz_St) (l : List (Nat × Nat × Nat)) : Prop := σ.1 13 = nI l.length ∧ (∀ i e, l[i]? = some e → σ.2.1 22 i = nI e.1 ∧ σ.2.1 19 e.1 = nI e.2.2 ∧ (0 < i → ∃ p, l[e.2.1 / 4]? = some p ∧ σ.2.1 20 e.1 = nI p.1 ∧ σ.2.1 21 e.1 = nI (e.2.1 % 4))) ∧ ∀ x, x < 1728 → (¬ ∃ z ∈ l, z.1 = x) → σ.2.1 19 x = -1
theorem CQ.x {σ σ' : zz_St} {l : List (Nat × Nat × Nat)} {ks js : List Nat} (h : CQ σ l) (hx : zx σ σ' ks js) (h2 : 13 ∉ ks ∧ 19 ∉ js ∧ 20 ∉ js ∧ 21 ∉ js ∧ 22 ∉ js) : CQ σ' l := by
  unfold CQ
  rw [hx.1 13 h2.1, hx.2.1 19 h2.2.1, hx.2.1 20 h2.2.2.1, hx.2.1 21 h2.2.2.2.1, hx.2.1 22 h2.2.2.2.2]
  exact h
theorem e4_add {Q : zz_St → Prop} {l : List (Nat × Nat × Nat)} {x b d : Nat} {v2 v3 : Int32} (hC : CQ σ l) (hx : x < 1728) (hl : l.length < 1728) (hno : ¬ ∃ z ∈ l, z.1 = x) (hp : 0 < l.length → ∃ p, l[b / 4]? = some p ∧ v2 = nI p.1 ∧ v3 = nI (b % 4))
    (h : ∀ σ2, zx σ σ2 [13] [19, 20, 21, 22] → CQ σ2 (l ++ [(x, b, d)]) → Q σ2) : zq4_add (nI x) v2 v3 (nI d) σ Q := by
  unfold zq4_add
  have vx : vp_in (nI x) 1728 := vp_in_nI hx (by decide)
  have cx : (nI x).toNatClampNeg = x := nI_clamp (by omega)
  have cl : (nI l.length).toNatClampNeg = l.length := nI_clamp (by omega)
  rw [cx]
  refine ⟨vx, fun g6 h6 => ⟨vx, fun g7 h7 => ⟨vx, fun g8 h8 => ?_⟩⟩⟩
  have x6 : zx σ g6 [] [19] := by rw [h6]; exact zx.A 19 _ (by decide)
  have x7 : zx g6 g7 [] [20] := by rw [h7]; exact zx.A 20 _ (by decide)
  have x8 : zx g7 g8 [] [21] := by rw [h8]; exact zx.A 21 _ (by decide)
  have x08 : zx σ g8 [] [19, 20, 21] := ((x6.mono (by decide) (by decide)).tr (x7.mono (by decide) (by decide))).tr (x8.mono (by decide) (by decide))
  have c13 : g8.1 13 = nI l.length := (x08.1 13 (by decide)).trans hC.1
  rw [c13, cl]
  refine ⟨vp_in_nI hl (by decide), fun g9 h9 g10 h10 => ?_⟩
  have x9 : zx g8 g9 [] [22] := by rw [h9]; exact zx.A 22 _ (by decide)
  have x10 : zx g9 g10 [13] [] := by rw [h10]; exact zx.I 13 _ (by decide)
  have xx : zx σ g10 [13] [19, 20, 21, 22] := ((x08.mono (by decide) (by decide)).tr (x9.mono (by decide) (by decide))).tr (x10.mono (by decide) (by decide))
  have e13 : g10.1 13 = nI (l.length + 1) := by rw [h10, zz_I1, if_pos rfl, x9.1 13 (by decide), c13, nI_1]
  have e19 : g10.2.1 19 = upd (σ.2.1 19) x (nI d) := by
    rw [x10.2.1 19 (by decide), x9.2.1 19 (by decide), x8.2.1 19 (by decide), x7.2.1 19 (by decide), h6, zz_A2, if_pos rfl]
  have e20 : g10.2.1 20 = upd (σ.2.1 20) x v2 := by
    rw [x10.2.1 20 (by decide), x9.2.1 20 (by decide), x8.2.1 20 (by decide), h7, zz_A2, if_pos rfl, x6.2.1 20 (by decide)]
  have e21 : g10.2.1 21 = upd (σ.2.1 21) x v3 := by
    rw [x10.2.1 21 (by decide), x9.2.1 21 (by decide), h8, zz_A2, if_pos rfl, x7.2.1 21 (by decide), x6.2.1 21 (by decide)]
  have e22 : g10.2.1 22 = upd (σ.2.1 22) l.length (nI x) := by
    rw [x10.2.1 22 (by decide), h9, zz_A2, if_pos rfl, x08.2.1 22 (by decide)]
  refine h g10 xx ⟨?_, fun i e hi => ?_, fun y hy hny => ?_⟩
  · rw [e13, List.length_append]; rfl
  · rw [e19, e20, e21, e22]
    rcases zl_snoc hi with ⟨a1, a2⟩ | ⟨a1, a2⟩
    · obtain ⟨z1, z2, z3⟩ := hC.2.1 i e a2
      have hne : e.1 ≠ x := fun z => hno ⟨e, List.mem_of_getElem? a2, z⟩
      rw [pk_un (by omega : i ≠ l.length), pk_un hne, pk_un hne, pk_un hne]
      refine ⟨z1, z2, fun h0 => ?_⟩
      obtain ⟨p, p1, p2⟩ := z3 h0
      exact ⟨p, zl_front _ p1, p2⟩
    · subst a2
      rw [a1, pk_us, pk_us, pk_us, pk_us]
      refine ⟨rfl, rfl, fun h0 => ?_⟩
      obtain ⟨p, p1, p2⟩ := hp (by omega)
      exact ⟨p, zl_front _ p1, p2⟩
  · have h1 : ¬ ∃ z ∈ l, z.1 = y := fun ⟨z, hz, e⟩ => hny ⟨z, List.mem_append_left _ hz, e⟩
    have h2 : y ≠ x := fun e => hny ⟨_, List.mem_append_right _ (List.mem_singleton.mpr rfl), e.symm⟩
    rw [e19, pk_un h2]
    exact hC.2.2 y hy h1
theorem e4_flood_70 {Q : Int32 → zz_St → Prop} {B27 : Int32 → zz_St → Prop} {σ0 : zz_St} {x0 h : Nat} {p f : Int32} {e : Nat × Nat × Nat} (hB : CB σ0 r c k tl pr) (hT : CT σ0) (hd : zs_dim r c k) (hV : zs_V r c k x0) (he : (bf (zs_st r c k tl pr) x0 (4 * h))[h]? = some e)
    (hx : zx σ0 σ [13] [19, 20, 21, 22]) (hC : CQ σ (bf (zs_st r c k tl pr) x0 (4 * h)))
    (hh : ∀ σ', zx σ0 σ' [13] [19, 20, 21, 22] → CQ σ' (bf (zs_st r c k tl pr) x0 (4 * h + 4)) → B27 (nI (h + 1)) σ') : zq4_floodTo_70 p f (nI h) (nI e.1) (nI 0) σ Q B27 := by
  unfold zq4_floodTo_70
  refine ⟨fun v σ => ∃ w, w ≤ 4 ∧ v = nI w ∧ (zx σ0 σ [13] [19, 20, 21, 22] ∧ CQ σ (bf (zs_st r c k tl pr) x0 (4 * h + w))), fun v _ => 4 - v.toNatClampNeg, ⟨0, Nat.zero_le _, rfl, hx, hC⟩, ?_⟩
  rintro v σ1 ⟨w, hw4, rfl, hx1, hC1⟩
  refine ⟨fun q => ?_, fun q => ?_⟩
  · have := zl_end (N := 4) hw4 (by decide) q
    subst this
    rw [nI_1]
    exact hh σ1 hx1 hC1
  have hw := zl_go (N := 4) hw4 (by decide) q
  have hlen : ∀ n, (bf (zs_st r c k tl pr) x0 n).length ≤ 864 := fun n => bf_count hd hV n
  have hl1 := hlen (4 * h + w)
  have hhl := (List.getElem?_eq_some_iff.mp he).1
  have he1 : (bf (zs_st r c k tl pr) x0 (4 * h + w))[h]? = some e := by rw [bf_pre _ _ (Nat.le_add_right _ _) _ hhl]; exact he
  have hVe : zs_V r c k e.1 := bf_all (zs_V r c k) hV (fun x w y hx hw h => zs_st_V hx hw h) _ _ e he
  obtain ⟨hp, hss, hp72⟩ := zs_V_dm hd hVe
  have hdiv : (4 * h + w) / 4 = h := by omega
  have hmod : (4 * h + w) % 4 = w := by omega
  have he4 : (bf (zs_st r c k tl pr) x0 (4 * h + w))[(4 * h + w) / 4]? = some e := by rw [hdiv]; exact he1
  have leaf : ∀ σ', zx σ0 σ' [13] [19, 20, 21, 22] → CQ σ' (bf (zs_st r c k tl pr) x0 (4 * h + w + 1)) → (∃ w', w' ≤ 4 ∧ nI w + 1 = nI w' ∧ (zx σ0 σ' [13] [19, 20, 21, 22] ∧ CQ σ' (bf (zs_st r c k tl pr) x0 (4 * h + w')))) ∧ 4 - (nI w + 1).toNatClampNeg < 4 - (nI w).toNatClampNeg := fun σ' a b => zl_leaf (J := fun w g => zx σ0 g [13] [19, 20, 21, 22] ∧ CQ g (bf (zs_st r c k tl pr) x0 (4 * h + w))) hw (by decide) ⟨a, b⟩
  unfold zq4_floodTo_120
  refine e6_rolledx (hB.x hx1 (by decide)) (hT.x hx1 (by decide) (by decide)) hd hw hss hp (fun y hy => ?_) (fun hn => ?_)
  · have hVy := zs_st_V hVe hw hy
    have hy17 := (zs_V_lt hd hVy).1
    have cy : (nI y).toNatClampNeg = y := nI_clamp (by omega)
    have hx17 := (zs_V_lt hd hVe).1
    have cx : (nI e.1).toNatClampNeg = e.1 := nI_clamp (by omega)
    rw [cy, cx]
    refine ⟨fun q => absurd q (nI_pos (by omega)), fun _ => ⟨vp_in_nI hy17 (by decide), ?_⟩⟩
    have hfar := bf_far_le _ _ _ he1
    by_cases hin : ∃ z ∈ bf (zs_st r c k tl pr) x0 (4 * h + w), z.1 = y
    · have hb := bf_S2 he4 (by rw [hmod]; exact hy) hin
      obtain ⟨z, hz, hzy⟩ := hin
      obtain ⟨i, hi⟩ := List.mem_iff_getElem?.mp hz
      have hi2 := (List.getElem?_eq_some_iff.mp hi).1
      have h19 := (hC1.2.1 i z hi).2.1
      have hfz := bf_far_le _ _ _ hi
      rw [hzy] at h19
      rw [h19]
      exact ⟨fun _ => leaf σ1 hx1 (by rw [hb]; exact hC1), fun q => absurd (nI_pos' (by omega)) q⟩
    · have hb := bf_S3 he4 (by rw [hmod]; exact hy) hin
      have h19 := hC1.2.2 y hy17 hin
      rw [h19]
      refine ⟨fun q => absurd q (by decide), fun _ => ⟨vp_in_nI hx17 (by decide), ?_⟩⟩
      rw [(hC1.2.1 h e he1).2.1, nI_1]
      refine e4_add (b := 4 * h + w) hC1 hy17 (by omega) hin (fun _ => ⟨e, he4, rfl, by rw [hmod]⟩) (fun σ2 x2 hC2 => ?_)
      exact leaf σ2 (hx1.tr x2) (by rw [hb]; exact hC2)
  · have hb := bf_S1 he4 (by rw [hmod]; exact hn)
    exact ⟨fun _ => leaf σ1 hx1 (by rw [hb]; exact hC1), fun q => absurd (by decide) q⟩
theorem e4_floodTo {Q : Int32 → zz_St → Prop} {x0 : Nat} {p f : Int32} (hB : CB σ r c k tl pr) (hT : CT σ) (hd : zs_dim r c k) (hV : zs_V r c k x0) (h8 : σ.1 8 = nI x0)
    (h1 : ∀ h e σ2, zx σ σ2 [13] [19, 20, 21, 22] → CQ σ2 (bf (zs_st r c k tl pr) x0 (4 * h)) → (bf (zs_st r c k tl pr) x0 (4 * h))[h]? = some e → zs_goal k p f e.1 → (∀ i, i < h → ∀ z, (bf (zs_st r c k tl pr) x0 (4 * h))[i]? = some z → ¬ zs_goal k p f z.1) → Q (nI e.1) σ2)
    (h0 : ∀ σ2, zx σ σ2 [13] [19, 20, 21, 22] → CQ σ2 (bfx r c k tl pr x0) → (∀ z ∈ bfx r c k tl pr x0, ¬ zs_goal k p f z.1) → Q (-1) σ2) : zq4_floodTo p f σ Q := by
  unfold zq4_floodTo
  intro f26 hf g28 hg28 g29 hg29
  have x28 : zx σ g28 [] [19] := by rw [hg28]; exact zx.A 19 _ (by decide)
  have x29 : zx g28 g29 [13] [] := by rw [hg29]; exact zx.I 13 _ (by decide)
  have x09 : zx σ g29 [13] [19, 20, 21, 22] := (x28.mono (by decide) (by decide)).tr (x29.mono (by decide) (by decide))
  have hx17 := (zs_V_lt hd hV).1
  rw [x09.1 8 (by decide), h8]
  refine e4_add (l := []) (x := x0) (b := 0) (d := 0) ⟨?_, fun i e hi => by simp at hi, fun x hx _ => ?_⟩ hx17 (by decide) (fun ⟨z, hz, _⟩ => absurd hz List.not_mem_nil) (fun q => absurd q (by decide)) (fun σ1 x1 hC1 => ?_)
  · rw [hg29, zz_I1, if_pos rfl]; rfl
  · rw [x29.2.1 19 (by decide), hg28, zz_A2, if_pos rfl]; exact hf x hx
  have hlen : ∀ n, (bf (zs_st r c k tl pr) x0 n).length ≤ 864 := fun n => bf_count hd hV n
  unfold zq4_floodTo_27
  refine ⟨fun v σ' => ∃ s, s ≤ 1728 ∧ v = nI s ∧ (s ≤ (bf (zs_st r c k tl pr) x0 (4 * s)).length ∧ zx σ σ' [13] [19, 20, 21, 22] ∧ CQ σ' (bf (zs_st r c k tl pr) x0 (4 * s)) ∧ ∀ i, i < s → ∀ z, (bf (zs_st r c k tl pr) x0 (4 * s))[i]? = some z → ¬ zs_goal k p f z.1), fun v _ => 1728 - v.toNatClampNeg, ⟨0, Nat.zero_le _, rfl, Nat.zero_le _, x09.tr x1, hC1, fun i hi => absurd hi (Nat.not_lt_zero i)⟩, ?_⟩
  rintro v σ5 ⟨s, hs9, rfl, hsl, hx5, hC5, hG5⟩
  have hl := hlen (4 * s)
  rw [hC5.1]
  refine pk_le (bf (zs_st r c k tl pr) x0 (4 * s)).length s (fun q => ?_) (fun q => ⟨fun q2 => ?_, fun _ => ⟨vp_in_nI (by omega) (by decide), ?_⟩⟩)
  · have hbx : bfx r c k tl pr x0 = bf (zs_st r c k tl pr) x0 (4 * s) := bfx_at (4 * s) (by omega) (by omega)
    refine h0 σ5 hx5 (by rw [hbx]; exact hC5) (fun z hz => ?_)
    rw [hbx] at hz
    obtain ⟨i, hi⟩ := List.mem_iff_getElem?.mp hz
    have := (List.getElem?_eq_some_iff.mp hi).1
    exact hG5 i (by omega) z hi
  · exact absurd q2 (nI_ge (a := s) (b := 1728) (by omega) (by decide))
  · have cs : (nI s).toNatClampNeg = s := nI_clamp (by omega)
    obtain ⟨e, he⟩ : ∃ e, (bf (zs_st r c k tl pr) x0 (4 * s))[s]? = some e := ⟨_, List.getElem?_eq_getElem q⟩
    have hVe : zs_V r c k e.1 := bf_all (zs_V r c k) hV (fun x w y hx hw h => zs_st_V hx hw h) _ _ e he
    have he17 := (zs_V_lt hd hVe).1
    rw [cs, (hC5.2.1 s e he).1]
    rintro x23 rfl
    refine e6_isAt (hB.x hx5 (by decide)) (hT.x hx5 (by decide) (by decide)) hd.2.2.2.2 (by omega) (fun hg => ?_) (fun hg => ?_)
    · exact ⟨fun z => absurd z (by decide), fun _ => h1 s e σ5 hx5 hC5 he hg hG5⟩
    · refine ⟨fun _ => e4_flood_70 hB hT hd hV he hx5 hC5 (fun σ' x' hC' => ?_), fun z => absurd rfl z⟩
      refine zl_leafS (J := fun s σ' => s ≤ (bf (zs_st r c k tl pr) x0 (4 * s)).length ∧ zx σ σ' [13] [19, 20, 21, 22] ∧ CQ σ' (bf (zs_st r c k tl pr) x0 (4 * s)) ∧ ∀ i, i < s → ∀ z, (bf (zs_st r c k tl pr) x0 (4 * s))[i]? = some z → ¬ zs_goal k p f z.1) (N := 1728) (by omega) (by decide) ⟨?_, x', hC', fun i hi z hz => ?_⟩
      · have := bf_len (st := zs_st r c k tl pr) (x0 := x0) (4 * s) (4 * (s + 1)) (by omega)
        omega
      · have hil : i < (bf (zs_st r c k tl pr) x0 (4 * s)).length := by omega
        rw [show 4 * (s + 1) = 4 * s + 4 from rfl, bf_pre (4 * s) (4 * s + 4) (by omega) i hil] at hz
        rcases Nat.lt_succ_iff_lt_or_eq.mp hi with y | y
        · exact hG5 i y z hz
        · subst y
          rw [he] at hz
          cases hz
          exact hg
end C4
