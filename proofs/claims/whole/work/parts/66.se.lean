/-! call: fill -/
def zfill (H : Nat → Bool) (N : Nat → Nat) (m0 : Nat) : Nat → Nat × Option Nat
  | 0 => (m0, none)
  | t + 1 => if H t = true ∧ (zfill H N m0 t).1 < N t then (N t, some t) else zfill H N m0 t
theorem zfill_y {H : Nat → Bool} {N : Nat → Nat} {m0 t : Nat} (h1 : H t = true) (h2 : (zfill H N m0 t).1 < N t) : zfill H N m0 (t + 1) = (N t, some t) := if_pos ⟨h1, h2⟩
theorem zfill_n {H : Nat → Bool} {N : Nat → Nat} {m0 t : Nat} (h : ¬ (H t = true ∧ (zfill H N m0 t).1 < N t)) : zfill H N m0 (t + 1) = zfill H N m0 t := if_neg h
theorem zfill_some {H : Nat → Bool} {N : Nat → Nat} {m0 : Nat} : ∀ n b, (zfill H N m0 n).2 = some b → (zfill H N m0 n).1 = N b ∧ H b = true ∧ b < n := by
  intro n
  induction n with
  | zero => intro b h; cases h
  | succ n ih =>
    intro b h
    by_cases q : H n = true ∧ (zfill H N m0 n).1 < N n
    · rw [zfill_y q.1 q.2] at h ⊢
      cases h
      exact ⟨rfl, q.1, Nat.lt_succ_self _⟩
    · rw [zfill_n q] at h ⊢
      obtain ⟨a, b2, c⟩ := ih b h
      exact ⟨a, b2, by omega⟩
theorem zfill_congr {H H' : Nat → Bool} {N N' : Nat → Nat} {m0 : Nat} (n : Nat) (h : ∀ t, t < n → H t = H' t ∧ N t = N' t) : ∀ t, t ≤ n → zfill H N m0 t = zfill H' N' m0 t := by
  intro t
  induction t with
  | zero => intro _; rfl
  | succ t ih =>
    intro ht
    obtain ⟨a, b⟩ := h t (by omega)
    show (if H t = true ∧ (zfill H N m0 t).1 < N t then (N t, some t) else zfill H N m0 t) = (if H' t = true ∧ (zfill H' N' m0 t).1 < N' t then (N' t, some t) else zfill H' N' m0 t)
    rw [ih (by omega), a, b]
def zo1 (o : Option Nat) (d : Int32) : Int32 := match o with
  | some b => nI b
  | none => d
theorem upd_back {f : Nat → Int32} {t : Nat} {a b : Int32} (h : f t = b) : upd (upd f t a) t b = f := by
  funext i
  by_cases y : i = t
  · rw [y, pk_us, h]
  · rw [pk_un y, pk_un y]
section SE
variable {σ τ : zz_St} {r c k x0 : Nat} {tl pr : Nat → Int32}
theorem e4_statesFilled {Q : Int32 → zz_St → Prop} {t : Nat} (hB : CB τ r c k tl pr) (hT : CT τ) (hd : zs_dim r c k) (hV : zs_V r c k x0) (h8 : τ.1 8 = nI x0) (ht : t < 36) (hh : tl t = 1) (h : ∀ τ2, zx τ τ2 [13] [19, 20, 21, 22] → Q (nI (bfx r c k (upd tl t 0) pr x0).length) τ2) : zq4_statesFilled (nI t) τ Q := by
  unfold zq4_statesFilled
  have ct : (nI t).toNatClampNeg = t := nI_clamp (by omega)
  have vt : vp_in (nI t) 36 := vp_in_nI ht (by decide)
  rw [ct]
  refine ⟨vt, fun g5 h5 => ?_⟩
  have x5 : zx τ g5 [] [14] := by rw [h5]; exact zx.A 14 _ (by decide)
  have e14 : g5.2.1 14 = upd tl t 0 := by rw [h5, zz_A2, if_pos rfl, hB.2.2.2.1]
  have hB5 : CB g5 r c k (upd tl t 0) pr := ⟨(x5.1 2 (by decide)).trans hB.1, (x5.1 4 (by decide)).trans hB.2.1, (x5.1 6 (by decide)).trans hB.2.2.1, e14, (x5.2.1 16 (by decide)).trans hB.2.2.2.2⟩
  refine e4_all hB5 (hT.x x5 (by decide) (by decide)) hd hV ((x5.1 8 (by decide)).trans h8) (fun τ2 x2 hC => ⟨vt, fun g8 h8' => ?_⟩)
  have x8 : zx τ2 g8 [] [14] := by rw [h8']; exact zx.A 14 _ (by decide)
  rw [x8.1 13 (by decide), hC.1]
  have back : g8.2.1 14 = τ.2.1 14 := by
    rw [h8', zz_A2, if_pos rfl, x2.2.1 14 (by decide), e14, hB.2.2.2.1, upd_back hh]
  have xx : zx τ g8 [13] [14, 19, 20, 21, 22] := ((x5.mono (by decide) (by decide)).tr (x2.mono (by decide) (by decide))).tr (x8.mono (by decide) (by decide))
  exact h g8 ⟨xx.1, fun j hj => by
    by_cases y : j = 14
    · rw [y]; exact back
    · exact xx.2.1 j (by simp only [List.mem_cons, List.not_mem_nil, or_false] at hj ⊢; omega), xx.2.2⟩
theorem e4_bestFilled {Q : Int32 → zz_St → Prop} (hB : CB τ r c k tl pr) (hT : CT τ) (hd : zs_dim r c k) (hV : zs_V r c k x0) (h8 : τ.1 8 = nI x0)
    (h : ∀ τ2, zx τ τ2 [13] [19, 20, 21, 22] → Q (zo1 (zfill (fun t => decide (tl t = 1)) (fun t => (bfx r c k (upd tl t 0) pr x0).length) (bfx r c k tl pr x0).length (r * c)).2 (-1)) τ2) : zq4_bestFilled τ Q := by
  have hrc := zs_rc hd.2.1 hd.2.2.2.1
  have hlen : ∀ tl', (bfx r c k tl' pr x0).length ≤ 864 := fun tl' => bfx_len hd hV
  unfold zq4_bestFilled zq4_floodAll
  refine e4_all hB hT hd hV h8 (fun τ1 x1 hC x16 e16 => ?_)
  rw [hC.1] at e16
  subst e16
  generalize hH : (fun t => decide (tl t = 1)) = H at *
  generalize hN : (fun t => (bfx r c k (upd tl t 0) pr x0).length) = N at *
  generalize hm : (bfx r c k tl pr x0).length = m0 at *
  have hm0 : m0 ≤ 864 := by rw [← hm]; exact hlen tl
  have hNl : ∀ t, N t ≤ 864 := fun t => by rw [← hN]; exact hlen _
  have hml : ∀ t, (zfill H N m0 t).1 ≤ 864 := by
    intro t
    induction t with
    | zero => exact hm0
    | succ t ih =>
      by_cases q : H t = true ∧ (zfill H N m0 t).1 < N t
      · rw [zfill_y q.1 q.2]; exact hNl t
      · rw [zfill_n q]; exact ih
  unfold zq4_bestFilled_15
  refine ⟨fun v2 v3 v4 τ2 => ∃ t, t ≤ r * c ∧ v4 = nI t ∧ (v2 = nI (zfill H N m0 t).1 ∧ v3 = zo1 (zfill H N m0 t).2 (-1) ∧ zx τ τ2 [13] [19, 20, 21, 22]), fun _ _ v4 _ => r * c - v4.toNatClampNeg, ⟨0, Nat.zero_le _, rfl, rfl, rfl, x1⟩, ?_⟩
  rintro v2 v3 v4 τ2 ⟨t, ht, rfl, rfl, rfl, x2⟩
  have hB2 := hB.x x2 (by decide)
  refine e6_tileCount (k := k) ⟨hB2.1, hB2.2.1, hB2.2.2.1⟩ (pk_le (r * c) t (fun q => ?_) (fun q => ⟨vp_in_nI (by omega) (by decide), ?_⟩))
  · rw [show t = r * c from by omega]; exact h τ2 x2
  · have ct : (nI t).toNatClampNeg = t := nI_clamp (by omega)
    unfold zq4_bestFilled_46 zq4_bestFilled_60
    have keep : ∀ τ3, zx τ τ3 [13] [19, 20, 21, 22] → ¬ (H t = true ∧ (zfill H N m0 t).1 < N t) → (∃ j, j ≤ r * c ∧ nI t + 1 = nI j ∧ (nI (zfill H N m0 t).1 = nI (zfill H N m0 j).1 ∧ zo1 (zfill H N m0 t).2 (-1) = zo1 (zfill H N m0 j).2 (-1) ∧ zx τ τ3 [13] [19, 20, 21, 22])) ∧ r * c - (nI t + 1).toNatClampNeg < r * c - (nI t).toNatClampNeg := fun τ3 x3 z => zl_leaf (J := fun j τ3 => nI (zfill H N m0 t).1 = nI (zfill H N m0 j).1 ∧ zo1 (zfill H N m0 t).2 (-1) = zo1 (zfill H N m0 j).2 (-1) ∧ zx τ τ3 [13] [19, 20, 21, 22]) q (by omega) ⟨by rw [zfill_n z], by rw [zfill_n z], x3⟩
    have eH : H t = decide (tl t = 1) := by rw [← hH]
    rw [ct, hB2.2.2.2.1]
    refine ⟨fun n1 => ?_, fun y1 => ?_⟩
    · refine zYt (nI_pos' (by have := hml t; omega)) (keep τ2 x2 (fun u => ?_))
      rw [eH] at u
      exact n1 (of_decide_eq_true u.1)
    · refine e4_statesFilled hB2 (hT.x x2 (by decide) (by decide)) hd hV ((x2.1 8 (by decide)).trans h8) (by omega) y1 (fun τ3 x3 => ?_)
      have eN : (bfx r c k (upd tl t 0) pr x0).length = N t := by rw [← hN]
      rw [eN]
      have h1 := hml t
      have h2 := hNl t
      refine pk_le (N t) (zfill H N m0 t).1 (fun u => keep τ3 (x2.tr x3) (fun w => by omega)) (fun u => ?_)
      have hy : H t = true := by rw [eH]; exact decide_eq_true y1
      exact zl_leaf (J := fun j τ3 => nI (N t) = nI (zfill H N m0 j).1 ∧ nI t = zo1 (zfill H N m0 j).2 (-1) ∧ zx τ τ3 [13] [19, 20, 21, 22]) q (by omega) ⟨by rw [zfill_y hy u], by rw [zfill_y hy u]; rfl, x2.tr x3⟩
theorem e8_fill_46 {Q : Int32 → zz_St → Prop} {v : Int32} (hB : MB σ r c k tl pr) (hd : zs_dim r c k) (hpr : ∀ t, t < 36 → pr t = -1 ∨ 0 ≤ pr t) (hV : zs_V r c k x0) (hF : MF σ (zs_te k) (x0 / 24) (x0 % 24))
    (h : ∀ σ2, zx σ σ2 [8, 12, 20, 27, 28] [10, 11, 13, 21, 22, 23, 24, 25, 26] → MF σ2 (zs_te k) (x0 / 24) (x0 % 24) → Q (match (zfill (fun t => decide (tl t = 1)) (fun t => (bfx r c k (upd tl t 0) pr x0).length) (bfx r c k tl pr x0).length (r * c)).2 with | some b => if v = 0 then nI b else nI (zfill (fun t => decide (tl t = 1)) (fun t => (bfx r c k (upd tl t 0) pr x0).length) (bfx r c k tl pr x0).length (r * c)).1 | none => -9) σ2) : zq8_fill_46 v (nI (bfx r c k tl pr x0).length) (-9) 0 σ Q := by
  have hrc := zs_rc hd.2.1 hd.2.2.2.1
  have hlen : ∀ tl', (bfx r c k tl' pr x0).length ≤ 864 := fun tl' => bfx_len hd hV
  generalize hH : (fun t => decide (tl t = 1)) = H at *
  generalize hN : (fun t => (bfx r c k (upd tl t 0) pr x0).length) = N at *
  generalize hm : (bfx r c k tl pr x0).length = m0 at *
  have hm0 : m0 ≤ 864 := by rw [← hm]; exact hlen tl
  have hNl : ∀ t, N t ≤ 864 := fun t => by rw [← hN]; exact hlen _
  have hml : ∀ t, (zfill H N m0 t).1 ≤ 864 := by
    intro t
    induction t with
    | zero => exact hm0
    | succ t ih =>
      by_cases q : H t = true ∧ (zfill H N m0 t).1 < N t
      · rw [zfill_y q.1 q.2]; exact hNl t
      · rw [zfill_n q]; exact ih
  unfold zq8_fill_46 zq8_fill_105
  refine ⟨fun v2 v3 v4 σ2 => ∃ t, t ≤ r * c ∧ v4 = nI t ∧ (v2 = nI (zfill H N m0 t).1 ∧ v3 = zo1 (zfill H N m0 t).2 (-9) ∧ zx σ σ2 [8, 12, 20, 27, 28] [10, 11, 13, 21, 22, 23, 24, 25, 26] ∧ MF σ2 (zs_te k) (x0 / 24) (x0 % 24)), fun _ _ v4 _ => r * c - v4.toNatClampNeg, ⟨0, Nat.zero_le _, rfl, rfl, rfl, zx.rf, hF⟩, ?_⟩
  rintro v2 v3 v4 σ2 ⟨t, ht, rfl, rfl, rfl, x2, F2⟩
  have hB2 := hB.x x2 (by decide)
  refine e8_tileMany hB2 (pk_le (r * c) t (fun q => ?_) (fun q => ⟨vp_in_nI (by omega) (by decide), ?_⟩))
  · have e : t = r * c := by omega
    subst e
    have hq := h σ2 x2 F2
    have hz := zfill_some (H := H) (N := N) (m0 := m0) (r * c)
    generalize zfill H N m0 (r * c) = z at *
    obtain ⟨z1, z2⟩ := z
    cases z2 with
    | none =>
      have hq : Q (-9) σ2 := hq
      exact ⟨fun _ => hq, fun _ => zNt rfl hq⟩
    | some b =>
      have hb := (hz b rfl).2.2
      have hq : Q (if v = 0 then nI b else nI z1) σ2 := hq
      refine ⟨fun y => ?_, fun y => zNf (fun u => ?_) ?_⟩
      · rw [if_pos y] at hq; exact hq
      · have u : nI b = -9 := u
        exact nI_pos (n := b) (by omega) (by rw [u]; decide)
      · rw [if_neg y] at hq; exact hq
  · have ct : (nI t).toNatClampNeg = t := nI_clamp (by omega)
    have vt : vp_in (nI t) 36 := vp_in_nI (by omega) (by decide)
    have keep : ∀ σ3, zx σ σ3 [8, 12, 20, 27, 28] [10, 11, 13, 21, 22, 23, 24, 25, 26] → MF σ3 (zs_te k) (x0 / 24) (x0 % 24) → ¬ (H t = true ∧ (zfill H N m0 t).1 < N t) → (∃ j, j ≤ r * c ∧ nI t + 1 = nI j ∧ (nI (zfill H N m0 t).1 = nI (zfill H N m0 j).1 ∧ zo1 (zfill H N m0 t).2 (-9) = zo1 (zfill H N m0 j).2 (-9) ∧ zx σ σ3 [8, 12, 20, 27, 28] [10, 11, 13, 21, 22, 23, 24, 25, 26] ∧ MF σ3 (zs_te k) (x0 / 24) (x0 % 24))) ∧ r * c - (nI t + 1).toNatClampNeg < r * c - (nI t).toNatClampNeg := fun σ3 x3 F3 z => zl_leaf (J := fun j σ3 => nI (zfill H N m0 t).1 = nI (zfill H N m0 j).1 ∧ zo1 (zfill H N m0 t).2 (-9) = zo1 (zfill H N m0 j).2 (-9) ∧ zx σ σ3 [8, 12, 20, 27, 28] [10, 11, 13, 21, 22, 23, 24, 25, 26] ∧ MF σ3 (zs_te k) (x0 / 24) (x0 % 24)) q (by omega) ⟨by rw [zfill_n z], by rw [zfill_n z], x3, F3⟩
    have eH : H t = decide (tl t = 1) := by rw [← hH]
    rw [ct, hB2.2.2.2.1]
    refine ⟨fun y1 => ⟨vt, fun g25 h25 => ?_⟩, fun n1 => keep σ2 x2 F2 (fun u => n1 (by rw [eH] at u; exact of_decide_eq_true u.1))⟩
    have x25 : zx σ2 g25 [] [4] := by rw [h25]; exact zx.A 4 _ (by decide)
    have e4 : g25.2.1 4 = upd tl t 0 := by rw [h25, zz_A2, if_pos rfl]
    have hB25 : MB g25 r c k (upd tl t 0) pr := ⟨(x25.1 2 (by decide)).trans hB2.1, (x25.1 3 (by decide)).trans hB2.2.1, (x25.1 7 (by decide)).trans hB2.2.2.1, e4, (x25.2.1 5 (by decide)).trans hB2.2.2.2.2⟩
    refine e8_goesThrough hB25 hd hpr hV (F2.x x25 (by decide)) (fun σ3 x3 F3 hG => ⟨vt, fun g27 h27 => ?_⟩)
    have x27 : zx σ3 g27 [] [4] := by rw [h27]; exact zx.A 4 _ (by decide)
    have eN : (bfx r c k (upd tl t 0) pr x0).length = N t := by rw [← hN]
    have back : g27.2.1 4 = σ2.2.1 4 := by
      rw [h27, zz_A2, if_pos rfl, x3.2.1 4 (by decide), e4, hB2.2.2.2.1, upd_back y1]
    have xx0 : zx σ2 g27 [8, 12, 20, 27, 28] [4, 10, 11, 13, 21, 22, 23, 24, 25, 26] := ((x25.mono (by decide) (by decide)).tr (x3.mono (by decide) (by decide))).tr (x27.mono (by decide) (by decide))
    have xx : zx σ2 g27 [8, 12, 20, 27, 28] [10, 11, 13, 21, 22, 23, 24, 25, 26] := ⟨xx0.1, fun j hj => by
      by_cases y : j = 4
      · rw [y]; exact back
      · exact xx0.2.1 j (by simp only [List.mem_cons, List.not_mem_nil, or_false] at hj ⊢; omega), xx0.2.2⟩
    have F27 := F3.x x27 (by decide)
    rw [x27.1 27 (by decide), hG.1.1, eN]
    have h1 := hml t
    have h2 := hNl t
    refine pk_le (N t) (zfill H N m0 t).1 (fun u => keep g27 (x2.tr xx) F27 (fun w => by omega)) (fun u x29 e29 => ?_)
    subst e29
    have hy : H t = true := by rw [eH]; exact decide_eq_true y1
    exact zl_leaf (J := fun j σ3 => nI (N t) = nI (zfill H N m0 j).1 ∧ nI t = zo1 (zfill H N m0 j).2 (-9) ∧ zx σ σ3 [8, 12, 20, 27, 28] [10, 11, 13, 21, 22, 23, 24, 25, 26] ∧ MF σ3 (zs_te k) (x0 / 24) (x0 % 24)) q (by omega) ⟨by rw [zfill_y hy u], by rw [zfill_y hy u]; rfl, x2.tr xx, F27⟩
theorem R_fill (h : Rel σ τ) (v : Int32) : zq7_fill v τ (fun a τ' => zq8_fill v σ (fun b σ' => RQ τ' a b σ')) := by
  obtain ⟨⟨r, c, k, h0⟩, hE⟩ := id h
  have hT := h.ct
  have hd := h0.dim
  have hrc := zs_rc hd.2.1 hd.2.2.2.1
  unfold zq7_fill zq8_fill zq7_fill_9
  refine zn_le (n := 1) (by decide) (fun q => ?_) (fun q => e7_refuse 2 (by decide) (by decide) (e8_in2 (fun u => absurd u q) (fun _ => zNt n00 (RQ.no8 h 2 (by decide) (by decide) (by decide)))))
  rcases h0.there with ⟨z1, z2⟩ | ⟨z1, x, hV, hF, z2⟩
  · exact e6_none0 z2 (zYf n10 (e7_refuse 3 (by decide) (by decide) (e8_in2 (fun _ => zNf n10 (zNt z1 (RQ.no8 h 3 (by decide) (by decide) (by decide)))) (fun u => absurd q u))))
  · have hx := zs_V_lt hd hV
    have th : ¬ σ.1 9 = 0 := by rw [z1]; decide
    refine e6_none1 (by omega) z2 (zYt n00 (e4_bestFilled h0.cb hT hd hV z2 (fun τ2 y2 => ?_)))
    have eN : ∀ t, bfx r c k (upd (τ.2.1 14) t 0) (τ.2.1 16) x = bfx r c k (upd (σ.2.1 4) t 0) (σ.2.1 5) x := by
      intro t
      unfold bfx
      rw [zs_st_congr hd (fun i hi => ?_) (fun i hi => (h0.2.2.1.2.2.1 i hi).1.symm)]
      by_cases y : i = t
      · rw [y, pk_us, pk_us]
      · rw [pk_un y, pk_un y]; exact (h0.2.2.1.2.1 i hi).symm
    have em : bfx r c k (τ.2.1 14) (τ.2.1 16) x = bfx r c k (σ.2.1 4) (σ.2.1 5) x := by unfold bfx; rw [h0.st]
    have ez : zfill (fun t => decide (τ.2.1 14 t = 1)) (fun t => (bfx r c k (upd (τ.2.1 14) t 0) (τ.2.1 16) x).length) (bfx r c k (τ.2.1 14) (τ.2.1 16) x).length (r * c) = zfill (fun t => decide (σ.2.1 4 t = 1)) (fun t => (bfx r c k (upd (σ.2.1 4) t 0) (σ.2.1 5) x).length) (bfx r c k (σ.2.1 4) (σ.2.1 5) x).length (r * c) := by
      rw [em]
      refine zfill_congr (r * c) (fun t ht => ⟨?_, ?_⟩) (r * c) (Nat.le_refl _)
      · rw [h0.2.2.1.2.1 t (by omega)]
      · rw [eN t]
    have M : ∀ a τ3, zx τ τ3 [13] [19, 20, 21, 22] → a = (match (zfill (fun t => decide (σ.2.1 4 t = 1)) (fun t => (bfx r c k (upd (σ.2.1 4) t 0) (σ.2.1 5) x).length) (bfx r c k (σ.2.1 4) (σ.2.1 5) x).length (r * c)).2 with | some b => if v = 0 then nI b else nI (zfill (fun t => decide (σ.2.1 4 t = 1)) (fun t => (bfx r c k (upd (σ.2.1 4) t 0) (σ.2.1 5) x).length) (bfx r c k (σ.2.1 4) (σ.2.1 5) x).length (r * c)).1 | none => -9) → zq8_in (v.toInt64) (0 : Int64) (1 : Int64) (fun r30 => ((¬ r30 = 0) → ((¬ ((σ).1 9) = 0) → zq8_goesThrough σ (fun g33 => ∀ x34 : Int32, x34 = g33.1 27 → zq8_fill_46 v x34 (-9 : Int32) (0 : Int32) g33 (fun b σ' => RQ τ3 a b σ'))) ∧ (((σ).1 9) = 0 → zq8_no (-3 : Int32) σ (fun r35 g36 => RQ τ3 a r35 g36))) ∧ (r30 = 0 → zq8_no (-2 : Int32) σ (fun r37 g38 => RQ τ3 a r37 g38))) := by
      intro a τ3 y3 ea
      refine e8_in2 (fun _ => zNf n10 (zNf th (e8_goesThrough h0.mb hd h0.pr hV hF (fun σ2 x2 F2 hG => fun x34 e34 => ?_)))) (fun u => absurd q u)
      rw [hG.1.1] at e34
      subst e34
      refine e8_fill_46 (h0.mb.x x2 (by decide)) hd h0.pr hV F2 (fun σ3 x3 F3 => ⟨ea, h.sr h0 z1 hV z2 ((x2.mono (by decide) (by decide)).tr (x3.mono (by decide) (by decide))).y (y3.mono (by decide) (by decide)).y F3⟩)
    rw [ez]
    have hz := zfill_some (H := fun t => decide (σ.2.1 4 t = 1)) (N := fun t => (bfx r c k (upd (σ.2.1 4) t 0) (σ.2.1 5) x).length) (m0 := (bfx r c k (σ.2.1 4) (σ.2.1 5) x).length) (r * c)
    generalize zfill (fun t => decide (σ.2.1 4 t = 1)) (fun t => (bfx r c k (upd (σ.2.1 4) t 0) (σ.2.1 5) x).length) (bfx r c k (σ.2.1 4) (σ.2.1 5) x).length (r * c) = z at *
    obtain ⟨w1, w2⟩ := z
    cases w2 with
    | none => exact zYf (by show ¬ (0 : Int32) ≤ -1; decide) (M (-9) τ2 y2 rfl)
    | some b =>
      obtain ⟨b1, b2, b3⟩ := hz b rfl
      have b1 : w1 = (bfx r c k (upd (σ.2.1 4) b 0) (σ.2.1 5) x).length := b1
      have b2 : σ.2.1 4 b = 1 := of_decide_eq_true b2
      refine zYt (nI_pos' (n := b) (by omega)) ⟨fun nv => ?_, fun yv => ?_⟩
      · refine e4_statesFilled (t := b) (h0.cb.x y2 (by decide)) (hT.x y2 (by decide) (by decide)) hd hV ((y2.1 8 (by decide)).trans z2) (by omega) (by rw [← h0.2.2.1.2.1 b (by omega)]; exact b2) (fun τ3 y3 => M _ τ3 (y2.tr y3) ?_)
        rw [eN b, ← b1]
        show nI w1 = if v = 0 then nI b else nI w1
        rw [if_neg nv]
      · refine M _ τ2 y2 ?_
        show nI b = if v = 0 then nI b else nI w1
        rw [if_pos yv]
end SE
