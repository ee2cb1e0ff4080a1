/-! calls: letters, ink, of, wipes, lists -/
theorem zYt {c A B : Prop} (h : c) (a : A) : (c → A) ∧ (¬ c → B) := ⟨fun _ => a, fun z => absurd h z⟩
theorem zYf {c A B : Prop} (h : ¬ c) (b : B) : (c → A) ∧ (¬ c → B) := ⟨fun z => absurd z h, fun _ => b⟩
theorem zNt {c A B : Prop} (h : c) (b : B) : (¬ c → A) ∧ (c → B) := ⟨fun z => absurd h z, fun _ => b⟩
theorem zNf {c A B : Prop} (h : ¬ c) (a : A) : (¬ c → A) ∧ (c → B) := ⟨fun _ => a, fun z => absurd z h⟩
theorem n10 : ¬ (1 : Int32) = 0 := by decide
theorem n00 : (0 : Int32) = 0 := rfl
theorem z3 {x : Int32} (h : vp_in x 3) : ∃ l, l < 3 ∧ x = nI l ∧ (nI l).toNatClampNeg = l := by
  obtain ⟨l, hl, e⟩ := vp_in_of h (by decide)
  exact ⟨l, hl, e, nI_clamp (by omega)⟩
/-- a piece of a row is filled -/
theorem zl_fillo {dst N M off : Nat} {c : Int32} (ix : Int32 → Int32) (hix : ∀ i, i < N → ix (nI i) = nI (off + i)) (hN : N < 2 ^ 31) (hoff : off + N ≤ M) (hM : M < 2 ^ 31) {E : zz_St → Prop} {σ : zz_St}
    (hE : ∀ σ2, zx σ σ2 [] [dst] → (∀ i, i < N → σ2.2.1 dst (off + i) = c) → (∀ j, j < off ∨ off + N ≤ j → σ2.2.1 dst j = σ.2.1 dst j) → E σ2) :
    ∃ (I : Int32 → zz_St → Prop) (M' : Int32 → zz_St → Nat), I 0 σ ∧ ∀ (v : Int32) (σ : zz_St), I v σ → ((nI N ≤ v) → E σ) ∧ (¬ (nI N ≤ v) → vp_in (ix v) M ∧ ∀ g : zz_St, g = zz_A σ dst (upd (σ.2.1 dst) (ix v).toNatClampNeg c) → I (v + 1) g ∧ M' (v + 1) g < M' v σ) := by
  refine ⟨fun v σ2 => ∃ i, i ≤ N ∧ v = nI i ∧ (zx σ σ2 [] [dst] ∧ (∀ j, j < i → σ2.2.1 dst (off + j) = c) ∧ ∀ j, j < off ∨ off + i ≤ j → σ2.2.1 dst j = σ.2.1 dst j), fun v _ => N - v.toNatClampNeg, ⟨0, Nat.zero_le _, rfl, zx.rf, fun j h => absurd h (Nat.not_lt_zero j), fun _ _ => rfl⟩, ?_⟩
  rintro v σ2 ⟨i, hi, rfl, hx, h1, h2⟩
  refine ⟨fun q => ?_, fun q => ?_⟩
  · have := zl_end hi hN q
    subst this
    exact hE σ2 hx h1 h2
  · have hlt := zl_go hi hN q
    have c0 : (nI (off + i)).toNatClampNeg = off + i := nI_clamp (by omega)
    rw [hix i hlt, c0]
    refine ⟨vp_in_nI (by omega) hM, fun g hg => zl_leaf (J := fun i g => zx σ g [] [dst] ∧ (∀ j, j < i → g.2.1 dst (off + j) = c) ∧ ∀ j, j < off ∨ off + i ≤ j → g.2.1 dst j = σ.2.1 dst j) hlt hN ⟨?_, ?_, ?_⟩⟩
    · rw [hg]; exact hx.tr (zx.A dst _ List.mem_cons_self)
    · intro j hj
      rw [hg, zz_A2, if_pos rfl]
      rcases Nat.lt_succ_iff_lt_or_eq.mp hj with z | z
      · rw [pk_un (by omega)]; exact h1 j z
      · rw [z, pk_us]
    · intro j hj
      rw [hg, zz_A2, if_pos rfl, pk_un (by omega)]
      exact h2 j (by omega)
/-- a piece of a row is laid into another row -/
theorem zl_copyo {src dst N Ms Md os od : Nat} (hne : ¬ src = dst) (is id : Int32 → Int32) (his : ∀ i, i < N → is (nI i) = nI (os + i)) (hid : ∀ i, i < N → id (nI i) = nI (od + i)) (hN : N < 2 ^ 31) (hos : os + N ≤ Ms) (hod : od + N ≤ Md) (hMs : Ms < 2 ^ 31) (hMd : Md < 2 ^ 31) {E : zz_St → Prop} {σ : zz_St}
    (hE : ∀ σ2, zx σ σ2 [] [dst] → (∀ i, i < N → σ2.2.1 dst (od + i) = σ.2.1 src (os + i)) → (∀ j, j < od ∨ od + N ≤ j → σ2.2.1 dst j = σ.2.1 dst j) → E σ2) :
    ∃ (I : Int32 → zz_St → Prop) (M' : Int32 → zz_St → Nat), I 0 σ ∧ ∀ (v : Int32) (σ : zz_St), I v σ → ((nI N ≤ v) → E σ) ∧ (¬ (nI N ≤ v) → vp_in (is v) Ms ∧ vp_in (id v) Md ∧ ∀ g : zz_St, g = zz_A σ dst (upd (σ.2.1 dst) (id v).toNatClampNeg (σ.2.1 src (is v).toNatClampNeg)) → I (v + 1) g ∧ M' (v + 1) g < M' v σ) := by
  refine ⟨fun v σ2 => ∃ i, i ≤ N ∧ v = nI i ∧ (zx σ σ2 [] [dst] ∧ (∀ j, j < i → σ2.2.1 dst (od + j) = σ.2.1 src (os + j)) ∧ ∀ j, j < od ∨ od + i ≤ j → σ2.2.1 dst j = σ.2.1 dst j), fun v _ => N - v.toNatClampNeg, ⟨0, Nat.zero_le _, rfl, zx.rf, fun j h => absurd h (Nat.not_lt_zero j), fun _ _ => rfl⟩, ?_⟩
  rintro v σ2 ⟨i, hi, rfl, hx, h1, h2⟩
  refine ⟨fun q => ?_, fun q => ?_⟩
  · have := zl_end hi hN q
    subst this
    exact hE σ2 hx h1 h2
  · have hlt := zl_go hi hN q
    have c0 : (nI (od + i)).toNatClampNeg = od + i := nI_clamp (by omega)
    have c1 : (nI (os + i)).toNatClampNeg = os + i := nI_clamp (by omega)
    rw [his i hlt, hid i hlt, c0, c1]
    refine ⟨vp_in_nI (by omega) hMs, vp_in_nI (by omega) hMd, fun g hg => zl_leaf (J := fun i g => zx σ g [] [dst] ∧ (∀ j, j < i → g.2.1 dst (od + j) = σ.2.1 src (os + j)) ∧ ∀ j, j < od ∨ od + i ≤ j → g.2.1 dst j = σ.2.1 dst j) hlt hN ⟨?_, ?_, ?_⟩⟩
    · rw [hg]; exact hx.tr (zx.A dst _ List.mem_cons_self)
    · intro j hj
      rw [hg, zz_A2, if_pos rfl]
      rcases Nat.lt_succ_iff_lt_or_eq.mp hj with z | z
      · rw [pk_un (by omega)]; exact h1 j z
      · rw [z, pk_us, hx.2.1 src (by simp only [List.mem_singleton]; exact hne)]
    · intro j hj
      rw [hg, zz_A2, if_pos rfl, pk_un (by omega)]
      exact h2 j (by omega)
section CA
variable {σ τ : zz_St}
theorem R_letter (h : Rel σ τ) (v : Int32) : zq7_letter v τ (fun a τ' => zq8_letter v σ (fun b σ' => RQ τ' a b σ')) := by
  obtain ⟨_, ⟨n, hn, h15, h12, hi⟩, _⟩ := id h
  have e72 : nI n = 72 ↔ n = 72 := nI_eq (b := 72) (by omega) (by decide)
  have l72 : nI n < 72 ↔ n < 72 := nI_ltI (b := 72) (by omega) (by decide)
  have cn : (nI n).toNatClampNeg = n := nI_clamp (by omega)
  unfold zq7_letter zq8_letter zq7_letter_28 zq8_letter_27
  refine ⟨fun q => ⟨fun q2 => ?_, fun q2 => ?_⟩, fun q => ?_⟩
  · exact e7_refuse 6 (by decide) (by decide) (zYt q (zYt q2 (RQ.no8 h 6 (by decide) (by decide) (by decide))))
  · unfold zq1_isFull
    rw [h12, l72]
    refine ⟨fun q3 => zYt n00 ?_, fun q3 => zYf n10 ?_⟩
    · unfold zq1_append
      rw [h12, cn]
      refine ⟨vp_in_nI q3 (by decide), fun g3 hg3 g4 hg4 => zYt q (zYf q2 ?_)⟩
      rw [h15, cn]
      refine zNf (fun z => by have := e72.mp z; omega) ⟨vp_in_nI q3 (by decide), fun g15 hg15 g16 hg16 => ?_⟩
      have x3 : zy τ g3 [] [18] := by rw [hg3]; exact (zx.A 18 _ (by decide)).y
      have x4 : zy g3 g4 [12] [] := by rw [hg4]; exact (zx.I 12 _ (by decide)).y
      have x15 : zy σ g15 [] [14] := by rw [hg15]; exact (zx.A 14 _ (by decide)).y
      have x16 : zy g15 g16 [15] [] := by rw [hg16]; exact (zx.I 15 _ (by decide)).y
      have a12 : g4.1 12 = nI (n + 1) := by rw [hg4, zz_I1, if_pos rfl, x3.1 12 (by decide), h12, nI_1]
      have a15 : g16.1 15 = nI (n + 1) := by rw [hg16, zz_I1, if_pos rfl, x15.1 15 (by decide), h15, nI_1]
      refine ⟨by rw [a12, a15], h.rl ((x15.mono (by decide) (by decide)).tr (x16.mono (by decide) (by decide))) ((x3.mono (by decide) (by decide)).tr (x4.mono (by decide) (by decide))) ⟨n + 1, by omega, a15, a12, fun i hin => ?_⟩⟩
      rw [x4.2 18 (by decide), x16.2 14 (by decide), hg3, hg15, zz_A2, if_pos rfl, zz_A2, if_pos rfl]
      rcases Nat.lt_succ_iff_lt_or_eq.mp hin with z | z
      · rw [pk_un (by omega), pk_un (by omega)]; exact hi i z
      · rw [z, pk_us, pk_us]
    · refine e7_refuse 6 (by decide) (by decide) (zYt q (zYf q2 ?_))
      rw [h15]
      exact zNt (e72.mpr (by omega)) (RQ.no8 h 6 (by decide) (by decide) (by decide))
  · exact e7_refuse 4 (by decide) (by decide) (zYf q (RQ.no8 h 4 (by decide) (by decide) (by decide)))
theorem R0.ink {r c k : Nat} (h : R0 r c k σ τ) (v : Int32) : R0 r c k (zz_I σ 6 v) (zz_I τ 10 v) := by
  have x1 : zy σ (zz_I σ 6 v) [6] [] := (zx.I 6 _ (by decide)).y
  have x2 : zy τ (zz_I τ 10 v) [10] [] := (zx.I 10 _ (by decide)).y
  refine ⟨h.1.x x1 (by decide), h.2.1.x x2 (by decide), ?_, h.2.2.2.x x1 x2 (by decide)⟩
  obtain ⟨a1, a2, a3, a4, a5⟩ := h.2.2.1
  unfold RW
  rw [x1.1 9 (by decide), x1.1 8 (by decide), x2.1 8 (by decide), zz_I1, if_pos rfl, zz_I1, if_pos rfl]
  exact ⟨a1, a2, a3, rfl, a5⟩
theorem R_ink (h : Rel σ τ) (v : Int32) : zq7_ink v τ (fun a τ' => zq8_ink v σ (fun b σ' => RQ τ' a b σ')) := by
  obtain ⟨⟨r, c, k, h0⟩, hE⟩ := id h
  unfold zq7_ink zq8_ink zq7_ink_9
  refine zn_le (n := 1) (by decide) (fun q => ?_) (fun q => ?_)
  · intro x ex g hg
    refine e8_in2 (fun _ => zNf n10 (fun x9 e9 g10 e10 => ⟨?_, ?_⟩)) (fun z => absurd q z)
    · rw [ex, e9]; exact h0.2.2.1.2.2.2.1.symm
    · subst hg; subst e10
      exact h.r0 (zx.I (ks := [6]) (js := []) 6 _ (by decide)).y (zx.I (ks := [10]) (js := []) 10 _ (by decide)).y (by decide) (h0.ink v)
  · exact e7_refuse 2 (by decide) (by decide) (e8_in2 (fun z => absurd z q) (fun _ => zNt n00 (RQ.no8 h 2 (by decide) (by decide) (by decide))))
theorem R_of (h : Rel σ τ) (v w : Int32) : zq7_of v w τ (fun a τ' => zq8_of v w σ (fun b σ' => RQ τ' a b σ')) := by
  obtain ⟨⟨r, c, k, h0⟩, hE⟩ := id h
  have hd := h0.dim
  have hrc := zs_rc hd.2.1 hd.2.2.2.1
  unfold zq7_of zq8_of zq7_of_26
  refine e6_hasTile h0.2.1 hd (fun q => zNf n10 ?_) (fun q => zNt n00 ?_)
  · obtain ⟨t, ht, rfl⟩ := vp_in_of q (by omega)
    have ct : (nI t).toNatClampNeg = t := nI_clamp (by omega)
    have v36 : vp_in (nI t) 36 := vp_in_nI (by omega) (by decide)
    have et := h0.2.2.1.2.1 t (by omega)
    have ep := h0.2.2.1.2.2.1 t (by omega)
    rw [ct]
    refine zn_le (n := 1) (by decide) (fun q2 => ?_) (fun q2 => ?_)
    · refine ⟨fun w0 => ⟨v36, fun p0 => ⟨v36, ?_⟩, fun p0 => ?_⟩, fun w0 => ⟨v36, ?_⟩⟩
      · refine e8_isTile h0.mb hd (fun _ => zNf n10 (e8_in2 (fun _ => zNf n10 (zNf w0 ⟨v36, zYt ?_ ⟨v36, ep.1.symm, h⟩⟩)) (fun z => absurd q2 z))) (fun z => absurd q z)
        rcases ep.2 with y | y
        · rw [← ep.1, y] at p0; exact absurd rfl p0
        · exact y
      · refine e8_isTile h0.mb hd (fun _ => zNf n10 (e8_in2 (fun _ => zNf n10 (zNf w0 ⟨v36, zYf ?_ ⟨rfl, h⟩⟩)) (fun z => absurd q2 z))) (fun z => absurd q z)
        rw [ep.1, p0]; decide
      · exact e8_isTile h0.mb hd (fun _ => zNf n10 (e8_in2 (fun _ => zNf n10 (zNt w0 ⟨v36, et.symm, h⟩)) (fun z => absurd q2 z))) (fun z => absurd q z)
    · exact e7_refuse 2 (by decide) (by decide) (e8_isTile h0.mb hd (fun _ => zNf n10 (e8_in2 (fun z => absurd z q2) (fun _ => zNt n00 (RQ.no8 h 2 (by decide) (by decide) (by decide))))) (fun z => absurd q z))
  · exact e7_refuse 1 (by decide) (by decide) (e8_isTile h0.mb hd (fun z => absurd z q) (fun _ => zNt n00 (RQ.no8 h 1 (by decide) (by decide) (by decide))))
theorem R0.cnt {r c k : Nat} (h : R0 r c k σ τ) : zcnt (fun i => decide (¬ σ.2.1 5 i < 0)) (r * c) = zcnt (fun i => decide (¬ τ.2.1 16 i = -1)) (r * c) := by
  have hrc := zs_rc h.dim.2.1 h.dim.2.2.2.1
  refine zcnt_congr _ (fun i hi => ?_)
  have ep := h.2.2.1.2.2.1 i (by omega)
  rw [← ep.1]
  rcases ep.2 with y | y
  · rw [y]; decide
  · rw [decide_eq_true (Int32.not_lt.mpr y), decide_eq_true]
    intro z
    rw [z] at y
    exact absurd y (by decide)
theorem R0.prints {r c k : Nat} {f f' : Nat → Int32} (h : R0 r c k σ τ) (hf : ∀ i, i < 36 → f i = f' i ∧ (f i = -1 ∨ 0 ≤ f i)) : R0 r c k (zz_A σ 5 f) (zz_A τ 16 f') := by
  have x1 : zy σ (zz_A σ 5 f) [] [5] := (zx.A 5 _ (by decide)).y
  have x2 : zy τ (zz_A τ 16 f') [] [16] := (zx.A 16 _ (by decide)).y
  refine ⟨h.1.x x1 (by decide), h.2.1.x x2 (by decide), ?_, h.2.2.2.x x1 x2 (by decide)⟩
  obtain ⟨a1, a2, a3, a4, a5⟩ := h.2.2.1
  unfold RW
  rw [x1.2 10 (by decide), x1.2 4 (by decide), x2.2 14 (by decide), zz_A2, if_pos rfl, zz_A2, if_pos rfl]
  exact ⟨a1, a2, hf, a4, a5⟩
theorem R_wipes (h : Rel σ τ) : zq7_wipes τ (fun a τ' => zq8_wipes σ (fun b σ' => RQ τ' a b σ')) := by
  obtain ⟨⟨r, c, k, h0⟩, hE⟩ := id h
  have hd := h0.dim
  unfold zq7_wipes zq6_clearPrints zq8_wipes zq8_wipes_7
  refine e6_countPrints h0.2.1 hd (fun f hf g hg => e8_printed h0.mb hd ?_)
  rw [h0.cnt]
  refine zl_fill (dst := 5) (N := 36) (by decide) (fun σ2 x2 h1 _ => ⟨rfl, ?_⟩)
  have x1 : zy τ g [] [16] := by rw [hg]; exact (zx.A 16 _ (by decide)).y
  refine h.r0 x2.y x1 (by decide) ⟨h0.1.x x2.y (by decide), h0.2.1.x x1 (by decide), ?_, h0.2.2.2.x x2.y x1 (by decide)⟩
  obtain ⟨a1, a2, a3, a4, a5⟩ := h0.2.2.1
  unfold RW
  rw [x2.1 9 (by decide), x2.1 8 (by decide), x2.1 6 (by decide), x1.1 8 (by decide), x1.1 10 (by decide), x2.2.1 10 (by decide), x2.2.1 4 (by decide), x1.2 14 (by decide)]
  refine ⟨a1, a2, fun i hi => ?_, a4, a5⟩
  rw [h1 i hi, hg, zz_A2, if_pos rfl, hf i hi]
  exact ⟨rfl, Or.inl rfl⟩
theorem R_list (h : Rel σ τ) (v w : Int32) : zq7_list v w τ (fun a τ' => zq8_list v w σ (fun b σ' => RQ τ' a b σ')) := by
  obtain ⟨_, _, hS, _⟩ := id h
  unfold zq7_list zq8_list
  refine e7_isList (fun q => zNf n10 ?_) (fun q => zNt n00 ?_)
  · obtain ⟨l, hl, rfl, cl⟩ := z3 q
    rw [cl]
    refine ⟨fun q40 => ⟨fun q0 => ⟨q, ?_⟩, fun q0 => ?_⟩, fun q40 => ?_⟩
    · obtain ⟨n, hn, rfl⟩ := nI_of (Int32.not_lt.mpr q0)
      have hn40 : n ≤ 40 := (nI_leI (b := 40) hn (by decide)).mp q40
      unfold zq3_begin
      intro f hf g7 h7 g8 h8
      refine e8_isList (fun _ => zNf n10 (zYt q40 (zYt q0 ⟨q, fun g18 h18 => ?_⟩))) (fun z => absurd q z)
      unfold zq8_list_42
      refine zl_fillo (dst := 37) (N := 40) (M := 120) (off := 40 * l) (fun v => (40 : Int32) * nI l + v) (fun i _ => zn_ma 40 l i) (by decide) (by omega) (by decide) (fun σ2 x2 e1 e2 => ⟨rfl, ?_⟩)
      have y7 : zy τ g7 [] [34 + l] := by rw [h7]; exact (zx.A (34 + l) _ List.mem_cons_self).y
      have y8 : zy g7 g8 [22 + l] [] := by rw [h8]; exact (zx.I (22 + l) _ List.mem_cons_self).y
      have y18 : zy σ g18 [] [36] := by rw [h18]; exact (zx.A 36 _ (by decide)).y
      have m1 : ∀ k ∈ [22 + l], k ∈ [22, 23, 24] := by
        intro k hk
        rw [List.mem_singleton.mp hk]
        rcases (by omega : l = 0 ∨ l = 1 ∨ l = 2) with rfl | rfl | rfl <;> decide
      have m2 : ∀ k ∈ [34 + l], k ∈ [34, 35, 36] := by
        intro k hk
        rw [List.mem_singleton.mp hk]
        rcases (by omega : l = 0 ∨ l = 1 ∨ l = 2) with rfl | rfl | rfl <;> decide
      refine h.rs ((y18.mono (by decide) (by decide)).tr (x2.y.mono (by decide) (by decide))) ((y7.mono (by decide) m2).tr (y8.mono m1 (by decide))) (fun l' hl' => ?_)
      obtain ⟨b1, b2⟩ := hS l' hl'
      have e36 : σ2.2.1 36 = upd (σ.2.1 36) l (nI n) := by rw [x2.2.1 36 (by decide), h18, zz_A2, if_pos rfl]
      have e22 : g8.1 (22 + l') = if l' = l then nI n else τ.1 (22 + l') := by
        rw [h8, zz_I1, y7.1 _ List.not_mem_nil]
        by_cases z : l' = l
        · rw [if_pos (by omega), if_pos z]
        · rw [if_neg (by omega), if_neg z]
      have e34 : g8.2.1 (34 + l') = if l' = l then f else τ.2.1 (34 + l') := by
        rw [y8.2 _ List.not_mem_nil, h7, zz_A2]
        by_cases z : l' = l
        · rw [if_pos (by omega), if_pos z]
        · rw [if_neg (by omega), if_neg z]
      rw [e36, e22, e34]
      by_cases z : l' = l
      · subst z
        rw [if_pos rfl, if_pos rfl, pk_us]
        exact ⟨Or.inr ⟨n, hn40, rfl, rfl⟩, fun i hi => by rw [e1 i hi, hf i hi]⟩
      · rw [if_neg z, if_neg z, pk_un z]
        refine ⟨b1, fun i hi => ?_⟩
        rw [e2 _ (by omega), y18.2 37 (by decide)]
        exact b2 i hi
    · exact e8_isList (fun _ => zNf n10 (zYt q40 (zYf q0 ⟨rfl, h⟩))) (fun z => absurd q z)
    · exact e7_refuse 6 (by decide) (by decide) (e8_isList (fun _ => zNf n10 (zYf q40 (RQ.no8 h 6 (by decide) (by decide) (by decide)))) (fun z => absurd q z))
  · exact e7_refuse 1 (by decide) (by decide) (e8_isList (fun z => absurd z q) (fun _ => zNt n00 (RQ.no8 h 1 (by decide) (by decide) (by decide))))
theorem R_put (h : Rel σ τ) (v w u : Int32) : zq7_put v w u τ (fun a τ' => zq8_put v w u σ (fun b σ' => RQ τ' a b σ')) := by
  obtain ⟨_, _, hS, _⟩ := id h
  unfold zq7_put zq8_put zq3_lackAt
  refine e7_isList (fun q => zNf n10 ⟨q, ?_⟩) (fun q => zNt n00 ?_)
  · obtain ⟨l, hl, rfl, cl⟩ := z3 q
    rw [cl]
    obtain ⟨⟨a1, a2⟩ | ⟨n, hn, a1, a2⟩, hit⟩ := hS l hl
    · rw [a2, a1]
      refine e7_lackM (zYf (by decide) (e8_isList (fun _ => zNf n10 ⟨q, zYf (by decide) ⟨rfl, h⟩⟩) (fun z => absurd q z)))
    · rw [a2, a1]
      have p0 : 0 ≤ nI n := nI_pos' (by omega)
      refine e7_lackN (by omega) (fun q2 => zYt (by decide) ⟨q, ?_⟩) (fun q2 => zYf (by decide) (e8_isList (fun _ => zNf n10 ⟨q, zYt p0 ⟨q, e8_inN (by omega) (fun z => absurd z q2) (fun _ => zNt n00 ⟨rfl, h⟩)⟩⟩) (fun z => absurd q z)))
      obtain ⟨i, hi, rfl⟩ := vp_in_of q2 (by omega)
      have ci : (nI i).toNatClampNeg = i := nI_clamp (by omega)
      have e40 : (40 : Int32) * nI l + nI i = nI (40 * l + i) := zn_ma 40 l i
      have c40 : (nI (40 * l + i)).toNatClampNeg = 40 * l + i := nI_clamp (by omega)
      rw [ci, e40, c40]
      refine ⟨vp_in_nI (by omega) (by decide), fun g hg => e8_isList (fun _ => zNf n10 ⟨q, zYt p0 ⟨q, e8_inN (by omega) (fun _ => zNf n10 ⟨vp_in_nI (by omega) (by decide), fun g14 h14 => ⟨rfl, ?_⟩⟩) (fun z => absurd q2 z)⟩⟩) (fun z => absurd q z)⟩
      have y : zy τ g [] [34 + l] := by rw [hg]; exact (zx.A (34 + l) _ List.mem_cons_self).y
      have x : zy σ g14 [] [37] := by rw [h14]; exact (zx.A 37 _ (by decide)).y
      have m2 : ∀ k ∈ [34 + l], k ∈ [34, 35, 36] := by
        intro k hk
        rw [List.mem_singleton.mp hk]
        rcases (by omega : l = 0 ∨ l = 1 ∨ l = 2) with rfl | rfl | rfl <;> decide
      refine h.rs (x.mono (by decide) (by decide)) (y.mono (by decide) m2) (fun l' hl' => ?_)
      obtain ⟨b1, b2⟩ := hS l' hl'
      rw [x.2 36 (by decide), y.1 _ List.not_mem_nil]
      refine ⟨b1, fun j hj => ?_⟩
      rw [h14, hg, zz_A2, if_pos rfl, zz_A2]
      by_cases z : l' = l
      · subst z
        rw [if_pos rfl]
        by_cases z2 : j = i
        · subst z2; rw [pk_us, pk_us]
        · rw [pk_un z2, pk_un (by omega)]; exact b2 j hj
      · rw [if_neg (by omega), pk_un (by omega)]; exact b2 j hj
  · exact e7_refuse 1 (by decide) (by decide) (e8_isList (fun z => absurd z q) (fun _ => zNt n00 (RQ.no8 h 1 (by decide) (by decide) (by decide))))
end CA
