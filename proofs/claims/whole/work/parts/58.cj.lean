/-! calls: roll, ways, judge, undo, walks -/
def zs_way (v : Int32) : Option Nat := if v = 117 then some 0 else if v = 114 then some 1 else if v = 100 then some 2 else if v = 108 then some 3 else none
theorem zs_way_lt {v : Int32} {w : Nat} (h : zs_way v = some w) : w < 4 := by
  unfold zs_way at h
  split at h
  · cases h; decide
  split at h
  · cases h; decide
  split at h
  · cases h; decide
  split at h
  · cases h; decide
  · cases h
theorem e1_wayAt {τ : zz_St} {Q : Int32 → Prop} {i : Nat} (hi : i < 72) (h1 : ∀ w, zs_way (τ.2.1 18 i) = some w → Q (nI w)) (h0 : zs_way (τ.2.1 18 i) = none → Q (-1)) : zq1_wayAt (nI i) τ Q := by
  unfold zq1_wayAt
  have ci : (nI i).toNatClampNeg = i := nI_clamp (by omega)
  rw [ci]
  refine ⟨vp_in_nI hi (by decide), ?_⟩
  unfold zs_way at h1 h0
  generalize τ.2.1 18 i = z at *
  rintro x rfl
  refine ⟨fun q => h1 2 (by rw [q]; decide), fun q1 => ⟨fun q => h1 3 (by rw [q]; decide), fun q2 => ⟨fun q => h1 1 (by rw [q]; decide), fun q3 => ⟨fun q => h1 0 (by rw [q]; decide), fun q4 => h0 ?_⟩⟩⟩⟩
  rw [if_neg q4, if_neg q3, if_neg q1, if_neg q2]
theorem e8_wayOf {v : Int32} {Q : Int32 → Prop} (h1 : ∀ w, zs_way v = some w → Q (nI w)) (h0 : zs_way v = none → Q (-1)) : zq8_wayOf v Q := by
  unfold zq8_wayOf
  unfold zs_way at h1 h0
  refine ⟨fun q4 => ⟨fun q3 => ⟨fun q1 => ⟨fun q2 => h0 ?_, fun q => h1 3 (by rw [q]; decide)⟩, fun q => h1 2 (by rw [q]; decide)⟩, fun q => h1 1 (by rw [q]; decide)⟩, fun q => h1 0 (by rw [q]; decide)⟩
  rw [if_neg q4, if_neg q3, if_neg q1, if_neg q2]
/-- a walk in thought -/
def zs_run (L : Nat → Int32) (st : Nat → Nat → Option Nat) (x : Nat) : Nat → Option Nat
  | 0 => some x
  | j + 1 => match zs_run L st x j, zs_way (L j) with
    | some z, some w => st z w
    | _, _ => none
theorem zs_run1 {L : Nat → Int32} {st : Nat → Nat → Option Nat} {x j z w : Nat} (h : zs_run L st x j = some z) (hw : zs_way (L j) = some w) : zs_run L st x (j + 1) = st z w := by
  show (match zs_run L st x j, zs_way (L j) with | some z, some w => st z w | _, _ => none) = _
  rw [h, hw]
theorem zs_run0 {L : Nat → Int32} {st : Nat → Nat → Option Nat} {x j z : Nat} (h : zs_run L st x j = some z) (hw : zs_way (L j) = none) : zs_run L st x (j + 1) = none := by
  show (match zs_run L st x j, zs_way (L j) with | some z, some w => st z w | _, _ => none) = _
  rw [h, hw]
theorem zs_run_congr {L L' : Nat → Int32} {st : Nat → Nat → Option Nat} {x : Nat} (n : Nat) (h : ∀ i, i < n → L i = L' i) : ∀ j, j ≤ n → zs_run L st x j = zs_run L' st x j := by
  intro j
  induction j with
  | zero => intro _; rfl
  | succ j ih =>
    intro hj
    show (match zs_run L st x j, zs_way (L j) with | some z, some w => st z w | _, _ => none) = (match zs_run L' st x j, zs_way (L' j) with | some z, some w => st z w | _, _ => none)
    rw [ih (by omega), h j (by omega)]
/-- ways, as bits -/
def zwb (P : Nat → Bool) : Nat → Int32
  | 0 => 0
  | n + 1 => if P n then zwb P n ||| ((1 : Int32) <<< (nI n &&& 31)) else zwb P n
section CJ
variable {σ τ : zz_St}
theorem R_roll (h : Rel σ τ) (v : Int32) : zq7_roll v τ (fun a τ' => zq8_roll v σ (fun b σ' => RQ τ' a b σ')) := by
  obtain ⟨⟨r, c, k, h0⟩, hE⟩ := id h
  have hT := h.ct
  have hd := h0.dim
  unfold zq7_roll zq7_roll_9 zq7_roll_34 zq8_roll zq8_roll_34
  refine zn_lt4 (n := 4) (by decide) (fun q => ?_) (fun q => ?_)
  · obtain ⟨w, hw, rfl⟩ := vp_in_of q (by decide)
    rcases h0.there with ⟨z1, z2⟩ | ⟨z1, x, hV, hF, z2⟩
    · exact e6_none0 z2 (zNf n10 (e7_refuse 3 (by decide) (by decide) (e8_in4 (fun _ => zNf n10 (zYt z1 (RQ.no8 h 3 (by decide) (by decide) (by decide)))) (fun z => absurd q z))))
    · have hx := zs_V_lt hd hV
      have th : ¬ σ.1 9 = 0 := by rw [z1]; decide
      obtain ⟨d, nx, hd20, hnx, _, d2, d3, _⟩ := h0.2.2.2
      refine e6_none1 (by omega) z2 (zNt n00 (e7_rollTruly h0.cb hT hd hV z2 hw hd20 hnx d3 d2 (fun y τ' hst hC => zNf n10 ?_) (fun hst => zNt n00 ?_)))
      · obtain ⟨_, _, _, _, _, _, cx, c8, _⟩ := id hC
        have hVy := zs_st_V hV hw hst
        have hy := zs_V_lt hd hVy
        rw [c8]
        refine e6_faceBelow (tl := τ.2.1 14) (pr := τ'.2.1 16) ⟨(cx.1 2 (by decide)).trans h0.2.1.1, (cx.1 4 (by decide)).trans h0.2.1.2.1, (cx.1 6 (by decide)).trans h0.2.1.2.2, cx.2.1 14 (by decide), rfl⟩ (hT.x cx (by decide) (by decide)) hd.2.2.2.2 (by omega) ?_
        refine e8_in4 (fun _ => zNf n10 (zYf th (e8_rollsTruly h0 hE z1 hV hF z2 hw (fun y2 σ' hst2 hV2 hF2 th2 hrel => zNf n10 ?_) (fun hn => by rw [hst] at hn; cases hn)))) (fun z => absurd q z)
        rw [hst] at hst2
        cases hst2
        obtain ⟨r0, r1⟩ := hrel τ' hC
        exact e8_below r0.mb hd hF2 ⟨rfl, ⟨r, c, k, r0⟩, r1⟩
      · refine e7_refuse 3 (by decide) (by decide) (e8_in4 (fun _ => zNf n10 (zYf th (e8_rollsTruly h0 hE z1 hV hF z2 hw (fun y2 σ' hst2 _ _ _ _ => by rw [hst] at hst2; cases hst2) (fun _ σ' r0 r1 _ => zNt n00 ?_)))) (fun z => absurd q z))
        exact RQ.no8 (σ := σ') ⟨⟨r, c, k, r0⟩, r1⟩ 3 (by decide) (by decide) (by decide)
  · exact e7_refuse 2 (by decide) (by decide) (e8_in4 (fun z => absurd z q) (fun _ => zNt n00 (RQ.no8 h 2 (by decide) (by decide) (by decide))))
theorem R_ways (h : Rel σ τ) : zq7_ways τ (fun a τ' => zq8_ways σ (fun b σ' => RQ τ' a b σ')) := by
  obtain ⟨⟨r, c, k, h0⟩, hE⟩ := id h
  have hT := h.ct
  have hd := h0.dim
  unfold zq7_ways zq8_ways
  rcases h0.there with ⟨z1, z2⟩ | ⟨z1, x, hV, hF, z2⟩
  · exact e6_none0 z2 (zYf n10 (e7_refuse 3 (by decide) (by decide) (zNt z1 (RQ.no8 h 3 (by decide) (by decide) (by decide)))))
  · have hx := zs_V_lt hd hV
    have th : ¬ σ.1 9 = 0 := by rw [z1]; decide
    obtain ⟨hp, hss, _⟩ := zs_V_dm hd hV
    refine e6_none1 (by omega) z2 (zYt n00 ?_)
    unfold zq7_ways_21 zq7_ways_50
    refine ⟨fun v1 v2 => ∃ i, i ≤ 4 ∧ v2 = nI i ∧ v1 = zwb (fun w => (zs_st r c k (τ.2.1 14) (τ.2.1 16) x w).isSome) i, fun _ v2 => 4 - v2.toNatClampNeg, ⟨0, Nat.zero_le _, rfl, rfl⟩, ?_⟩
    rintro v1 v2 ⟨i, hi, rfl, rfl⟩
    refine ⟨fun q => ?_, fun q => ?_⟩
    · have := zl_end (N := 4) hi (by decide) q
      subst this
      refine zNf th (e8_keeps1 hF (fun g xg hK => ?_))
      unfold zq8_ways_22 zq8_ways_45
      refine ⟨fun v1 v2 σ2 => ∃ i, i ≤ 4 ∧ v2 = nI i ∧ (v1 = zwb (fun w => (zs_st r c k (τ.2.1 14) (τ.2.1 16) x w).isSome) i ∧ zx g σ2 [8, 12] [10, 11, 13] ∧ MF σ2 (zs_te k) (x / 24) (x % 24)), fun _ v2 _ => 4 - v2.toNatClampNeg, ⟨0, Nat.zero_le _, rfl, rfl, zx.rf, hF.x xg (by decide)⟩, ?_⟩
      rintro v1 v2 σ2 ⟨j, hj, rfl, rfl, x2, F2⟩
      have y2 : zx σ σ2 [8, 12, 20] [10, 11, 13, 21] := (xg.mono (by decide) (by decide)).tr (x2.mono (by decide) (by decide))
      refine ⟨fun q2 => ?_, fun q2 => ?_⟩
      · have := zl_end (N := 4) hj (by decide) q2
        subst this
        exact ⟨rfl, h.r0 y2.y zy.rf (ks' := []) (js' := []) (by decide) (h0.mv z1 hV y2.y zy.rf (ks' := []) (js' := []) (by decide) F2 z2)⟩
      · have hlt := zl_go (N := 4) hj (by decide) q2
        have hcode : 24 * (x / 24) + x % 24 = x := Nat.div_add_mod _ _
        have hs24 : x % 24 < 24 := Nat.mod_lt _ (by decide)
        have stt : ∀ w, zs_st r c k (τ.2.1 14) (τ.2.1 16) x w = zs_st r c k (σ.2.1 4) (σ.2.1 5) x w := fun w => by rw [h0.st]
        refine e8_rolls (h0.mb.x y2 (by decide)) hd h0.pr hlt F2 hp hss (fun pl2 s2 hroll σ3 x3 hF3 => zYf n10 (fun x15 e15 => ?_)) (fun hroll σ3 x3 hF3 => zYt n00 ?_)
        · have hst : (zs_st r c k (τ.2.1 14) (τ.2.1 16) x j).isSome = true := by
            have := zs_st_some hs24 hroll
            rw [hcode] at this
            rw [stt, this]; rfl
          refine e8_lays1 ((hK.x x2 (by decide)).x x3 (by decide)) (fun σ4 x4 F4 => ?_)
          refine zl_leaf (J := fun j σ2 => x15 = zwb (fun w => (zs_st r c k (τ.2.1 14) (τ.2.1 16) x w).isSome) j ∧ zx g σ2 [8, 12] [10, 11, 13] ∧ MF σ2 (zs_te k) (x / 24) (x % 24)) (N := 4) hlt (by decide) ⟨?_, (x2.tr x3).tr (x4.mono (by decide) (by decide)), F4⟩
          rw [e15]
          show _ = if (zs_st r c k (τ.2.1 14) (τ.2.1 16) x j).isSome = true then _ else _
          rw [if_pos hst]
        · have hst : ¬ (zs_st r c k (τ.2.1 14) (τ.2.1 16) x j).isSome = true := by
            have := zs_st_none hs24 hroll
            rw [hcode] at this
            rw [stt, this]; decide
          refine zl_leaf (J := fun j' σ2 => zwb (fun w => (zs_st r c k (τ.2.1 14) (τ.2.1 16) x w).isSome) j = zwb (fun w => (zs_st r c k (τ.2.1 14) (τ.2.1 16) x w).isSome) j' ∧ zx g σ2 [8, 12] [10, 11, 13] ∧ MF σ2 (zs_te k) (x / 24) (x % 24)) (N := 4) hlt (by decide) ⟨?_, x2.tr x3, hF3⟩
          show _ = if (zs_st r c k (τ.2.1 14) (τ.2.1 16) x j).isSome = true then _ else _
          rw [if_neg hst]
    · have hlt := zl_go (N := 4) hi (by decide) q
      rw [z2]
      refine e6_rolledx h0.cb hT hd hlt hss hp (fun y hy => ?_) (fun hn => ?_)
      · have hVy := (zs_V_lt hd (zs_st_V hV hlt hy)).1
        refine zYf (nI_pos (by omega)) (fun x12 e12 => ?_)
        refine zl_leaf0 (J := fun j => x12 = zwb (fun w => (zs_st r c k (τ.2.1 14) (τ.2.1 16) x w).isSome) j) (N := 4) hlt (by decide) ?_
        rw [e12]
        show _ = if (zs_st r c k (τ.2.1 14) (τ.2.1 16) x i).isSome = true then _ else _
        rw [hy]; rfl
      · refine zYt (by decide) ?_
        refine zl_leaf0 (J := fun j => zwb (fun w => (zs_st r c k (τ.2.1 14) (τ.2.1 16) x w).isSome) i = zwb (fun w => (zs_st r c k (τ.2.1 14) (τ.2.1 16) x w).isSome) j) (N := 4) hlt (by decide) ?_
        show _ = if (zs_st r c k (τ.2.1 14) (τ.2.1 16) x i).isSome = true then _ else _
        rw [hn, if_neg (by decide)]
theorem R_judge (h : Rel σ τ) : zq7_judge τ (fun a τ' => zq8_judge σ (fun b σ' => RQ τ' a b σ')) := by
  obtain ⟨⟨r, c, k, h0⟩, hE⟩ := id h
  obtain ⟨n, hn, h15, h12, hlt⟩ := hE.1
  have hT := h.ct
  have hd := h0.dim
  unfold zq7_judge zq8_judge
  rcases h0.there with ⟨z1, z2⟩ | ⟨z1, x, hV, hF, z2⟩
  · exact e6_none0 z2 (zYf n10 (e7_refuse 3 (by decide) (by decide) (zNt z1 (RQ.no8 h 3 (by decide) (by decide) (by decide)))))
  · have hx := zs_V_lt hd hV
    have th : ¬ σ.1 9 = 0 := by rw [z1]; decide
    have est := h0.st
    refine e6_none1 (by omega) z2 (zYt n00 (fun x18 e18 => ?_))
    rw [z2] at e18
    subst e18
    -- the reference
    have M : ∀ a, zfst (fun j => zs_run (τ.2.1 18) (zs_st r c k (τ.2.1 14) (τ.2.1 16)) x (j + 1) = none) n a → ((¬ σ.1 9 = 0) → zq8_keeps1 σ (fun g25 => ∀ x26 : Int32, x26 = g25.1 8 → zq8_judge_25 (0 : Int32) g25 (fun b σ' => RQ τ a b σ'))) ∧ (σ.1 9 = 0 → zq8_no (-3 : Int32) σ (fun r27 g28 => RQ τ a r27 g28)) := by
      intro a ha
      refine zNf th (e8_keeps1 hF (fun g xg hK => fun _ _ => ?_))
      unfold zq8_judge_25
      refine ⟨fun v σ2 => ∃ i, i ≤ n ∧ v = nI i ∧ (zx g σ2 [8, 12] [10, 11, 13] ∧ (∃ z, zs_run (τ.2.1 18) (zs_st r c k (τ.2.1 14) (τ.2.1 16)) x i = some z ∧ zs_V r c k z ∧ MF σ2 (zs_te k) (z / 24) (z % 24)) ∧ ∀ j, j < i → ¬ zs_run (τ.2.1 18) (zs_st r c k (τ.2.1 14) (τ.2.1 16)) x (j + 1) = none), fun v _ => n - v.toNatClampNeg, ⟨0, Nat.zero_le _, rfl, zx.rf, ⟨x, rfl, hV, hF.x xg (by decide)⟩, fun j hj => absurd hj (Nat.not_lt_zero j)⟩, ?_⟩
      rintro v σ2 ⟨i, hi, rfl, x2, ⟨z, hz, hVz, F2⟩, hno⟩
      have y2 : zx σ σ2 [8, 12, 20] [10, 11, 13, 21] := (xg.mono (by decide) (by decide)).tr (x2.mono (by decide) (by decide))
      have ci : (nI i).toNatClampNeg = i := nI_clamp (by omega)
      have fin : ∀ σ3, zx g σ3 [8, 12] [10, 11, 13] → (zfst (fun j => zs_run (τ.2.1 18) (zs_st r c k (τ.2.1 14) (τ.2.1 16)) x (j + 1) = none) n (if n ≤ i then -9 else nI i)) → zq8_judge_67 (nI i) σ3 (fun b σ' => RQ τ a b σ') := by
        intro σ3 x3 hf
        unfold zq8_judge_67
        refine e8_lays1 (hK.x x3 (by decide)) (fun σ4 x4 F4 => ?_)
        have y4 : zx σ σ4 [8, 12, 20] [10, 11, 13, 21] := (xg.mono (by decide) (by decide)).tr ((x3.mono (by decide) (by decide)).tr (x4.mono (by decide) (by decide)))
        have rel : Rel σ4 τ := h.r0 y4.y zy.rf (ks' := []) (js' := []) (by decide) (h0.mv z1 hV y4.y zy.rf (ks' := []) (js' := []) (by decide) F4 z2)
        rw [y4.1 15 (by decide), h15]
        have u := zfst_uni ha hf
        exact pk_le n i (fun q => ⟨by rw [u, if_pos q], rel⟩) (fun q => ⟨by rw [u, if_neg (by omega)], rel⟩)
      rw [y2.1 15 (by decide), h15]
      refine pk_le n i (fun q => fin σ2 x2 (by rw [if_pos q]; exact Or.inr ⟨fun j hj => hno j (by omega), rfl⟩)) (fun q => ⟨vp_in_nI (by omega) (by decide), ?_⟩)
      have eL : σ2.2.1 14 i = τ.2.1 18 i := by rw [y2.2.1 14 (by decide)]; exact hlt i q
      rw [ci, eL]
      have bad : zs_run (τ.2.1 18) (zs_st r c k (τ.2.1 14) (τ.2.1 16)) x (i + 1) = none → zfst (fun j => zs_run (τ.2.1 18) (zs_st r c k (τ.2.1 14) (τ.2.1 16)) x (j + 1) = none) n (if n ≤ i then -9 else nI i) := fun z => by
        rw [if_neg (by omega)]
        exact Or.inl ⟨i, q, z, hno, rfl⟩
      refine e8_wayOf (fun w hw => zYf (nI_pos (by have := zs_way_lt hw; omega)) ⟨vp_in_nI (by omega) (by decide), ?_⟩) (fun hw => zYt (by decide) (fin σ2 x2 (bad (zs_run0 hz hw))))
      have hw4 := zs_way_lt hw
      have hrun := zs_run1 (st := zs_st r c k (τ.2.1 14) (τ.2.1 16)) (x := x) hz hw
      refine e8_wayOf (fun w' hw' => ?_) (fun hw' => by rw [hw] at hw'; cases hw')
      rw [hw] at hw'
      cases hw'
      obtain ⟨hp, hss, _⟩ := zs_V_dm hd hVz
      have hcode : 24 * (z / 24) + z % 24 = z := Nat.div_add_mod _ _
      have hs24 : z % 24 < 24 := Nat.mod_lt _ (by decide)
      rw [est] at hrun
      refine e8_rolls (h0.mb.x y2 (by decide)) hd h0.pr hw4 F2 hp hss (fun pl2 s2 hroll σ3 x3 hF3 => zYf n10 ?_) (fun hroll σ3 x3 hF3 => zYt n00 (fin σ3 (x2.tr x3) (bad ?_)))
      · have hst := zs_st_some hs24 hroll
        rw [hcode] at hst
        have hVy := zs_st_V hVz hw4 hst
        have hsl : s2 < 24 := Nat.lt_of_lt_of_le (zs_roll_ok hss hw4 hroll).2.1 (zs_ns_le _)
        rw [hst] at hrun
        rw [← est] at hrun
        refine zl_leaf (J := fun i σ2 => zx g σ2 [8, 12] [10, 11, 13] ∧ (∃ z, zs_run (τ.2.1 18) (zs_st r c k (τ.2.1 14) (τ.2.1 16)) x i = some z ∧ zs_V r c k z ∧ MF σ2 (zs_te k) (z / 24) (z % 24)) ∧ ∀ j, j < i → ¬ zs_run (τ.2.1 18) (zs_st r c k (τ.2.1 14) (τ.2.1 16)) x (j + 1) = none) q (by omega) ⟨x2.tr x3, ⟨_, hrun, hVy, ?_⟩, fun j hj => ?_⟩
        · rw [(zs_code_dm hsl).1, (zs_code_dm hsl).2]; exact hF3
        · rcases Nat.lt_succ_iff_lt_or_eq.mp hj with y | y
          · exact hno j y
          · rw [y, hrun]; exact fun u => by cases u
      · have hst := zs_st_none hs24 hroll
        rw [hcode] at hst
        rw [hst, ← est] at hrun
        exact hrun
    unfold zq7_judge_27
    refine ⟨fun v1 v2 => ∃ i, i ≤ n ∧ v2 = nI i ∧ ((∃ z, zs_run (τ.2.1 18) (zs_st r c k (τ.2.1 14) (τ.2.1 16)) x i = some z ∧ zs_V r c k z ∧ v1 = nI z) ∧ ∀ j, j < i → ¬ zs_run (τ.2.1 18) (zs_st r c k (τ.2.1 14) (τ.2.1 16)) x (j + 1) = none), fun _ v2 => n - v2.toNatClampNeg, ⟨0, Nat.zero_le _, rfl, ⟨x, rfl, hV, rfl⟩, fun j hj => absurd hj (Nat.not_lt_zero j)⟩, ?_⟩
    rintro v1 v2 ⟨i, hi, rfl, ⟨z, hz, hVz, rfl⟩, hno⟩
    rw [h12]
    have bad : i < n → zs_run (τ.2.1 18) (zs_st r c k (τ.2.1 14) (τ.2.1 16)) x (i + 1) = none → zfst (fun j => zs_run (τ.2.1 18) (zs_st r c k (τ.2.1 14) (τ.2.1 16)) x (j + 1) = none) n (nI i) := fun q z => Or.inl ⟨i, q, z, hno, rfl⟩
    refine pk_le n i (fun q => M _ (Or.inr ⟨fun j hj => hno j (by omega), rfl⟩)) (fun q => e1_wayAt (by omega) (fun w hw => zYt (nI_pos' (by have := zs_way_lt hw; omega)) ?_) (fun hw => zYf (by decide) ?_))
    · have hw4 := zs_way_lt hw
      obtain ⟨hp, hss, _⟩ := zs_V_dm hd hVz
      have hrun := zs_run1 (st := zs_st r c k (τ.2.1 14) (τ.2.1 16)) (x := x) hz hw
      unfold zq7_judge_64
      refine e6_rolledx h0.cb hT hd hw4 hss hp (fun y hy => ?_) (fun hn' => zYf (by decide) (M _ (bad q (hrun.trans hn'))))
      have hVy := zs_st_V hVz hw4 hy
      have hy17 := zs_V_lt hd hVy
      refine zYt (nI_pos' (by omega)) ?_
      refine zl_leaf0 (J := fun i => (∃ z, zs_run (τ.2.1 18) (zs_st r c k (τ.2.1 14) (τ.2.1 16)) x i = some z ∧ zs_V r c k z ∧ nI y = nI z) ∧ ∀ j, j < i → ¬ zs_run (τ.2.1 18) (zs_st r c k (τ.2.1 14) (τ.2.1 16)) x (j + 1) = none) q (by omega) ⟨⟨y, hrun.trans hy, hVy, rfl⟩, fun j hj => ?_⟩
      rcases Nat.lt_succ_iff_lt_or_eq.mp hj with u | u
      · exact hno j u
      · rw [u, hrun, hy]; exact fun u => by cases u
    · unfold zq7_judge_64
      exact zYf (by decide) (M _ (bad q (zs_run0 hz hw)))
theorem R_undo (h : Rel σ τ) : zq7_undo τ (fun a τ' => zq8_undo σ (fun b σ' => RQ τ' a b σ')) := by
  obtain ⟨⟨r, c, k, h0⟩, hE⟩ := id h
  have hd := h0.dim
  obtain ⟨d, nx, hd20, hnx, d1, d2, d3, d4, d5⟩ := h0.2.2.2
  have e0 : nI d = 0 ↔ d = 0 := nI_eq (b := 0) (by omega) (by decide)
  unfold zq7_undo zq8_undo
  rw [d2, e0]
  refine ⟨fun q => ?_, fun q => e7_refuse 3 (by decide) (by decide) (zNt (by rw [d1, e0]; exact q) (RQ.no8 h 3 (by decide) (by decide) (by decide)))⟩
  unfold zq0_bringBack
  have e14 : nI nx + 20 - 1 - (nI nx + 20 - 1) / 20 * 20 = nI ((nx + 19) % 20) := by
    rw [show nI nx + 20 = nI (nx + 20) from nI_add nx 20, show nI (nx + 20) - 1 = nI (nx + 20 - 1) from pk_sub (b := 1) (by omega), show nx + 20 - 1 = nx + 19 from rfl]
    exact pk_rem (d := 20) (by omega) (by decide) (by decide)
  rw [d3, e14]
  intro g5 h5
  have y5 : zx τ g5 [14] [] := by rw [h5]; exact zx.I 14 _ (by decide)
  have k14 : g5.1 14 = nI ((nx + 19) % 20) := by rw [h5, zz_I1, if_pos rfl]
  generalize hq' : (nx + 19) % 20 = q' at *
  have hq20 : q' < 20 := by omega
  have cq : (nI q').toNatClampNeg = q' := nI_clamp (by omega)
  rw [k14, cq]
  refine ⟨vp_in_nI hq20 (by decide), fun g6 h6 => ?_⟩
  have y6 : zx g5 g6 [8] [] := by rw [h6]; exact zx.I 8 _ (by decide)
  have c36 : (nI (q' * 36)).toNatClampNeg = q' * 36 := nI_clamp (by omega)
  rw [y6.1 14 (by decide), k14, show nI q' * 36 = nI (q' * 36) from pk_mul q' 36, c36]
  refine ⟨nI_pos (by omega), by decide, by decide, ?_, by decide, fun g7 h7 g8 h8 => ?_⟩
  · show q' * 36 + 36 ≤ 720
    omega
  have y7 : zx g6 g7 [] [16] := by rw [h7]; exact zx.A 16 _ (by decide)
  have y8 : zx g7 g8 [15] [] := by rw [h8]; exact zx.I 15 _ (by decide)
  have yy : zx τ g8 [8, 14, 15] [16] := (((y5.mono (by decide) (by decide)).tr (y6.mono (by decide) (by decide))).tr (y7.mono (by decide) (by decide))).tr (y8.mono (by decide) (by decide))
  have k15 : g8.1 15 = nI (d - 1) := by
    rw [h8, zz_I1, if_pos rfl, y7.1 15 (by decide), y6.1 15 (by decide), y5.1 15 (by decide), d2]
    exact pk_sub (b := 1) (by omega)
  have k8 : g8.1 8 = τ.2.1 26 q' := by rw [y8.1 8 (by decide), y7.1 8 (by decide), h6, zz_I1, if_pos rfl, y5.2.1 26 (by decide)]
  have k16 : ∀ t, t < 36 → g8.2.1 16 t = τ.2.1 27 (36 * q' + t) := by
    intro t ht
    rw [y8.2.1 16 (by decide), h7, zz_A2, if_pos rfl, y6.2.1 27 (by decide), y5.2.1 27 (by decide)]
    show va_cpy (τ.2.1 27) _ (q' * 36) 0 36 t = _
    rw [pk_cpy_in (Nat.zero_le _) (by omega), Nat.sub_zero, Nat.mul_comm]
  have hth := d4.resolve_left q
  obtain ⟨x, v1, v2, v3, v4, v5⟩ := d5 (d - 1) (by omega)
  rw [show (nx + 20 - d + (d - 1)) % 20 = q' from by omega] at v4 v5
  dsimp only
  rw [k15, d1]
  refine zNf (by rw [e0]; exact q) (fun g16 h16 => ?_)
  have x16 : zx σ g16 [19] [] := by rw [h16]; exact zx.I 19 _ (by decide)
  have m19 : g16.1 19 = nI (d - 1) := by rw [h16, zz_I1, if_pos rfl]; exact pk_sub (b := 1) (by omega)
  have c64 : (nI (64 * (d - 1))).toNatClampNeg = 64 * (d - 1) := nI_clamp (by omega)
  rw [m19, show (64 : Int32) * nI (d - 1) = nI (64 * (d - 1)) from pk_mul 64 (d - 1)]
  intro x17 e17
  subst e17
  rw [c64]
  refine ⟨vp_in_nI (by omega) (by decide), fun g18 h18 => ?_⟩
  have x18 : zx g16 g18 [8] [] := by rw [h18]; exact zx.I 8 _ (by decide)
  have m8 : g18.1 8 = nI (x / 24) := by rw [h18, zz_I1, if_pos rfl, x16.2.1 18 (by decide)]; exact v2
  have h018 : zx σ g18 [8, 19] [] := (x16.mono (by decide) (by decide)).tr (x18.mono (by decide) (by decide))
  unfold zq8_undo_44
  refine zl_copyo (src := 18) (dst := 10) (N := 6) (Ms := 1280) (Md := 6) (os := 64 * (d - 1) + 1) (od := 0) (by decide) (fun v => (nI (64 * (d - 1)) + 1) + v) (fun v => v) (fun i _ => by rw [nI_1, nI_add]) (fun i _ => by rw [Nat.zero_add]) (by decide) (by omega) (by decide) (by decide) (by decide) (fun σ3 x3 f1 _ => ?_)
  unfold zq8_undo_74
  refine zl_copyo (src := 18) (dst := 5) (N := 36) (Ms := 1280) (Md := 36) (os := 64 * (d - 1) + 7) (od := 0) (by decide) (fun v => (nI (64 * (d - 1)) + 7) + v) (fun v => v) (fun i _ => by rw [show nI (64 * (d - 1)) + 7 = nI (64 * (d - 1) + 7) from nI_add _ 7, nI_add]) (fun i _ => by rw [Nat.zero_add]) (by decide) (by omega) (by decide) (by decide) (by decide) (fun σ4 x4 p1 _ => ?_)
  have xx : zx σ σ4 [8, 19] [5, 10] := ((h018.mono (by decide) (by decide)).tr (x3.mono (by decide) (by decide))).tr (x4.mono (by decide) (by decide))
  have f10 : ∀ i, i < 6 → σ4.2.1 10 i = nI (zs_FA (zs_te k) (x % 24) i) := fun i hi => by
    have := f1 i hi
    rw [Nat.zero_add] at this
    rw [x4.2.1 10 (by decide), this, h018.2.1 18 (by decide)]; exact v3 i hi
  have f5 : ∀ t, t < 36 → σ4.2.1 5 t = σ.2.1 18 (64 * (d - 1) + 7 + t) := fun t ht => by
    have := p1 t ht
    rw [Nat.zero_add] at this
    rw [this, x3.2.1 18 (by decide), h018.2.1 18 (by decide)]
  have n19 : σ4.1 19 = nI (d - 1) := by rw [x4.1 19 (by decide), x3.1 19 (by decide), x18.1 19 (by decide)]; exact m19
  have n8 : σ4.1 8 = nI (x / 24) := by rw [x4.1 8 (by decide), x3.1 8 (by decide)]; exact m8
  refine ⟨n19.symm, h.r0 xx.y yy.y (by decide) ⟨h0.1.x xx.y (by decide), h0.2.1.x yy.y (by decide), ?_, d - 1, q', by omega, hq20, n19, k15, ?_, Or.inr ((xx.1 9 (by decide)).trans hth), fun j hj => ?_⟩⟩
  · obtain ⟨w1, w2, w3, w4, w5⟩ := h0.2.2.1
    unfold RW
    rw [xx.1 9 (by decide), xx.1 6 (by decide), yy.1 10 (by decide), xx.2.1 4 (by decide), yy.2.1 14 (by decide)]
    refine ⟨w1, w2, fun i hi => ?_, w4, Or.inr ⟨hth, x, v1, n8, f10, by rw [k8]; exact v4⟩⟩
    rw [f5 i hi, k16 i hi]
    exact v5 i hi
  · rw [y8.1 14 (by decide), y7.1 14 (by decide), y6.1 14 (by decide)]; exact k14
  · obtain ⟨x', u1, u2, u3, u4, u5⟩ := d5 j (by omega)
    refine ⟨x', u1, ?_, fun i hi => ?_, ?_, fun t ht => ?_⟩
    · rw [xx.2.1 18 (by decide)]; exact u2
    · rw [xx.2.1 18 (by decide)]; exact u3 i hi
    · rw [yy.2.1 26 (by decide), show (q' + 20 - (d - 1) + j) % 20 = (nx + 20 - d + j) % 20 from by omega]; exact u4
    · rw [xx.2.1 18 (by decide), yy.2.1 27 (by decide), show (q' + 20 - (d - 1) + j) % 20 = (nx + 20 - d + j) % 20 from by omega]; exact u5 t ht
end CJ
