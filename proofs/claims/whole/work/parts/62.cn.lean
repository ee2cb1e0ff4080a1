/-! call: lots -/
def zs_wy (z : Int32) : Nat := (z &&& 2147483647).toNatClampNeg / 256 % 4
theorem zs_wy_eq (z : Int32) : ((z &&& 2147483647) / 256) - ((z &&& 2147483647) / 256) / 4 * 4 = nI (zs_wy z) := by
  obtain ⟨j, hj, e⟩ := pk_andE z (m := 2147483647) 31 (by decide)
  unfold zs_wy
  have hj : j < 2 ^ 31 := hj
  have hd : j / 256 ≤ j := Nat.div_le_self _ _
  rw [e, nI_clamp hj, show nI j / 256 = nI (j / 256) from pk_div (d := 256) hj (by decide) (by decide)]
  exact pk_rem (d := 4) (by omega) (by decide) (by decide)
theorem zs_wy_lt (z : Int32) : zs_wy z < 4 := Nat.mod_lt _ (by decide)
def zs_lot1 (st : Nat → Nat → Option Nat) (q : Int32 × Nat × Nat) : Int32 × Nat × Nat := match st q.2.1 (zs_wy (q.1 * 1664525 + 1013904223)) with
  | some y => (q.1 * 1664525 + 1013904223, y, q.2.2 + 1)
  | none => (q.1 * 1664525 + 1013904223, q.2.1, q.2.2)
def zs_lot (st : Nat → Nat → Option Nat) (x : Nat) (z : Int32) : Nat → Int32 × Nat × Nat
  | 0 => (z, x, 0)
  | n + 1 => zs_lot1 st (zs_lot st x z n)
section CN
variable {σ τ : zz_St} {r c k : Nat}
theorem e7_lots_76 {Q : Int32 → zz_St → Prop} {x n : Nat} {z w : Int32} (hB : CB τ r c k (τ.2.1 14) (τ.2.1 16)) (hT : CT τ) (hd : zs_dim r c k) (hV : zs_V r c k x) (hn : n < 2 ^ 30)
    (h : Q (if w = 0 then nI (zs_lot (zs_st r c k (τ.2.1 14) (τ.2.1 16)) x z n).2.2 else nI ((zs_lot (zs_st r c k (τ.2.1 14) (τ.2.1 16)) x z n).2.1 / 24)) τ) : zq7_lots_76 (nI n) w z (nI x) 0 0 τ Q := by
  unfold zq7_lots_76 zq7_lots_129
  generalize hst : zs_st r c k (τ.2.1 14) (τ.2.1 16) = st at *
  refine ⟨fun v4 v5 v6 v7 => ∃ i, i ≤ n ∧ v7 = nI i ∧ (v4 = (zs_lot st x z i).1 ∧ v5 = nI (zs_lot st x z i).2.1 ∧ v6 = nI (zs_lot st x z i).2.2 ∧ zs_V r c k (zs_lot st x z i).2.1), fun _ _ _ v7 => n - v7.toNatClampNeg, ⟨0, Nat.zero_le _, rfl, rfl, rfl, rfl, hV⟩, ?_⟩
  rintro v4 v5 v6 v7 ⟨i, hi, rfl, rfl, rfl, rfl, hVi⟩
  have hx := zs_V_lt hd hVi
  refine pk_le n i (fun q => ?_) (fun q x25 e25 => ?_)
  · have hin : i = n := by omega
    subst hin
    rw [zs_div24 (by omega)]
    refine ⟨fun y => ?_, fun y => ?_⟩
    · rw [if_neg y] at h; exact h
    · rw [if_pos y] at h; exact h
  · subst e25
    rw [zs_wy_eq]
    obtain ⟨hp, hss, _⟩ := zs_V_dm hd hVi
    have ci : (nI i).toNatClampNeg = i := nI_clamp (by omega)
    refine e6_rolledx hB hT hd (zs_wy_lt _) hss hp (fun y hy => ?_) (fun hn' => ?_)
    · have hVy := zs_st_V hVi (zs_wy_lt _) hy
      have hy17 := zs_V_lt hd hVy
      rw [hst] at hy
      have e : zs_lot st x z (i + 1) = ((zs_lot st x z i).1 * 1664525 + 1013904223, y, (zs_lot st x z i).2.2 + 1) := by
        show zs_lot1 st _ = _
        unfold zs_lot1
        rw [hy]
      exact zYf (nI_pos (by omega)) (zl_leaf0 (J := fun j => (zs_lot st x z i).1 * 1664525 + 1013904223 = (zs_lot st x z j).1 ∧ nI y = nI (zs_lot st x z j).2.1 ∧ nI (zs_lot st x z i).2.2 + 1 = nI (zs_lot st x z j).2.2 ∧ zs_V r c k (zs_lot st x z j).2.1) q (by omega) (by rw [e]; exact ⟨rfl, rfl, nI_1 _, hVy⟩))
    · rw [hst] at hn'
      have e : zs_lot st x z (i + 1) = ((zs_lot st x z i).1 * 1664525 + 1013904223, (zs_lot st x z i).2.1, (zs_lot st x z i).2.2) := by
        show zs_lot1 st _ = _
        unfold zs_lot1
        rw [hn']
      exact zYt (by decide) (zl_leaf0 (J := fun j => (zs_lot st x z i).1 * 1664525 + 1013904223 = (zs_lot st x z j).1 ∧ nI (zs_lot st x z i).2.1 = nI (zs_lot st x z j).2.1 ∧ nI (zs_lot st x z i).2.2 = nI (zs_lot st x z j).2.2 ∧ zs_V r c k (zs_lot st x z j).2.1) q (by omega) (by rw [e]; exact ⟨rfl, rfl, rfl, hVi⟩))
theorem e8_lots_69 {Q : Int32 → zz_St → Prop} {tl pr : Nat → Int32} {x0 x n : Nat} {z w : Int32} (hB : MB σ r c k tl pr) (hd : zs_dim r c k) (hpr : ∀ t, t < 36 → pr t = -1 ∨ 0 ≤ pr t) (hV : zs_V r c k x) (hF : MF σ (zs_te k) (x / 24) (x % 24)) (hK : MK σ 20 21 (zs_te k) (x0 / 24) (x0 % 24)) (hn : n < 2 ^ 30)
    (h : ∀ σ2, zx σ σ2 [8, 12] [10, 11, 13] → MF σ2 (zs_te k) (x0 / 24) (x0 % 24) → Q (if w = 0 then nI (zs_lot (zs_st r c k tl pr) x z n).2.2 else nI ((zs_lot (zs_st r c k tl pr) x z n).2.1 / 24)) σ2) : zq8_lots_69 (nI n) w z 0 0 σ Q := by
  unfold zq8_lots_69 zq8_lots_113
  generalize hst : zs_st r c k tl pr = st at *
  refine ⟨fun v4 v5 v6 σ2 => ∃ i, i ≤ n ∧ v6 = nI i ∧ (v4 = (zs_lot st x z i).1 ∧ v5 = nI (zs_lot st x z i).2.2 ∧ zx σ σ2 [8, 12] [10, 11, 13] ∧ MF σ2 (zs_te k) ((zs_lot st x z i).2.1 / 24) ((zs_lot st x z i).2.1 % 24) ∧ zs_V r c k (zs_lot st x z i).2.1), fun _ _ v6 _ => n - v6.toNatClampNeg, ⟨0, Nat.zero_le _, rfl, rfl, rfl, zx.rf, hF, hV⟩, ?_⟩
  rintro v4 v5 v6 σ2 ⟨i, hi, rfl, rfl, rfl, x2, F2, hVi⟩
  have hx := zs_V_lt hd hVi
  refine pk_le n i (fun q x26 e26 => ?_) (fun q x29 e29 => ?_)
  · have hin : i = n := by omega
    subst hin
    refine e8_lays1 (hK.x x2 (by decide)) (fun σ3 x3 F3 => ?_)
    have hq := h σ3 (x2.tr (x3.mono (by decide) (by decide))) F3
    rw [e26, F2.1]
    refine ⟨fun y => ?_, fun y => ?_⟩
    · rw [if_neg y] at hq; exact hq
    · rw [if_pos y] at hq; exact hq
  · subst e29
    rw [zs_wy_eq]
    obtain ⟨hp, hss, _⟩ := zs_V_dm hd hVi
    have hcode : 24 * ((zs_lot st x z i).2.1 / 24) + (zs_lot st x z i).2.1 % 24 = (zs_lot st x z i).2.1 := Nat.div_add_mod _ _
    have hs24 : (zs_lot st x z i).2.1 % 24 < 24 := Nat.mod_lt _ (by decide)
    refine e8_rolls (hB.x x2 (by decide)) hd hpr (zs_wy_lt _) F2 hp hss (fun pl2 s2 hroll σ3 x3 hF3 => ?_) (fun hroll σ3 x3 hF3 => ?_)
    · have hy := zs_st_some hs24 hroll
      rw [hcode] at hy
      have hVy := zs_st_V hVi (zs_wy_lt _) hy
      have hsl : s2 < 24 := Nat.lt_of_lt_of_le (zs_roll_ok hss (zs_wy_lt _) hroll).2.1 (zs_ns_le _)
      rw [hst] at hy
      have e : zs_lot st x z (i + 1) = ((zs_lot st x z i).1 * 1664525 + 1013904223, 24 * pl2 + s2, (zs_lot st x z i).2.2 + 1) := by
        show zs_lot1 st _ = _
        unfold zs_lot1
        rw [hy]
      refine zYf n10 (fun x24 e24 => zl_leaf (J := fun j σ2 => (zs_lot st x z i).1 * 1664525 + 1013904223 = (zs_lot st x z j).1 ∧ x24 = nI (zs_lot st x z j).2.2 ∧ zx σ σ2 [8, 12] [10, 11, 13] ∧ MF σ2 (zs_te k) ((zs_lot st x z j).2.1 / 24) ((zs_lot st x z j).2.1 % 24) ∧ zs_V r c k (zs_lot st x z j).2.1) q (by omega) ?_)
      rw [e]
      refine ⟨rfl, by rw [e24]; exact nI_1 _, x2.tr x3, ?_, hVy⟩
      show MF σ3 (zs_te k) ((24 * pl2 + s2) / 24) ((24 * pl2 + s2) % 24)
      rw [(zs_code_dm hsl).1, (zs_code_dm hsl).2]
      exact hF3
    · have hy := zs_st_none hs24 hroll
      rw [hcode] at hy
      rw [hst] at hy
      have e : zs_lot st x z (i + 1) = ((zs_lot st x z i).1 * 1664525 + 1013904223, (zs_lot st x z i).2.1, (zs_lot st x z i).2.2) := by
        show zs_lot1 st _ = _
        unfold zs_lot1
        rw [hy]
      refine zYt n00 (fun x24 e24 => zl_leaf (J := fun j σ2 => (zs_lot st x z i).1 * 1664525 + 1013904223 = (zs_lot st x z j).1 ∧ x24 = nI (zs_lot st x z j).2.2 ∧ zx σ σ2 [8, 12] [10, 11, 13] ∧ MF σ2 (zs_te k) ((zs_lot st x z j).2.1 / 24) ((zs_lot st x z j).2.1 % 24) ∧ zs_V r c k (zs_lot st x z j).2.1) q (by omega) ?_)
      rw [e]
      exact ⟨rfl, by rw [e24]; exact nI_add _ 0, x2.tr x3, hF3, hVi⟩
theorem R_lots (h : Rel σ τ) (v z w : Int32) : zq7_lots v z w τ (fun a τ' => zq8_lots v z w σ (fun b σ' => RQ τ' a b σ')) := by
  obtain ⟨⟨r, c, k, h0⟩, hE⟩ := id h
  have hT := h.ct
  have hd := h0.dim
  unfold zq7_lots zq8_lots zq7_lots_34
  refine ⟨fun q1 => ⟨fun q50 => ?_, fun q50 => ?_⟩, fun q1 => ?_⟩
  · obtain ⟨n, hn, rfl⟩ : ∃ n, n < 2 ^ 31 ∧ v = nI n := nI_of (fun u => Int32.not_lt.mpr q1 (Int32.lt_of_lt_of_le u (by decide)))
    have hn50 : n ≤ 50 := (nI_leI (b := 50) hn (by decide)).mp q50
    refine zn_le (n := 1) (by decide) (fun q => ?_) (fun q => ?_)
    · rcases h0.there with ⟨z1, z2⟩ | ⟨z1, x, hV, hF, z2⟩
      · exact e6_none0 z2 (zYf n10 (e7_refuse 3 (by decide) (by decide) (zYt q1 (zYt q50 (e8_in2 (fun _ => zNf n10 (zNt z1 (RQ.no8 h 3 (by decide) (by decide) (by decide)))) (fun u => absurd q u))))))
      · have hx := zs_V_lt hd hV
        have th : ¬ σ.1 9 = 0 := by rw [z1]; decide
        refine e6_none1 (by omega) z2 (zYt n00 (fun x34 e34 => ?_))
        rw [e34, z2]
        refine e7_lots_76 h0.cb hT hd hV (by omega) ?_
        refine zYt q1 (zYt q50 (e8_in2 (fun _ => zNf n10 (zNf th (e8_keeps1 hF (fun g xg hK => e8_lots_69 (x0 := x) (h0.mb.x xg (by decide)) hd h0.pr hV (hF.x xg (by decide)) hK (by omega) (fun σ2 x2 F2 => ⟨?_, ?_⟩))))) (fun u => absurd q u)))
        · rw [h0.st]
        · have y2 : zx σ σ2 [8, 12, 20] [10, 11, 13, 21] := (xg.mono (by decide) (by decide)).tr (x2.mono (by decide) (by decide))
          exact h.r0 y2.y zy.rf (ks' := []) (js' := []) (by decide) (h0.mv z1 hV y2.y zy.rf (ks' := []) (js' := []) (by decide) F2 z2)
    · exact e7_refuse 2 (by decide) (by decide) (zYt q1 (zYt q50 (e8_in2 (fun u => absurd u q) (fun _ => zNt n00 (RQ.no8 h 2 (by decide) (by decide) (by decide))))))
  · exact e7_refuse 6 (by decide) (by decide) (zYt q1 (zYf q50 (RQ.no8 h 6 (by decide) (by decide) (by decide))))
  · exact e7_refuse 4 (by decide) (by decide) (zYf q1 (RQ.no8 h 4 (by decide) (by decide) (by decide)))
end CN
