/-! calls: solid, count -/
theorem e8_inx {x : Int32} {lo hi : Nat} (hl : lo < 2 ^ 31) (hh : hi + 1 < 2 ^ 31) {Q : Int32 → Prop} (h1 : ∀ n, lo ≤ n → n ≤ hi → x = nI n → Q 1) (h0 : (¬ ∃ n, lo ≤ n ∧ n ≤ hi ∧ x = nI n) → Q 0) : zq8_in x.toInt64 (lN lo) (lN hi) Q := by
  refine e8_in (fun q => ?_) (fun q => h0 ?_)
  · rcases pk_ix x (n := hi + 1) (by omega) with z | z | ⟨n, hn, e⟩
    · exfalso
      have h2 := Int64.le_iff_toInt_le.mp q.1
      rw [Int32.toInt_toInt64, lN_toInt hl] at h2
      have h3 := Int32.lt_iff_toInt_lt.mp z
      rw [show (0 : Int32).toInt = 0 from by decide] at h3
      omega
    · exfalso
      have h2 := Int64.le_iff_toInt_le.mp q.2
      rw [Int32.toInt_toInt64, lN_toInt (by omega)] at h2
      have h3 := Int32.le_iff_toInt_le.mp z
      rw [nI_toInt hh] at h3
      omega
    · subst e
      rw [nI_l (by omega)] at q
      exact h1 n ((lN_le hl (by omega)).mp q.1) (by omega) rfl
  · rintro ⟨n, a, b, rfl⟩
    rw [nI_l (by omega)] at q
    exact q ⟨(lN_le hl (by omega)).mpr a, (lN_le (by omega) (by omega)).mpr b⟩
section CE
variable {σ τ : zz_St}
theorem R_count (h : Rel σ τ) (v : Int32) : zq7_count v τ (fun a => zq8_count v σ (fun b => a = b)) := by
  obtain ⟨⟨r, c, k, h0⟩, ⟨n, hn, h15, h12, _⟩, _, _, hF, _⟩ := id h
  have hd := h0.dim
  have hrc := zs_rc hd.2.1 hd.2.2.2.1
  obtain ⟨d, nx, _, _, d1, d2, _⟩ := h0.2.2.2
  have hcnt : ∀ w : Int32, zcnt (fun i => decide (τ.2.1 14 i = w)) (r * c) = zcnt (fun i => decide (σ.2.1 4 i = w)) (r * c) := fun w => zcnt_congr _ (fun i hi => by rw [h0.2.2.1.2.1 i (by omega)])
  unfold zq7_count zq7_count_22 zq8_count
  by_cases e0 : v = 0
  · subst e0
    exact zYt (by decide) (zYt rfl (zYt rfl (by rw [h0.1.1, h0.2.1.1])))
  by_cases e1 : v = 1
  · subst e1
    exact zYt (by decide) (zYf (by decide) (zYt rfl (zYf (by decide) (zYt rfl (by rw [h0.1.2.1, h0.2.1.2.1])))))
  by_cases e2 : v = 2
  · subst e2
    exact zYt (by decide) (zYf (by decide) (zYf (by decide) (zYt rfl (e6_countTiles h0.2.1 hd ((zYf (by decide) (zYf (by decide) (zYt rfl (e8_tilesThatAre h0.mb hd (by rw [hcnt]))))))))))
  by_cases e3 : v = 3
  · subst e3
    exact zYt (by decide) (zYf (by decide) (zYf (by decide) (zYf (by decide) (zYt rfl (e6_countTiles h0.2.1 hd ((zYf (by decide) (zYf (by decide) (zYf (by decide) (zYt rfl (e8_tilesThatAre h0.mb hd (by rw [hcnt]))))))))))))
  by_cases e4 : v = 4
  · subst e4
    exact zYt (by decide) (zYf (by decide) (zYf (by decide) (zYf (by decide) (zYf (by decide) (zYt rfl (e6_countPrints h0.2.1 hd ((zYf (by decide) (zYf (by decide) (zYf (by decide) (zYf (by decide) (zYt rfl (e8_printed h0.mb hd (by rw [h0.cnt]))))))))))))))
  by_cases e5 : v = 5
  · subst e5
    exact zYt (by decide) (zYf (by decide) (zYf (by decide) (zYf (by decide) (zYf (by decide) (zYf (by decide) (zYt rfl (zYf (by decide) (zYf (by decide) (zYf (by decide) (zYf (by decide) (zYf (by decide) (zYt rfl (h0.2.2.1.2.2.2.1.symm)))))))))))))
  by_cases e6 : v = 6
  · subst e6
    exact zYt (by decide) (zYf (by decide) (zYf (by decide) (zYf (by decide) (zYf (by decide) (zYf (by decide) (zYf (by decide) (zYt rfl (zYf (by decide) (zYf (by decide) (zYf (by decide) (zYf (by decide) (zYf (by decide) (zYf (by decide) (zYt rfl (by rw [h12, h15])))))))))))))))
  by_cases e7 : v = 7
  · subst e7
    exact zYt (by decide) (zYf (by decide) (zYf (by decide) (zYf (by decide) (zYf (by decide) (zYf (by decide) (zYf (by decide) (zYf (by decide) (zYt rfl (zYf (by decide) (zYf (by decide) (zYf (by decide) (zYf (by decide) (zYf (by decide) (zYf (by decide) (zYf (by decide) (zYt rfl (by rw [d1, d2])))))))))))))))))
  by_cases e8 : v = 8
  · subst e8
    exact zYt (by decide) (zYf (by decide) (zYf (by decide) (zYf (by decide) (zYf (by decide) (zYf (by decide) (zYf (by decide) (zYf (by decide) (zYf (by decide) (zYt rfl (zYf (by decide) (zYf (by decide) (zYf (by decide) (zYf (by decide) (zYf (by decide) (zYf (by decide) (zYf (by decide) (zYf (by decide) (zYt rfl (by rw [h0.1.2.2, h0.2.1.2.2])))))))))))))))))))
  have M : ∀ a : Int32, (∀ n, 11 ≤ n → n ≤ 16 → v = nI n → a = σ.2.1 1 (n - 10)) → ((¬ ∃ n, 11 ≤ n ∧ n ≤ 16 ∧ v = nI n) → a = -9) → zq8_in (v.toInt64) (11 : Int64) (16 : Int64) (fun r9 => ((r9 = 0) → a = (-9 : Int32)) ∧ (¬ (r9 = 0) → vp_in (v - (10 : Int32)) 7 ∧ a = σ.2.1 1 (v - (10 : Int32)).toNatClampNeg)) := by
    intro a m1 m0
    refine e8_inx (lo := 11) (hi := 16) (by decide) (by decide) (fun n ha hb e => zYf n10 ?_) (fun z => zYt n00 (m0 z))
    have e2 : v - 10 = nI (n - 10) := by rw [e]; exact pk_sub (b := 10) (by omega)
    rw [e2, nI_clamp (by omega)]
    exact ⟨vp_in_nI (by omega) (by decide), m1 n ha hb e⟩
  have C : (¬ ∃ n, 11 ≤ n ∧ n ≤ 16 ∧ v = nI n) → zq8_in (v.toInt64) (11 : Int64) (16 : Int64) (fun r9 => ((r9 = 0) → (-9 : Int32) = (-9 : Int32)) ∧ (¬ (r9 = 0) → vp_in (v - (10 : Int32)) 7 ∧ (-9 : Int32) = σ.2.1 1 (v - (10 : Int32)).toNatClampNeg)) := fun z => M (-9) (fun n a b e => absurd ⟨n, a, b, e⟩ z) (fun _ => rfl)
  refine ⟨fun q => (zYf e0 (zYf e1 (zYf e2 (zYf e3 (zYf e4 (zYf e5 (zYf e6 (zYf e7 (zYf e8 ((zYf e0 (zYf e1 (zYf e2 (zYf e3 (zYf e4 (zYf e5 (zYf e6 (zYf e7 (zYf e8 (C ?_)))))))))))))))))))), fun q => ⟨fun q2 => (zYf e0 (zYf e1 (zYf e2 (zYf e3 (zYf e4 (zYf e5 (zYf e6 (zYf e7 (zYf e8 ((zYf e0 (zYf e1 (zYf e2 (zYf e3 (zYf e4 (zYf e5 (zYf e6 (zYf e7 (zYf e8 (C ?_)))))))))))))))))))), fun q2 => ?_⟩⟩
  · rintro ⟨n, a, b, rfl⟩
    exact absurd q (nI_nlt (a := n) (b := 11) a (by omega))
  · rintro ⟨n, a, b, rfl⟩
    exact absurd q2 (nI_nlt (a := 16) (b := n) b (by decide))
  · obtain ⟨n, hn, rfl⟩ : ∃ n, n < 2 ^ 31 ∧ v = nI n := nI_of (fun z => q (Int32.lt_of_lt_of_le z (by decide : (0 : Int32) ≤ 11)))
    have ha : 11 ≤ n := by
      rcases Nat.lt_or_ge n 11 with z | z
      · exact absurd (nI_lt (b := 11) z (by decide)) q
      · exact z
    have hb : n ≤ 16 := by
      rcases Nat.lt_or_ge 16 n with z | z
      · exact absurd (nI_lt (a := 16) z hn) q2
      · exact z
    have ex : nI n - 10 = nI (n - 10) := pk_sub (b := 10) (by omega)
    refine ⟨by rw [ex]; exact vp_in_nI (by omega) (by decide), ?_⟩
    refine (zYf e0 (zYf e1 (zYf e2 (zYf e3 (zYf e4 (zYf e5 (zYf e6 (zYf e7 (zYf e8 (M _ (fun n2 a b e => ?_) (fun z => absurd ⟨n, ha, hb, rfl⟩ z)))))))))))
    have : n = n2 := (nI_eq hn (by omega)).mp e
    subst this
    rw [ex, nI_clamp (by omega)]
    exact (hF _ (by omega)).symm
end CE
