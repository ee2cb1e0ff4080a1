/-! call: paint, both sides -/
section SG
variable {σ τ : zz_St}
theorem R_paint (h : Rel σ τ) (v f : Int32) : zq7_paint v f τ (fun a τ' => zq8_paint v f σ (fun b σ' => RQ τ' a b σ')) := by
  obtain ⟨⟨r, c, k, h0⟩, hE⟩ := id h
  have hT := h.ct
  have hd := h0.dim
  have hrc := zs_rc hd.2.1 hd.2.2.2.1
  unfold zq7_paint zq8_paint zq7_paint_19 zq8_paint_16
  refine e6_hasTile h0.2.1 hd (fun q => zYf n10 ?_) (fun q => zYt rfl (e7_refuse 1 (by decide) (by decide) (e8_isTile h0.mb hd (fun u => absurd u q) (fun _ => zYt rfl (RQ.no8 h 1 (by decide) (by decide) (by decide))))))
  refine e7_isFace h0.2.1 hT hd (fun qf => zNf n10 ?_) (fun qf => zNt rfl (e7_refuse 1 (by decide) (by decide) (e8_isTile h0.mb hd (fun _ => zYf n10 (e8_isFace h0.mb hd (fun u => absurd u qf) (fun _ => zNt rfl (RQ.no8 h 1 (by decide) (by decide) (by decide))))) (fun u => absurd q u))))
  rcases h0.there with ⟨z1, z2⟩ | ⟨z1, x, hV, hF, z2⟩
  · exact e6_none0 z2 (zYf n10 (e7_refuse 3 (by decide) (by decide) (e8_isTile h0.mb hd (fun _ => zYf n10 (e8_isFace h0.mb hd (fun _ => zNf n10 (zNt z1 (RQ.no8 h 3 (by decide) (by decide) (by decide)))) (fun u => absurd qf u))) (fun u => absurd q u))))
  · have hx := zs_V_lt hd hV
    have th : ¬ σ.1 9 = 0 := by rw [z1]; decide
    obtain ⟨t, ht, rfl⟩ := vp_in_of q (by omega)
    have ct : (nI t).toNatClampNeg = t := nI_clamp (by omega)
    have v36 : vp_in (nI t) 36 := vp_in_nI (by omega) (by decide)
    have ep := (h0.2.2.1.2.2.1 t (by omega)).1
    have est : zs_st r c k (τ.2.1 14) (τ.2.1 16) = zs_st r c k (σ.2.1 4) (σ.2.1 5) := h0.st
    have ebf : bfx r c k (τ.2.1 14) (τ.2.1 16) x = bfx r c k (σ.2.1 4) (σ.2.1 5) x := by unfold bfx; rw [h0.st]
    have hlen := bfx_len (tl := σ.2.1 4) (pr := σ.2.1 5) hd hV
    have N : ∀ {Q : Int32 → zz_St → Prop}, (σ.2.1 5 t = f → Q 0 σ) → (¬ σ.2.1 5 t = f → zq8_goesThrough σ (fun g39 => zq8_paints (0 : Int32) (nI t) f g39 (fun r40 g41 => ((r40 = 0) → zq8_paint_70 (nI t) f (-1 : Int32) g41 Q) ∧ (¬ (r40 = 0) → zq8_paint_70 (nI t) f (g41.1 28) g41 Q)))) → zq8_isTile (nI t) σ (fun r33 => ((r33 = 0) → zq8_no (-1 : Int32) σ (fun r23 g24 => Q r23 g24)) ∧ (¬ (r33 = 0) → zq8_isFace f σ (fun r35 => ((¬ r35 = 0) → ((¬ ((σ).1 9) = 0) → vp_in (nI t) 36 ∧ ((¬ ((σ).2.1 5 (nI t).toNatClampNeg) = f) → zq8_goesThrough σ (fun g39 => zq8_paints (0 : Int32) (nI t) f g39 (fun r40 g41 => ((r40 = 0) → zq8_paint_70 (nI t) f (-1 : Int32) g41 Q) ∧ (¬ (r40 = 0) → zq8_paint_70 (nI t) f (g41.1 28) g41 Q)))) ∧ (((σ).2.1 5 (nI t).toNatClampNeg) = f → Q (0 : Int32) σ)) ∧ (((σ).1 9) = 0 → zq8_no (-3 : Int32) σ (fun r43 g44 => Q r43 g44))) ∧ (r35 = 0 → zq8_no (-1 : Int32) σ (fun r23 g24 => Q r23 g24))))) := by
      intro Q n0 n1
      refine e8_isTile h0.mb hd (fun _ => zYf n10 (e8_isFace h0.mb hd (fun _ => zNf n10 (zNf th ⟨v36, ?_⟩)) (fun u => absurd qf u))) (fun u => absurd q u)
      rw [ct]
      exact ⟨n1, n0⟩
    refine e6_none1 (by omega) z2 (zYt rfl ⟨v36, fun y => ?_, fun y => N (fun _ => ⟨rfl, h⟩) (fun u => absurd (ep.trans (by rw [ct] at y; exact y)) u)⟩)
    rw [ct] at y
    have M : ∀ τ2, zx τ τ2 [13] [19, 20, 21, 22] → ∀ a, (∀ ret, ((ret = -1 ∧ ∀ m, m < 4 * (bfx r c k (σ.2.1 4) (σ.2.1 5) x).length → ∀ e, (bfx r c k (σ.2.1 4) (σ.2.1 5) x)[m / 4]? = some e → ¬ zs_st r c k (σ.2.1 4) (σ.2.1 5) e.1 (m % 4) = some x) ∨ ∃ m e, m < 4 * (bfx r c k (σ.2.1 4) (σ.2.1 5) x).length ∧ (bfx r c k (σ.2.1 4) (σ.2.1 5) x)[m / 4]? = some e ∧ zs_st r c k (σ.2.1 4) (σ.2.1 5) e.1 (m % 4) = some x ∧ ret = nI (e.2.2 + 1) ∧ ∀ m', m' < m → ∀ e', (bfx r c k (σ.2.1 4) (σ.2.1 5) x)[m' / 4]? = some e' → ¬ zs_st r c k (σ.2.1 4) (σ.2.1 5) e'.1 (m' % 4) = some x) → (∃ b, a = nI b ∧ b < 2000 ∧ PC c k t f (zs_st r c k (σ.2.1 4) (σ.2.1 5)) x (bfx r c k (σ.2.1 4) (σ.2.1 5) x) ret (bfx r c k (σ.2.1 4) (σ.2.1 5) x).length b ∧ ∀ b', b' < 2000 → PC c k t f (zs_st r c k (σ.2.1 4) (σ.2.1 5)) x (bfx r c k (σ.2.1 4) (σ.2.1 5) x) ret (bfx r c k (σ.2.1 4) (σ.2.1 5) x).length b' → b ≤ b') ∨ (a = -9 ∧ ¬ ∃ b, PC c k t f (zs_st r c k (σ.2.1 4) (σ.2.1 5)) x (bfx r c k (σ.2.1 4) (σ.2.1 5) x) ret (bfx r c k (σ.2.1 4) (σ.2.1 5) x).length b)) → zq8_goesThrough σ (fun g39 => zq8_paints (0 : Int32) (nI t) f g39 (fun r40 g41 => ((r40 = 0) → zq8_paint_70 (nI t) f (-1 : Int32) g41 (fun b σ' => RQ τ2 a b σ')) ∧ (¬ (r40 = 0) → zq8_paint_70 (nI t) f (g41.1 28) g41 (fun b σ' => RQ τ2 a b σ')))) := by
      intro τ2 y2 a ha
      refine e8_goesThrough h0.mb hd h0.pr hV hF (fun σ2 x2 F2 hG => ?_)
      have ha := ha (σ2.1 28) hG.2.2
      have hMR := hG.2.2
      unfold MR at hMR
      have hL2 := hG.1
      have hl0 : (bfx r c k (σ.2.1 4) (σ.2.1 5) x)[0]? = some (x, 0, 0) := bf_0 _
      have hlpos : 0 < (bfx r c k (σ.2.1 4) (σ.2.1 5) x).length := bf_pos _
      have hfar : ∀ (i : Nat) (e : Nat × Nat × Nat), (bfx r c k (σ.2.1 4) (σ.2.1 5) x)[i]? = some e → e.2.2 ≤ i := fun i e he => bf_far_le _ i e he
      have hVl : ∀ (i : Nat) (e : Nat × Nat × Nat), (bfx r c k (σ.2.1 4) (σ.2.1 5) x)[i]? = some e → zs_V r c k e.1 := fun i e he => bfx_V hV he
      generalize bfx r c k (σ.2.1 4) (σ.2.1 5) x = l at *
      have go : ∀ v0 σ3, zx σ2 σ3 [8, 12, 31] [10, 11, 32] → MF σ3 (zs_te k) (x / 24) (x % 24) → ((v0 = -1 ∧ ¬ ∃ b, PC c k t f (zs_st r c k (σ.2.1 4) (σ.2.1 5)) x l (σ2.1 28) 1 b) ∨ ∃ b, b < 2000 ∧ v0 = nI b ∧ PC c k t f (zs_st r c k (σ.2.1 4) (σ.2.1 5)) x l (σ2.1 28) 1 b ∧ ∀ b', b' < 2000 → PC c k t f (zs_st r c k (σ.2.1 4) (σ.2.1 5)) x l (σ2.1 28) 1 b' → b ≤ b') → zq8_paint_70 (nI t) f v0 σ3 (fun b σ' => RQ τ2 a b σ') := by
        intro v0 σ3 x3 F3 hv0
        have x23 := (x2.mono (ks' := [8, 12, 20, 27, 28, 31]) (js' := [10, 11, 13, 21, 22, 23, 24, 25, 26, 29, 30, 32, 33]) (by decide) (by decide)).tr (x3.mono (by decide) (by decide))
        have rel : ∀ σ4, zx σ3 σ4 [8, 12, 31] [10, 11, 32] → MF σ4 (zs_te k) (x / 24) (x % 24) → Rel σ4 τ2 := fun σ4 x4 F4 => h.sr h0 z1 hV z2 (x23.tr (x4.mono (by decide) (by decide))).y (y2.mono (by decide) (by decide)).y F4
        refine e8_paint_74 (h0.mb.x x23 (by decide)) hd F3 (hL2.x x3 (by decide)) hlen hlpos hVl hfar (by omega) hv0 (fun b σ4 x4 F4 b1 b2 b3 => ⟨?_, rel σ4 x4 F4⟩) (fun σ4 x4 F4 b2 => ⟨?_, rel σ4 x4 F4⟩)
        · rcases ha with ⟨b', e1, e2, e3, e4⟩ | ⟨_, e2⟩
          · rw [e1, Nat.le_antisymm (e4 b b1 b2) (b3 b' e2 e3)]
          · exact absurd ⟨b, b2⟩ e2
        · rcases ha with ⟨b', e1, e2, e3, e4⟩ | ⟨e1, _⟩
          · exact absurd ⟨b', e3⟩ b2
          · exact e1
      refine e8_paints (s := 0) (h0.mb.x x2 (by decide)) hd F2 hL2 (by decide) hl0 hV (by omega) (fun g σ3 x3 F3 => zYf n10 (go _ σ3 x3 F3 ?_)) (fun g σ3 x3 F3 => zYt rfl (go _ σ3 x3 F3 (Or.inl ⟨rfl, ?_⟩)))
      · rw [x3.1 28 (by decide)]
        rcases hMR with ⟨b1, b2⟩ | ⟨m, e, b1, b2, b3, b4, b5⟩
        · refine Or.inl ⟨b1, ?_⟩
          rintro ⟨b, ⟨_, a2, a3⟩ | ⟨j, e, a1, a2, _⟩⟩
          · rw [b1] at a2
            exact zn_nm1 (by omega) a2.symm
          · omega
        · have := hfar _ e b2
          refine Or.inr ⟨e.2.2 + 1, by omega, b4, Or.inl ⟨g, b4, by omega⟩, ?_⟩
          rintro b' hb' (⟨_, a2, _⟩ | ⟨j, e, a1, a2, _⟩)
          · have := (nI_eq (by omega) (by omega)).mp (a2.symm.trans b4)
            omega
          · omega
      · rintro ⟨b, ⟨a1, _⟩ | ⟨j, e, a1, a2, _⟩⟩
        · exact g a1
        · omega
    have far : ∀ (i : Nat) (e : Nat × Nat × Nat), (bfx r c k (σ.2.1 4) (σ.2.1 5) x)[i]? = some e → e.2.2 ≤ i ∧ i < 864 := fun i e he => ⟨bf_far_le _ i e he, by have := (List.getElem?_eq_some_iff.mp he).1; omega⟩
    refine e4_paint h0.cb hT hd hV z2 (by omega) (fun m e τ2 y2 hp hn => ?_) (fun τ2 y2 hn => ?_)
    · rw [ebf, est] at hp hn
      have hfe := far _ e hp.1
      refine N (fun u => absurd (ep.symm.trans u) y) (fun _ => M τ2 y2 _ (fun ret hR => Or.inl ⟨e.2.2 + 1, rfl, by omega, ?_⟩))
      exact (paint_eq rfl hd hV hR).1 m e hp hn
    · rw [ebf, est] at hn
      exact N (fun u => absurd (ep.symm.trans u) y) (fun _ => M τ2 y2 _ (fun ret hR => Or.inr ⟨rfl, (paint_eq rfl hd hV hR).2 hn⟩))
end SG
