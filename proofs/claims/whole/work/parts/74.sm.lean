theorem ZA_congr {N N' : Nat → Prop} (n : Nat) (h : ∀ t, t < n → (N t ↔ N' t)) : ∀ t, t ≤ n → ∀ a, ZA N t a → ZA N' t a := by
  intro t
  induction t with
  | zero => intro _ a h1; exact h1
  | succ t ih =>
    rintro ht a ⟨b, b1, b2⟩
    refine ⟨b, ih (by omega) b b1, ?_⟩
    rcases b2 with ⟨c1, c2⟩ | ⟨c1, c2⟩
    · exact Or.inl ⟨(h t (by omega)).mp c1, c2⟩
    · exact Or.inr ⟨fun z => c1 ((h t (by omega)).mpr z), c2⟩
section SM
variable {σ τ : zz_St}
theorem R_needed (h : Rel σ τ) (p : Int32) : zq7_needed p τ (fun a τ' => zq8_needed p σ (fun b σ' => RQl τ' a b σ')) := by
  obtain ⟨⟨r, c, k, h0⟩, hE⟩ := id h
  have hT := h.ct
  have hd := h0.dim
  have hrc := zs_rc hd.2.1 hd.2.2.2.1
  unfold zq7_needed zq8_needed zq7_refuseLong zq8_longNo
  rw [h0.cb.2.2.1]
  refine e6_hasPlace h0.2.1 hd hd.2.2.2.2 (fun q => zNf n10 ?_) (fun q => zNt rfl (e7_refuse 1 (by decide) (by decide) (e8_isPlace h0.mb hd (fun u => absurd u q) (fun _ => zNt rfl (e8_no 1 (by decide) (by decide) (by decide) ⟨rfl, h.no (by decide)⟩)))))
  rcases h0.there with ⟨z1, z2⟩ | ⟨z1, x, hV, hF, z2⟩
  · exact e6_none0 z2 (zYf n10 (e7_refuse 3 (by decide) (by decide) (e8_isPlace h0.mb hd (fun _ => zNf n10 (zNt z1 (e8_no 3 (by decide) (by decide) (by decide) ⟨rfl, h.no (by decide)⟩))) (fun u => absurd q u))))
  · have hx := zs_V_lt hd hV
    have th : ¬ σ.1 9 = 0 := by rw [z1]; decide
    have est : zs_st r c k (τ.2.1 14) (τ.2.1 16) = zs_st r c k (σ.2.1 4) (σ.2.1 5) := h0.st
    have ebf : bfx r c k (τ.2.1 14) (τ.2.1 16) x = bfx r c k (σ.2.1 4) (σ.2.1 5) x := by unfold bfx; rw [h0.st]
    have hlen := bfx_len (tl := σ.2.1 4) (pr := σ.2.1 5) hd hV
    have hVl : ∀ (i : Nat) (e : Nat × Nat × Nat), (bfx r c k (σ.2.1 4) (σ.2.1 5) x)[i]? = some e → zs_V r c k e.1 := fun i e he => bfx_V hV he
    have hfar : ∀ (i : Nat) (e : Nat × Nat × Nat), (bfx r c k (σ.2.1 4) (σ.2.1 5) x)[i]? = some e → e.2.2 ≤ 864 := fun i e he => by
      have := bf_far_le _ i e he
      have := (List.getElem?_eq_some_iff.mp he).1
      omega
    have eL : ∀ t, bfx r c k (upd (τ.2.1 14) t 1) (τ.2.1 16) x = bfx r c k (upd (σ.2.1 4) t 1) (σ.2.1 5) x := by
      intro t
      unfold bfx
      rw [zs_st_congr hd (fun i hi => ?_) (fun i hi => (h0.2.2.1.2.2.1 i hi).1.symm)]
      by_cases y : i = t
      · rw [y, pk_us, pk_us]
      · rw [pk_un y, pk_un y]; exact (h0.2.2.1.2.1 i hi).symm
    have M : ∀ τ2, zx τ τ2 [13] [19, 20, 21, 22] → ∀ a, (∀ g eg, FG k p (-1) (bfx r c k (σ.2.1 4) (σ.2.1 5) x) g eg → ZA (fun t => ¬ zs_un c k x t ∧ ¬ σ.2.1 4 t = 1 ∧ Later (bfx r c k (upd (σ.2.1 4) t 1) (σ.2.1 5) x) (zs_goal k p (-1)) eg.2.2) (r * c) a) → (NG k p (-1) (bfx r c k (σ.2.1 4) (σ.2.1 5) x) → a = 0) → zq8_isPlace p σ (fun r43 => ((¬ r43 = 0) → ((¬ ((σ).1 9) = 0) → zq8_goesThrough σ (fun g46 => zq8_soonestTo p (-1 : Int32) g46 (fun r47 g48 => zq8_needed_44 p r47 (0 : Int64) (0 : Int32) g48 (fun b σ' => RQl τ2 a b σ')))) ∧ (((σ).1 9) = 0 → zq8_no (-3 : Int32) σ (fun r1 g2 => RQl τ2 a ((4000000000000000000 : Int64) - (r1.toInt64)) g2))) ∧ (r43 = 0 → zq8_no (-1 : Int32) σ (fun r1 g2 => RQl τ2 a ((4000000000000000000 : Int64) - (r1.toInt64)) g2))) := by
      intro τ2 y2 a m1 m0
      refine e8_isPlace h0.mb hd (fun _ => zNf n10 (zNf th (e8_goesThrough h0.mb hd h0.pr hV hF (fun σ2 x2 F2 hG => ?_)))) (fun z => absurd q z)
      have rel : ∀ σ3, zx σ2 σ3 [8, 12, 20, 27, 28, 31] [10, 11, 13, 21, 22, 23, 24, 25, 26, 32] → MF σ3 (zs_te k) (x / 24) (x % 24) → Rel σ3 τ2 := fun σ3 x3 F3 => h.sr h0 z1 hV z2 ((x2.mono (by decide) (by decide)).tr (x3.mono (by decide) (by decide))).y (y2.mono (by decide) (by decide)).y F3
      refine e8_soonestTo (h0.mb.x x2 (by decide)) hd F2 hG.1 hlen hVl (Or.inl rfl) (fun g eg σ3 hFG x3 F3 => ?_) (fun σ3 hNG x3 F3 => e8_needed_none ((h0.mb.x x2 (by decide)).x x3 (by decide)) ⟨m0 hNG, rel σ3 (x3.mono (by decide) (by decide)) F3⟩)
      refine e8_needed_44 ((h0.mb.x x2 (by decide)).x x3 (by decide)) hd h0.pr hV F3 (hfar g eg hFG.1) (fun b σ4 x4 F4 hb => ⟨ZA_uni (r * c) (fun t _ => Iff.rfl) _ (Nat.le_refl _) a b (m1 g eg hFG) hb, rel σ4 ((x3.mono (by decide) (by decide)).tr x4) F4⟩)
    refine e6_none1 (by omega) z2 (zYt rfl ?_)
    unfold zq4_tilesNeeded
    refine e4_flood h0.cb hT hd hV z2 (fun i e n τ2 y2 hFG hn hC he => ?_) (fun τ2 y2 hC hNG => ?_)
    · rw [ebf] at hFG
      rw [est] at hC he
      have hVe := bfx_V hV hFG.1
      have he17 := zs_V_lt hd hVe
      have hfe := hfar i e hFG.1
      have ce : (nI e.1).toNatClampNeg = e.1 := nI_clamp (by omega)
      have hB2 := h0.cb.x y2 (by decide)
      have hT2 := hT.x y2 (by decide) (by decide)
      have h82 : τ2.1 8 = nI x := (y2.1 8 (by decide)).trans z2
      have hFX : FX (bfx r c k (σ.2.1 4) (σ.2.1 5) x) (zs_goal k p (-1)) e.2.2 i := ⟨e, hFG.1, hFG.2.1, rfl, hFG.2.2⟩
      refine zYt (nI_pos' (by omega)) ⟨vp_in_nI he17.1 (by decide), fun x25 e25 => ?_⟩
      rw [ce, (hC.2.1 i e he).2.1] at e25
      subst e25
      have hFXt : FX (bfx r c k (τ.2.1 14) (τ.2.1 16) x) (zs_goal k p (-1)) e.2.2 i := by rw [ebf]; exact hFX
      refine e4_tilesToward hB2 hT2 hd hV hC (fun i' e' h' => by rw [ebf]; exact bfx_pre n hn h') hfe hFXt he (fun Mk hM hbits => ?_)
      rw [h82]
      refine e6_tilesUnder hB2 hT2 hd hV (fun x28 e28 => ?_)
      obtain ⟨m, m1, m2, m3⟩ := zb_andn hM (zs_um_lt hd hV)
      rw [m2] at e28
      subst e28
      refine e4_tilesNeeded_49 (W := fun t => UW c k (bfx r c k (τ.2.1 14) (τ.2.1 16) x) i e.2.2 t ∧ ¬ zs_un c k x t) hB2 hT2 hd hV h82 hfe m1 (fun t ht => by rw [m3 t ht, hbits t, zs_um_bit]) (fun a τ3 y3 hz => ?_)
      refine M τ3 (y2.tr y3) a (fun g eg h' => ?_) (fun h' => (hFG.no h').elim)
      obtain ⟨u1, u2⟩ := hFG.uni h'
      subst u1
      subst u2
      have key : ∀ t, t < r * c → ((UW c k (bfx r c k (τ.2.1 14) (τ.2.1 16) x) i e.2.2 t ∧ ¬ zs_un c k x t) ∧ Later (bfx r c k (upd (τ.2.1 14) t 1) (τ.2.1 16) x) (zs_goal k p (-1)) e.2.2 ↔ ¬ zs_un c k x t ∧ ¬ σ.2.1 4 t = 1 ∧ Later (bfx r c k (upd (σ.2.1 4) t 1) (σ.2.1 5) x) (zs_goal k p (-1)) e.2.2) := by
        intro t ht
        rw [needed_eq hd hV hFXt, eL t, ← h0.2.2.1.2.1 t (by omega)]
      exact ZA_congr (r * c) key _ (Nat.le_refl _) a hz
    · rw [ebf] at hNG
      exact zYf (by decide) (M τ2 y2 _ (fun g eg h' => (h'.no hNG).elim) (fun _ => rfl))
end SM
