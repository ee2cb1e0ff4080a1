/-! call: likely -/
theorem zC_V {st : Nat → Nat → Option Nat} {x0 X : Nat} (V : Nat → Prop) (h0 : V x0) (hs : ∀ x w y, V x → w < 4 → st x w = some y → V y) : ∀ n x, ¬ zC st x0 X n x = 0 → V x := by
  intro n
  induction n with
  | zero =>
    intro x hx
    by_cases z : x = x0
    · rw [z]; exact h0
    · exact absurd (if_neg z) hx
  | succ n ih =>
    intro x hx
    refine Classical.byContradiction (fun hno => hx ?_)
    show zsm (fun m => if x = tgc st m then zC st x0 X n (m / 4) else 0) (4 * X) = 0
    refine zsm_0 _ (fun m _ => ?_)
    by_cases z : x = tgc st m
    · rw [if_pos z]
      refine Classical.byContradiction (fun hm => hno ?_)
      have hV := ih _ hm
      rw [z]
      unfold tgc
      cases hst : st (m / 4) (m % 4) with
      | none => exact hV
      | some y => exact hs _ _ y hV (by omega) hst
    · rw [if_neg z]
theorem zE_le {st : Nat → Nat → Option Nat} {x0 p n : Nat} (hp : p < 72) : zsm (fun s => zC st x0 1728 n (24 * p + s)) 24 ≤ 4 ^ n := by
  have hs := zC_sum (st := st) (X := 1728) (x0 := x0) n
  generalize hX : (1728 : Nat) = X at *
  have e1 : zsm (fun x => if x / 24 = p then zC st x0 X n x else 0) X = zsm (fun s => zC st x0 X n (24 * p + s)) 24 := by
    obtain ⟨r, hr⟩ : ∃ r, X = 24 * p + (24 + r) := ⟨X - 24 * p - 24, by omega⟩
    rw [hr, zsm_app, zsm_app, ← hr, zsm_0 (24 * p) (fun i hi => if_neg (by omega)), zsm_0 r (fun i _ => if_neg (by omega)), Nat.zero_add, Nat.add_zero]
    exact zsm_congr 24 (fun s hs => if_pos (by omega))
  rw [← e1]
  refine Nat.le_trans (zsm_le X (fun x _ => ?_)) hs
  split <;> omega
theorem zq_l.y {σ σ' : zz_St} (h : zq_l σ σ') : zy σ σ' [] [] := ⟨fun k _ => congrFun h.1 k, fun j _ => congrFun h.2 j⟩
section SQ
variable {σ τ : zz_St}
/-- what the list tells the sums -/
theorem zl_cd0 {r c k x0 : Nat} {te : Bool} {l : List (Nat × Nat × Nat)} {st : Nat → Nat → Option Nat} (hd : zs_dim r c k) (hL : ML σ te l) (hN : MN σ st l (4 * l.length)) (hlen : l.length ≤ 864) (hVl : ∀ (i : Nat) (e : Nat × Nat × Nat), l[i]? = some e → zs_V r c k e.1) (h0 : l[0]? = some (x0, 0, 0)) (hpos : 0 < l.length) (hnd : ∀ (i j : Nat) (e f : Nat × Nat × Nat), l[i]? = some e → l[j]? = some f → e.1 = f.1 → i = j) :
    ∃ cd : Nat → Nat, (∀ i j, i < l.length → j < l.length → cd i = cd j → i = j) ∧ (∀ i, i < l.length → cd i < 1728) ∧ cd 0 = x0 ∧ 0 < l.length ∧ TI st cd (zti σ) l.length ∧ ∀ i, i < l.length → cd i / 24 < 72 ∧ σ.2.1 23 i = nI (cd i / 24) := by
  obtain ⟨cd, hcd⟩ : ∃ cd : Nat → Nat, ∀ (i : Nat) (e : Nat × Nat × Nat), l[i]? = some e → cd i = e.1 := ⟨fun i => match l[i]? with
    | some e => e.1
    | none => 0, fun i e he => by dsimp only; rw [he]⟩
  have hg : ∀ i, i < l.length → ∃ e, l[i]? = some e ∧ cd i = e.1 := fun i hi => ⟨_, List.getElem?_eq_getElem hi, hcd i _ (List.getElem?_eq_getElem hi)⟩
  refine ⟨cd, fun i j hi hj e => ?_, fun i hi => ?_, hcd 0 _ h0, hpos, ?_, fun i hi => ?_⟩
  · obtain ⟨e1, a1, a2⟩ := hg i hi
    obtain ⟨e2, b1, b2⟩ := hg j hj
    exact hnd i j e1 e2 a1 b1 (by rw [← a2, ← b2, e])
  · obtain ⟨e1, a1, a2⟩ := hg i hi
    rw [a2]
    exact (zs_V_lt hd (hVl i e1 a1)).1
  · intro i hi w hw
    have hdiv : (4 * i + w) / 4 = i := by omega
    have hmod : (4 * i + w) % 4 = w := by omega
    obtain ⟨e1, a1, a2⟩ := hg i hi
    rw [a2]
    rcases hN (4 * i + w) (by omega) e1 (by rw [hdiv]; exact a1) with ⟨n1, n2⟩ | ⟨y, j, f, n1, n2, n3, n4⟩
    · rw [hmod] at n1
      refine Or.inl ⟨n1, ?_⟩
      unfold zti
      rw [n2, if_pos (by decide), hdiv]
    · rw [hmod] at n1
      have hj := (List.getElem?_eq_some_iff.mp n2).1
      refine Or.inr ⟨y, n1, ?_⟩
      unfold zti
      rw [n4, if_neg (nI_pos (by omega)), nI_clamp (by omega)]
      exact ⟨hj, by rw [hcd j f n2, n3]⟩
  · obtain ⟨e1, a1, a2⟩ := hg i hi
    rw [a2]
    exact ⟨(zs_V_lt hd (hVl i e1 a1)).2, (hL.2 i e1 a1).1⟩
theorem zl_cd {r c k x0 : Nat} {tl pr : Nat → Int32} (hd : zs_dim r c k) (hV : zs_V r c k x0) (hL : ML σ (zs_te k) (bfx r c k tl pr x0)) (hN : MN σ (zs_st r c k tl pr) (bfx r c k tl pr x0) (4 * (bfx r c k tl pr x0).length)) :
    ∃ cd : Nat → Nat, (∀ i j, i < (bfx r c k tl pr x0).length → j < (bfx r c k tl pr x0).length → cd i = cd j → i = j) ∧ (∀ i, i < (bfx r c k tl pr x0).length → cd i < 1728) ∧ cd 0 = x0 ∧ 0 < (bfx r c k tl pr x0).length ∧ TI (zs_st r c k tl pr) cd (zti σ) (bfx r c k tl pr x0).length ∧ ∀ i, i < (bfx r c k tl pr x0).length → cd i / 24 < 72 ∧ σ.2.1 23 i = nI (cd i / 24) :=
  zl_cd0 hd hL hN (bfx_len hd hV) (fun i e he => bfx_V hV he) (bf_0 3600) (bf_pos 3600) (fun i j e f h1 h2 => bf_nodup 3600 i j e f h1 h2)
theorem R_likely (h : Rel σ τ) (n p v : Int32) : zq7_likely n p v τ (fun a τ' => zq8_likely n p v σ (fun b σ' => RQl τ' a b σ')) := by
  obtain ⟨⟨r, c, k, h0⟩, hE⟩ := id h
  have hT := h.ct
  have hd := h0.dim
  have hrc := zs_rc hd.2.1 hd.2.2.2.1
  have hnp : zs_np r c k ≤ 72 := by unfold zs_np; split <;> omega
  unfold zq7_likely zq8_likely zq7_likely_57 zq7_refuseLong zq8_longNo
  rw [h0.cb.2.2.1]
  refine e6_hasPlace h0.2.1 hd hd.2.2.2.2 (fun q => zNf n10 ?_) (fun q => zNt rfl (e7_refuse 1 (by decide) (by decide) (e8_isPlace h0.mb hd (fun u => absurd u q) (fun _ => zNt rfl (e8_no 1 (by decide) (by decide) (by decide) ⟨rfl, h.no (by decide)⟩)))))
  refine ⟨fun n0 => ⟨fun n12 => ?_, fun n12 => ?_⟩, fun n0 => ?_⟩
  · refine zn_le (n := 1) (by decide) (fun qv => ?_) (fun qv => ?_)
    · rcases h0.there with ⟨z1, z2⟩ | ⟨z1, x, hV, hF, z2⟩
      · exact e6_none0 z2 (zYf n10 (e7_refuse 3 (by decide) (by decide) (e8_isPlace h0.mb hd (fun _ => zNf n10 ⟨fun _ => ⟨fun _ => e8_in2 (fun _ => zNf n10 (zNt z1 (e8_no 3 (by decide) (by decide) (by decide) ⟨rfl, h.no (by decide)⟩))) (fun u => absurd qv u), fun u => absurd n12 u⟩, fun u => absurd n0 u⟩) (fun u => absurd q u))))
      · have hx := zs_V_lt hd hV
        have th : ¬ σ.1 9 = 0 := by rw [z1]; decide
        obtain ⟨p', hp', rfl⟩ := vp_in_of q (by omega)
        obtain ⟨v', hv', rfl⟩ := vp_in_of qv (by omega)
        obtain ⟨n', hn', rfl⟩ := nI_of (Int32.not_lt.mpr n0)
        have hn : n' ≤ 12 := (nI_leI (b := 12) hn' (by decide)).mp n12
        have est : zs_st r c k (τ.2.1 14) (τ.2.1 16) = zs_st r c k (σ.2.1 4) (σ.2.1 5) := h0.st
        have hlen := bfx_len (tl := σ.2.1 4) (pr := σ.2.1 5) hd hV
        refine e6_none1 (by omega) z2 (zYt rfl ?_)
        refine e4_walksEndingAt h0.cb hT hd hV z2 hn (by omega) (fun n x hx => zC_V (zs_V r c k) hV (fun x w y a b c' => zs_st_V a b c') n x hx) (fun τ2 y2 => ?_)
        rw [est]
        refine e7_partInLeastTerms hn (zE_le (by omega)) hv' ?_
        refine e8_isPlace h0.mb hd (fun _ => zNf n10 ⟨fun _ => ⟨fun _ => e8_in2 (fun _ => zNf n10 (zNf th ?_)) (fun u => absurd qv u), fun u => absurd n12 u⟩, fun u => absurd n0 u⟩) (fun u => absurd q u)
        refine e8_goesThrough h0.mb hd h0.pr hV hF (fun σ2 x2 F2 hG => ?_)
        obtain ⟨cd, c1, c2, c3, c4, c5, c6⟩ := zl_cd hd hV hG.1 hG.2.1
        obtain ⟨eE, eL⟩ := zE_eq (p := p') (n := n') c1 c2 c3 c4 c5 (by omega)
        rw [eE] at eL ⊢
        refine e8_likely_76 (cd := cd) hn hv' (by omega) hlen hG.1.1 c6 (fun i hi w hw => (c5.lt hi hw).1) eL (fun σ3 x3 => ⟨rfl, ?_⟩)
        exact h.sr h0 z1 hV z2 ((x2.y.mono (by decide) (by decide)).tr (x3.y.mono (by decide) (by decide))) (y2.y.mono (by decide) (by decide)) (by unfold MF; rw [x3.1, x3.2]; exact F2)
    · exact e7_refuse 2 (by decide) (by decide) (e8_isPlace h0.mb hd (fun _ => zNf n10 ⟨fun _ => ⟨fun _ => e8_in2 (fun u => absurd u qv) (fun _ => zNt rfl (e8_no 2 (by decide) (by decide) (by decide) ⟨rfl, h.no (by decide)⟩)), fun u => absurd n12 u⟩, fun u => absurd n0 u⟩) (fun u => absurd q u))
  · exact e7_refuse 6 (by decide) (by decide) (e8_isPlace h0.mb hd (fun _ => zNf n10 ⟨fun _ => ⟨fun u => absurd u n12, fun _ => e8_no 6 (by decide) (by decide) (by decide) ⟨rfl, h.no (by decide)⟩⟩, fun u => absurd n0 u⟩) (fun u => absurd q u))
  · exact e7_refuse 4 (by decide) (by decide) (e8_isPlace h0.mb hd (fun _ => zNf n10 ⟨fun u => absurd u n0, fun _ => e8_no 4 (by decide) (by decide) (by decide) ⟨rfl, h.no (by decide)⟩⟩) (fun u => absurd q u))
end SQ
