/-! call: paint -/
section BF3
variable {st : Nat → Nat → Option Nat} {x0 : Nat}
/-- the entries stand by how far they are -/
theorem bf_mono (n : Nat) : ∀ (j i : Nat) (e f : Nat × Nat × Nat), (bf st x0 n)[i]? = some e → (bf st x0 n)[j]? = some f → i ≤ j → e.2.2 ≤ f.2.2 := by
  intro j
  induction j using Nat.strongRecOn with
  | ind j ih =>
    intro i e f hi hj hij
    rcases Nat.eq_zero_or_pos i with q | q
    · rw [q, bf_0] at hi
      cases hi
      exact Nat.zero_le _
    · rcases Nat.lt_or_ge i j with z | z
      · have hb := bf_born n i j e f hi hj q z
        obtain ⟨a1, a2, a3, p, a4, a5, a6, a7⟩ := bf_ent n i e hi q
        obtain ⟨b1, b2, b3, p', b4, b5, b6, b7⟩ := bf_ent n j f hj (by omega)
        have := ih (f.2.1 / 4) b3 (e.2.1 / 4) p p' a4 b4 (Nat.div_le_div_right (Nat.le_of_lt hb))
        omega
      · have : i = j := by omega
        rw [this, hj] at hi
        cases hi
        exact Nat.le_refl _
end BF3
/-- what a roll must come to: a told face on a told tile -/
def PG (c k t : Nat) (f : Int32) (y : Nat) : Prop := nI (zs_bel (zs_te k) (y % 24)) = f ∧ zs_un c k y t
/-- step m of the list does it -/
def PH (c k t : Nat) (f : Int32) (st : Nat → Nat → Option Nat) (l : List (Nat × Nat × Nat)) (m : Nat) (e : Nat × Nat × Nat) : Prop := l[m / 4]? = some e ∧ ∃ y, st e.1 (m % 4) = some y ∧ PG c k t f y
/-- a number of rolls behind which it is done -/
def PC (c k t : Nat) (f : Int32) (st : Nat → Nat → Option Nat) (x0 : Nat) (l : List (Nat × Nat × Nat)) (ret : Int32) (s : Nat) (b : Nat) : Prop := (PG c k t f x0 ∧ ret = nI b ∧ b < 2000) ∨ ∃ j e, 1 ≤ j ∧ j < s ∧ l[j]? = some e ∧ PG c k t f e.1 ∧ b = e.2.2
section SF
variable {σ τ : zz_St} {r c k x0 : Nat} {tl pr : Nat → Int32}
theorem e4_paint {Q : Int32 → zz_St → Prop} {t : Nat} {f : Int32} (hB : CB τ r c k tl pr) (hT : CT τ) (hd : zs_dim r c k) (hV : zs_V r c k x0) (h8 : τ.1 8 = nI x0) (ht : t < 36)
    (h1 : ∀ m e τ2, zx τ τ2 [13] [19, 20, 21, 22] → PH c k t f (zs_st r c k tl pr) (bfx r c k tl pr x0) m e → (∀ m', m' < m → ∀ e', ¬ PH c k t f (zs_st r c k tl pr) (bfx r c k tl pr x0) m' e') → Q (nI (e.2.2 + 1)) τ2)
    (h0 : ∀ τ2, zx τ τ2 [13] [19, 20, 21, 22] → (∀ m e, ¬ PH c k t f (zs_st r c k tl pr) (bfx r c k tl pr x0) m e) → Q (-9) τ2) : zq4_rollsToPaint (nI t) f τ Q := by
  unfold zq4_rollsToPaint zq4_floodAll
  refine e4_all hB hT hd hV h8 (fun τ2 x2 hC => ?_)
  have hlen := bfx_len (tl := tl) (pr := pr) hd hV
  have hVl : ∀ (i : Nat) (e : Nat × Nat × Nat), (bfx r c k tl pr x0)[i]? = some e → zs_V r c k e.1 := fun i e he => bfx_V hV he
  generalize bfx r c k tl pr x0 = l at *
  have hB2 := hB.x x2 (by decide)
  have hT2 := hT.x x2 (by decide) (by decide)
  unfold zq4_rollsToPaint_8
  refine ⟨fun v => ∃ i, i ≤ l.length ∧ v = nI i ∧ ∀ m', m' < 4 * i → ∀ e', ¬ PH c k t f (zs_st r c k tl pr) l m' e', fun v => l.length - v.toNatClampNeg, ⟨0, Nat.zero_le _, rfl, fun m' hm' => absurd hm' (Nat.not_lt_zero m')⟩, ?_⟩
  rintro v ⟨i, hi, rfl, hno⟩
  rw [hC.1]
  refine pk_le l.length i (fun q => h0 τ2 x2 (fun m e hm => ?_)) (fun q => ?_)
  · have hml := (List.getElem?_eq_some_iff.mp hm.1).1
    exact hno m (by omega) e hm
  · have he : l[i]? = some l[i] := List.getElem?_eq_getElem q
    generalize l[i] = e at he
    have hVe := hVl i e he
    have he17 := zs_V_lt hd hVe
    obtain ⟨hp, hss, _⟩ := zs_V_dm hd hVe
    have ci : (nI i).toNatClampNeg = i := nI_clamp (by omega)
    have ce : (nI e.1).toNatClampNeg = e.1 := nI_clamp (by omega)
    have vi : vp_in (nI i) 1728 := vp_in_nI (by omega) (by decide)
    unfold zq4_rollsToPaint_20 zq4_rollsToPaint_86
    refine ⟨fun v => ∃ w, w ≤ 4 ∧ v = nI w ∧ ∀ m', m' < 4 * i + w → ∀ e', ¬ PH c k t f (zs_st r c k tl pr) l m' e', fun v => 4 - v.toNatClampNeg, ⟨0, Nat.zero_le _, rfl, hno⟩, ?_⟩
    clear hno
    rintro v ⟨w, hw4, rfl, hno⟩
    refine ⟨fun q2 => ?_, fun q2 => ?_⟩
    · have := zl_end (N := 4) hw4 (by decide) q2
      subst this
      exact zl_leaf0 (J := fun i => ∀ m', m' < 4 * i → ∀ e', ¬ PH c k t f (zs_st r c k tl pr) l m' e') q (by omega) (fun m' hm' => hno m' (by omega))
    · have hw := zl_go (N := 4) hw4 (by decide) q2
      have hdiv : (4 * i + w) / 4 = i := by omega
      have hmod : (4 * i + w) % 4 = w := by omega
      have leaf : (∀ y, zs_st r c k tl pr e.1 w = some y → ¬ PG c k t f y) → (∃ w', w' ≤ 4 ∧ nI w + 1 = nI w' ∧ ∀ m', m' < 4 * i + w' → ∀ e', ¬ PH c k t f (zs_st r c k tl pr) l m' e') ∧ 4 - (nI w + 1).toNatClampNeg < 4 - (nI w).toNatClampNeg := fun hn => zl_leaf0 (J := fun w' => ∀ m', m' < 4 * i + w' → ∀ e', ¬ PH c k t f (zs_st r c k tl pr) l m' e') hw (by decide) (fun m' hm' e' hph => by
        rcases Nat.lt_succ_iff_lt_or_eq.mp (show m' < 4 * i + w + 1 from hm') with z | z
        · exact hno m' z e' hph
        · subst z
          obtain ⟨a, y, b, c'⟩ := hph
          rw [hdiv, he] at a
          cases a
          rw [hmod] at b
          exact hn y b c')
      rw [ci, (hC.2.1 i e he).1]
      refine ⟨vi, e6_rolledx hB2 hT2 hd hw hss hp (fun y hy => zYf (nI_pos (by have := (zs_V_lt hd (zs_st_V hVe hw hy)).1; omega)) ?_) (fun hn => zYt (by decide) (leaf (fun y hy => by rw [hn] at hy; cases hy)))⟩
      have hVy := zs_st_V hVe hw hy
      have hy17 := zs_V_lt hd hVy
      have uni : ∀ y', zs_st r c k tl pr e.1 w = some y' → y' = y := fun y' h' => by rw [hy] at h'; cases h'; rfl
      refine e6_faceBelow hB2 hT2 hd.2.2.2.2 (by omega) ⟨fun u => leaf (fun y' h' g => u (by rw [uni y' h'] at g; exact g.1)), fun u => e6_tilesUnder hB2 hT2 hd hVy ?_⟩
      rw [zs_um_test hd hVy (by omega)]
      refine ⟨fun u2 => leaf (fun y' h' g => u2 (by rw [uni y' h'] at g; exact g.2)), fun u2 => ⟨vi, ?_⟩⟩
      rw [ce, (hC.2.1 i e he).2.1, nI_1]
      exact ⟨vp_in_nI he17.1 (by decide), h1 (4 * i + w) e τ2 x2 ⟨by rw [hdiv]; exact he, y, by rw [hmod]; exact hy, u, u2⟩ hno⟩
theorem e8_paints {Q : Int32 → zz_St → Prop} {t s : Nat} {f : Int32} {l : List (Nat × Nat × Nat)} {e : Nat × Nat × Nat} (hB : MB σ r c k tl pr) (hd : zs_dim r c k) (hF : MF σ (zs_te k) (x0 / 24) (x0 % 24)) (hL : ML σ (zs_te k) l) (hs : s < 900) (he : l[s]? = some e) (hVe : zs_V r c k e.1) (ht : t < 36)
    (h1 : PG c k t f e.1 → ∀ σ2, zx σ σ2 [8, 12, 31] [10, 11, 32] → MF σ2 (zs_te k) (x0 / 24) (x0 % 24) → Q 1 σ2) (h0 : ¬ PG c k t f e.1 → ∀ σ2, zx σ σ2 [8, 12, 31] [10, 11, 32] → MF σ2 (zs_te k) (x0 / 24) (x0 % 24) → Q 0 σ2) : zq8_paints (nI s) (nI t) f σ Q := by
  unfold zq8_paints
  obtain ⟨l1, l2, l3⟩ := hL.2 s e he
  refine e8_belowOf hB hd hL hs he ⟨fun y => e8_keeps2 hF (fun σ1 x1 hK => ?_), fun y => h0 (fun z => y z.1) σ zx.rf hF⟩
  refine e8_loads hs (by rw [x1.2.1 23 (by decide)]; exact l1) (fun j hj => by rw [x1.2.1 24 (by decide)]; exact l2 j hj) (fun σ2 x2 F2 => ?_)
  have x12 : zx σ σ2 [8, 12, 31] [10, 11, 32] := (x1.mono (by decide) (by decide)).tr (x2.mono (by decide) (by decide))
  refine e8_isUnder (hB.x x12 (by decide)) hd hVe F2 ht (fun un σ3 x3 => e8_lays2 ((hK.x x2 (by decide)).x x3 (by decide)) (fun σ4 x4 F4 => ⟨Or.inr rfl, h1 ⟨y, un⟩ σ4 ((x12.tr (x3.mono (by decide) (by decide))).tr (x4.mono (by decide) (by decide))) F4⟩)) (fun un σ3 x3 => e8_lays2 ((hK.x x2 (by decide)).x x3 (by decide)) (fun σ4 x4 F4 => ⟨Or.inl rfl, h0 (fun z => un z.2) σ4 ((x12.tr (x3.mono (by decide) (by decide))).tr (x4.mono (by decide) (by decide))) F4⟩))
theorem e8_paint_74 {Q : Int32 → zz_St → Prop} {t : Nat} {f ret v0 : Int32} {l : List (Nat × Nat × Nat)} (hB : MB σ r c k tl pr) (hd : zs_dim r c k) (hF : MF σ (zs_te k) (x0 / 24) (x0 % 24)) (hL : ML σ (zs_te k) l) (hl : l.length ≤ 864) (hl0 : 0 < l.length) (hVl : ∀ (i : Nat) (e : Nat × Nat × Nat), l[i]? = some e → zs_V r c k e.1) (hfar : ∀ (i : Nat) (e : Nat × Nat × Nat), l[i]? = some e → e.2.2 ≤ i) (ht : t < 36)
    (hv : (v0 = -1 ∧ ¬ ∃ b, PC c k t f (zs_st r c k tl pr) x0 l ret 1 b) ∨ ∃ b, b < 2000 ∧ v0 = nI b ∧ PC c k t f (zs_st r c k tl pr) x0 l ret 1 b ∧ ∀ b', b' < 2000 → PC c k t f (zs_st r c k tl pr) x0 l ret 1 b' → b ≤ b')
    (h1 : ∀ b σ2, zx σ σ2 [8, 12, 31] [10, 11, 32] → MF σ2 (zs_te k) (x0 / 24) (x0 % 24) → b < 2000 → PC c k t f (zs_st r c k tl pr) x0 l ret l.length b → (∀ b', b' < 2000 → PC c k t f (zs_st r c k tl pr) x0 l ret l.length b' → b ≤ b') → Q (nI b) σ2)
    (h0 : ∀ σ2, zx σ σ2 [8, 12, 31] [10, 11, 32] → MF σ2 (zs_te k) (x0 / 24) (x0 % 24) → (¬ ∃ b, PC c k t f (zs_st r c k tl pr) x0 l ret l.length b) → Q (-9) σ2) : zq8_paint_74 (nI t) f v0 1 σ Q := by
  unfold zq8_paint_74 zq8_paint_118
  generalize zs_st r c k tl pr = st at *
  refine ⟨fun v3 v4 σ2 => ∃ s, s ≤ l.length ∧ v4 = nI s ∧ (1 ≤ s ∧ zx σ σ2 [8, 12, 31] [10, 11, 32] ∧ MF σ2 (zs_te k) (x0 / 24) (x0 % 24) ∧ ((v3 = -1 ∧ ¬ ∃ b, PC c k t f st x0 l ret s b) ∨ ∃ b, b < 2000 ∧ v3 = nI b ∧ PC c k t f st x0 l ret s b ∧ ∀ b', b' < 2000 → PC c k t f st x0 l ret s b' → b ≤ b')), fun _ v4 _ => l.length - v4.toNatClampNeg, ⟨1, hl0, rfl, Nat.le_refl _, zx.rf, hF, hv⟩, ?_⟩
  rintro v3 v4 σ2 ⟨s, hs, rfl, hs1, x2, F2, hph⟩
  have hL2 := hL.x x2 (by decide)
  have hB2 := hB.x x2 (by decide)
  rw [hL2.1]
  refine pk_le l.length s (fun q => ?_) (fun q => ?_)
  · have e : s = l.length := by omega
    subst e
    rcases hph with ⟨a, b⟩ | ⟨b, b1, b2, b3, b4⟩
    · exact zNt a (h0 σ2 x2 F2 b)
    · rw [b2]
      exact zNf (zn_nm1 (by omega)) (h1 b σ2 x2 F2 b1 b3 b4)
  · have he : l[s]? = some l[s] := List.getElem?_eq_getElem q
    generalize l[s] = e at he
    have cs : (nI s).toNatClampNeg = s := nI_clamp (by omega)
    have hfe := hfar s e he
    have vs : vp_in (nI s) 900 := vp_in_nI (by omega) (by decide)
    have pcs : ∀ b, PC c k t f st x0 l ret (s + 1) b ↔ PC c k t f st x0 l ret s b ∨ (PG c k t f e.1 ∧ b = e.2.2) := by
      intro b
      constructor
      · rintro (a | ⟨j, e', a1, a2, a3, a4, a5⟩)
        · exact Or.inl (Or.inl a)
        · rcases Nat.lt_succ_iff_lt_or_eq.mp a2 with z | z
          · exact Or.inl (Or.inr ⟨j, e', a1, z, a3, a4, a5⟩)
          · rw [z, he] at a3; cases a3; exact Or.inr ⟨a4, a5⟩
      · rintro ((a | ⟨j, e', a1, a2, a3⟩) | ⟨a, b'⟩)
        · exact Or.inl a
        · exact Or.inr ⟨j, e', a1, by omega, a3⟩
        · exact Or.inr ⟨s, e, hs1, Nat.lt_succ_self s, he, a, b'⟩
    have leaf : ∀ (v3' : Int32) (σ3 : zz_St), zx σ σ3 [8, 12, 31] [10, 11, 32] → MF σ3 (zs_te k) (x0 / 24) (x0 % 24) → ((v3' = -1 ∧ ¬ ∃ b, PC c k t f st x0 l ret (s + 1) b) ∨ ∃ b, b < 2000 ∧ v3' = nI b ∧ PC c k t f st x0 l ret (s + 1) b ∧ ∀ b', b' < 2000 → PC c k t f st x0 l ret (s + 1) b' → b ≤ b') → (∃ j, j ≤ l.length ∧ nI s + 1 = nI j ∧ (1 ≤ j ∧ zx σ σ3 [8, 12, 31] [10, 11, 32] ∧ MF σ3 (zs_te k) (x0 / 24) (x0 % 24) ∧ ((v3' = -1 ∧ ¬ ∃ b, PC c k t f st x0 l ret j b) ∨ ∃ b, b < 2000 ∧ v3' = nI b ∧ PC c k t f st x0 l ret j b ∧ ∀ b', b' < 2000 → PC c k t f st x0 l ret j b' → b ≤ b'))) ∧ l.length - (nI s + 1).toNatClampNeg < l.length - (nI s).toNatClampNeg := fun v3' σ3 a b c' => zl_leaf (J := fun j σ3 => 1 ≤ j ∧ zx σ σ3 [8, 12, 31] [10, 11, 32] ∧ MF σ3 (zs_te k) (x0 / 24) (x0 % 24) ∧ ((v3' = -1 ∧ ¬ ∃ b, PC c k t f st x0 l ret j b) ∨ ∃ b, b < 2000 ∧ v3' = nI b ∧ PC c k t f st x0 l ret j b ∧ ∀ b', b' < 2000 → PC c k t f st x0 l ret j b' → b ≤ b')) q (by omega) ⟨by omega, a, b, c'⟩
    have look : (∀ b, b < 2000 → PC c k t f st x0 l ret s b → e.2.2 ≤ b) → zq8_paint_99 (nI t) f v3 (nI s) σ2 Q (fun v3' v4' σ' => (∃ j, j ≤ l.length ∧ v4' = nI j ∧ (1 ≤ j ∧ zx σ σ' [8, 12, 31] [10, 11, 32] ∧ MF σ' (zs_te k) (x0 / 24) (x0 % 24) ∧ ((v3' = -1 ∧ ¬ ∃ b, PC c k t f st x0 l ret j b) ∨ ∃ b, b < 2000 ∧ v3' = nI b ∧ PC c k t f st x0 l ret j b ∧ ∀ b', b' < 2000 → PC c k t f st x0 l ret j b' → b ≤ b'))) ∧ l.length - v4'.toNatClampNeg < l.length - (nI s).toNatClampNeg) := by
      intro hmin
      unfold zq8_paint_99 zq8_paint_118
      refine e8_paints hB2 hd F2 hL2 (by omega) he (hVl s e he) ht (fun g σ3 x3 F3 => zYf n10 ⟨vs, fun x28 e28 => ?_⟩) (fun g σ3 x3 F3 => zYt n00 (leaf v3 σ3 (x2.tr x3) F3 ?_))
      · rw [cs, x3.2.1 25 (by decide), (hL2.2 s e he).2.2] at e28
        subst e28
        refine leaf _ σ3 (x2.tr x3) F3 (Or.inr ⟨e.2.2, by omega, rfl, (pcs _).mpr (Or.inr ⟨g, rfl⟩), fun b' hb' hpc => ?_⟩)
        rcases (pcs b').mp hpc with z | ⟨_, z⟩
        · exact hmin b' hb' z
        · omega
      · rcases hph with ⟨a, b⟩ | ⟨b, b1, b2, b3, b4⟩
        · refine Or.inl ⟨a, fun ⟨b', hb'⟩ => ?_⟩
          rcases (pcs b').mp hb' with z | ⟨z, _⟩
          · exact b ⟨b', z⟩
          · exact g z
        · refine Or.inr ⟨b, b1, b2, (pcs b).mpr (Or.inl b3), fun b' hb' hpc => ?_⟩
          rcases (pcs b').mp hpc with z | ⟨z, _⟩
          · exact b4 b' hb' z
          · exact absurd z g
    rw [cs, (hL2.2 s e he).2.2]
    rcases hph with ⟨a, b⟩ | ⟨b, b1, b2, b3, b4⟩
    · exact zYt a (look (fun b' _ hb' => absurd ⟨b', hb'⟩ b))
    · subst b2
      refine zYf (zn_nm1 (by omega)) ⟨vs, pk_le b e.2.2 (fun u => leaf _ σ2 x2 F2 (Or.inr ⟨b, b1, rfl, (pcs b).mpr (Or.inl b3), fun b' hb' hpc => ?_⟩)) (fun u => look (fun b' hb' hpc => by have := b4 b' hb' hpc; omega))⟩
      rcases (pcs b').mp hpc with z | ⟨_, z⟩
      · exact b4 b' hb' z
      · omega
/-- both tell the same number -/
theorem paint_eq {t : Nat} {f ret : Int32} {l : List (Nat × Nat × Nat)} (hl : l = bfx r c k tl pr x0) (hd : zs_dim r c k) (hV : zs_V r c k x0) (hR : (ret = -1 ∧ ∀ m, m < 4 * l.length → ∀ e, l[m / 4]? = some e → ¬ zs_st r c k tl pr e.1 (m % 4) = some x0) ∨ ∃ m e, m < 4 * l.length ∧ l[m / 4]? = some e ∧ zs_st r c k tl pr e.1 (m % 4) = some x0 ∧ ret = nI (e.2.2 + 1) ∧ ∀ m', m' < m → ∀ e', l[m' / 4]? = some e' → ¬ zs_st r c k tl pr e'.1 (m' % 4) = some x0) :
    (∀ m e, PH c k t f (zs_st r c k tl pr) l m e → (∀ m', m' < m → ∀ e', ¬ PH c k t f (zs_st r c k tl pr) l m' e') → PC c k t f (zs_st r c k tl pr) x0 l ret l.length (e.2.2 + 1) ∧ ∀ b', b' < 2000 → PC c k t f (zs_st r c k tl pr) x0 l ret l.length b' → e.2.2 + 1 ≤ b') ∧ ((∀ m e, ¬ PH c k t f (zs_st r c k tl pr) l m e) → ¬ ∃ b, PC c k t f (zs_st r c k tl pr) x0 l ret l.length b) := by
  have hlen : l.length ≤ 864 := by rw [hl]; exact bfx_len hd hV
  have hent : ∀ j e, 1 ≤ j → l[j]? = some e → PG c k t f e.1 → ∃ p, PH c k t f (zs_st r c k tl pr) l e.2.1 p ∧ e.2.2 = p.2.2 + 1 := by
    intro j e hj he hg
    rw [hl] at he ⊢
    obtain ⟨a1, a2, a3, p, a4, a5, a6, a7⟩ := bf_ent 3600 j e he hj
    exact ⟨p, ⟨a4, e.1, a5, hg⟩, a6⟩
  have hmono : ∀ m m' e e', PH c k t f (zs_st r c k tl pr) l m e → PH c k t f (zs_st r c k tl pr) l m' e' → m ≤ m' → e.2.2 ≤ e'.2.2 := by
    intro m m' e e' h h' hm
    rw [hl] at h h'
    exact bf_mono 3600 (m' / 4) (m / 4) e e' h.1 h'.1 (Nat.div_le_div_right hm)
  have hlt : ∀ m e, PH c k t f (zs_st r c k tl pr) l m e → m < 4 * l.length := by
    intro m e h
    have := (List.getElem?_eq_some_iff.mp h.1).1
    omega
  constructor
  · intro m e hm hfirst
    have first : ∀ m' e', PH c k t f (zs_st r c k tl pr) l m' e' → m ≤ m' := by
      intro m' e' h'
      rcases Nat.lt_or_ge m' m with z | z
      · exact absurd h' (hfirst m' z e')
      · exact z
    refine ⟨?_, fun b' hb' hpc => ?_⟩
    · obtain ⟨m1, y, m2, m3⟩ := id hm
      have hmlt := hlt m e hm
      have hml : m / 4 < (bf (zs_st r c k tl pr) x0 m).length := by
        rw [hl] at m1
        rcases Nat.eq_zero_or_pos (m / 4) with z | z
        · rw [z]; exact bf_pos _
        · obtain ⟨a1, a2, a3, _⟩ := bf_ent 3600 (m / 4) e m1 z
          have : (bf (zs_st r c k tl pr) x0 (e.2.1 + 1)).length = m / 4 + 1 := by
            have h1 := bf_pre (st := zs_st r c k tl pr) (x0 := x0) (e.2.1 + 1) 3600 a1
            have h2 := bf_len (st := zs_st r c k tl pr) (x0 := x0) e.2.1 (e.2.1 + 1) (Nat.le_succ _)
            rcases Nat.lt_or_ge (m / 4) (bf (zs_st r c k tl pr) x0 (e.2.1 + 1)).length with u | u
            · rcases bf_S_cases (st := zs_st r c k tl pr) e.2.1 (bf (zs_st r c k tl pr) x0 e.2.1) with v | ⟨_, _, _, _, _, v⟩
              · have : bf (zs_st r c k tl pr) x0 (e.2.1 + 1) = bf (zs_st r c k tl pr) x0 e.2.1 := v
                rw [this, a2] at u
                omega
              · have : bf (zs_st r c k tl pr) x0 (e.2.1 + 1) = _ := v
                rw [this, List.length_append, a2]
                rfl
            · exfalso
              have hstep : (bf (zs_st r c k tl pr) x0 (e.2.1 + 1)).length = m / 4 := by omega
              obtain ⟨_, _, _, p, a4, a5, _, a7⟩ := bf_ent 3600 (m / 4) e m1 z
              have hp' : (bf (zs_st r c k tl pr) x0 e.2.1)[e.2.1 / 4]? = some p := by rw [← bf_pre (st := zs_st r c k tl pr) (x0 := x0) e.2.1 3600 (Nat.le_of_lt a1) _ (by omega)]; exact a4
              have := bf_S3 (st := zs_st r c k tl pr) (x0 := x0) hp' a5 a7
              rw [this, List.length_append, a2] at hstep
              simp only [List.length_cons, List.length_nil] at hstep
              omega
          have hbm : e.2.1 + 1 ≤ m := by omega
          have := bf_len (st := zs_st r c k tl pr) (x0 := x0) (e.2.1 + 1) m hbm
          omega
      have m1' : (bf (zs_st r c k tl pr) x0 3600)[m / 4]? = some e := by rw [hl] at m1; exact m1
      obtain ⟨j, g, g1, g2, g3, g4⟩ := bf_done 3600 m (by omega) e y m1' hml m2
      have g1' : l[j]? = some g := by rw [hl]; exact g1
      rcases Nat.eq_zero_or_pos j with z | z
      · rw [z, bf_0] at g1
        cases g1
        have g2 : x0 = y := g2
        subst g2
        rcases hR with ⟨b1, b2⟩ | ⟨m', e', b1, b2, b3, b4, b5⟩
        · exact absurd m2 (b2 m hmlt e m1)
        · have h' : PH c k t f (zs_st r c k tl pr) l m' e' := ⟨b2, x0, b3, m3⟩
          have hle := first m' e' h'
          have : m' = m := by
            rcases Nat.lt_or_ge m m' with u | u
            · exact absurd m2 (b5 m u e m1)
            · omega
          subst this
          rw [m1] at b2
          cases b2
          refine Or.inl ⟨m3, b4, ?_⟩
          have := bf_far_le 3600 _ _ m1'
          omega
      · have hgy : PG c k t f g.1 := by rw [g2]; exact m3
        obtain ⟨p, p1, p2⟩ := hent j g z g1' hgy
        have hge := first _ p p1
        have hb : g.2.1 = m := by
          rcases g4 with u | u
          · omega
          · omega
        rw [hb] at p1
        have : p = e := by
          have := p1.1.symm.trans m1
          exact Option.some.inj this
        subst this
        exact Or.inr ⟨j, g, z, (List.getElem?_eq_some_iff.mp g1').1, g1', hgy, p2.symm⟩
    · rcases hpc with ⟨a1, a2, _⟩ | ⟨j, g, a1, a2, a3, a4, a5⟩
      · rcases hR with ⟨b1, _⟩ | ⟨m', e', b1, b2, b3, b4, _⟩
        · rw [b1] at a2
          exact absurd a2.symm (zn_nm1 (by omega))
        · have h' : PH c k t f (zs_st r c k tl pr) l m' e' := ⟨b2, x0, b3, a1⟩
          have := hmono m m' e e' hm h' (first m' e' h')
          have hfar : e'.2.2 ≤ m' / 4 := by rw [hl] at b2; exact bf_far_le 3600 _ _ b2
          have e2 : b' = e'.2.2 + 1 := (nI_eq (by omega) (by omega)).mp (a2.symm.trans b4)
          omega
      · obtain ⟨p, p1, p2⟩ := hent j g a1 a3 a4
        have := hmono m _ e p hm p1 (first _ p p1)
        omega
  · rintro hno ⟨b, ⟨a1, a2, hb⟩ | ⟨j, g, a1, a2, a3, a4, a5⟩⟩
    · rcases hR with ⟨b1, _⟩ | ⟨m', e', b1, b2, b3, b4, _⟩
      · rw [b1] at a2
        exact zn_nm1 (by omega) a2.symm
      · exact hno m' e' ⟨b2, x0, b3, a1⟩
    · obtain ⟨p, p1, _⟩ := hent j g a1 a3 a4
      exact hno _ p p1
end SF
