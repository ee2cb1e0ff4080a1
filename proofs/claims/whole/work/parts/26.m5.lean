/-- where a roll in a way brings a solid of the square board: row and column -/
def zs_mv (row col far w a b : Nat) : Prop := (w = 0 ∧ a + far = row ∧ b = col) ∨ (w = 1 ∧ a = row ∧ b = col + far) ∨ (w = 2 ∧ a = row + far ∧ b = col) ∨ (w = 3 ∧ a = row ∧ b + far = col)
theorem zs_sq_mv {r c k : Nat} {tl : Nat → Int32} {pl s w a b : Nat} (hm : zs_mv (pl / c) (pl % c) (zs_far k (zs_lie k s) w) w a b) : zs_sq r c k tl pl s w = zs_fin r c k tl a b (zs_T false s w) := by
  unfold zs_sq
  simp only
  rcases hm with ⟨rfl, h1, h2⟩ | ⟨rfl, h1, h2⟩ | ⟨rfl, h1, h2⟩ | ⟨rfl, h1, h2⟩
  · rw [if_pos rfl, if_neg (by omega), show pl / c - zs_far k (zs_lie k s) 0 = a from by omega, ← h2]
  · rw [if_neg (by decide), if_pos rfl, ← h1, ← h2]
  · rw [if_neg (by decide), if_neg (by decide), if_pos rfl, ← h1, ← h2]
  · rw [if_neg (by decide), if_neg (by decide), if_neg (by decide), if_neg (by omega), show pl % c - zs_far k (zs_lie k s) 3 = b from by omega, ← h1]
theorem zs_sq_no2 {r c k : Nat} {tl : Nat → Int32} {pl s w : Nat} (hw : w < 4) (hm : ∀ a b, zs_mv (pl / c) (pl % c) (zs_far k (zs_lie k s) w) w a b → zs_fin r c k tl a b (zs_T false s w) = none) : zs_sq r c k tl pl s w = none := by
  by_cases h : ∃ a b, zs_mv (pl / c) (pl % c) (zs_far k (zs_lie k s) w) w a b
  · obtain ⟨a, b, h⟩ := h
    rw [zs_sq_mv h]
    exact hm a b h
  · unfold zs_sq
    simp only
    rcases (by omega : w = 0 ∨ w = 1 ∨ w = 2 ∨ w = 3) with rfl | rfl | rfl | rfl
    · rw [if_pos rfl]
      by_cases q : pl / c < zs_far k (zs_lie k s) 0
      · rw [if_pos q]
      · exact absurd ⟨pl / c - zs_far k (zs_lie k s) 0, pl % c, Or.inl ⟨rfl, by omega, rfl⟩⟩ h
    · exact absurd ⟨_, _, Or.inr (Or.inl ⟨rfl, rfl, rfl⟩)⟩ h
    · exact absurd ⟨_, _, Or.inr (Or.inr (Or.inl ⟨rfl, rfl, rfl⟩))⟩ h
    · rw [if_neg (by decide), if_neg (by decide), if_neg (by decide)]
      by_cases q : pl % c < zs_far k (zs_lie k s) 3
      · rw [if_pos q]
      · exact absurd ⟨pl / c, pl % c - zs_far k (zs_lie k s) 3, Or.inr (Or.inr (Or.inr ⟨rfl, rfl, by omega⟩))⟩ h
theorem zs_sq_no {r c k : Nat} {tl : Nat → Int32} {pl s w : Nat} (hw : w < 4) (hm : ∀ a b, zs_mv (pl / c) (pl % c) (zs_far k (zs_lie k s) w) w a b → ¬ (a < r ∧ b < c)) : zs_sq r c k tl pl s w = none :=
  zs_sq_no2 hw (fun a b h => by rw [zs_fin, if_neg]; exact fun q => hm a b h ⟨q.1.1, q.1.2.1⟩)
theorem zn_of_in {x : Int32} {n : Nat} (h : vp_in x n) (hn : n < 2 ^ 31) : ∃ a, a < n ∧ x = nI a := vp_in_of h hn
theorem zn_sub_in {a b n : Nat} (ha : a < 2 ^ 30) (hb : b < 2 ^ 30) (h : vp_in (nI a - nI b) n) : b ≤ a := by
  rcases Nat.lt_or_ge a b with q | q
  · exact absurd (Or.inl (pk_sneg hb q)) h
  · exact q
section M5
variable {σ : zz_St} {r c k : Nat} {tl pr : Nat → Int32} {Q : Int32 → zz_St → Prop}
theorem e8_goesSquare_112 (hB : MB σ r c k tl pr) (hd : zs_dim r c k) {pl s w : Nat} (hw : w < 4) (hF : MF σ false pl s) (hs : s < 24) {v2 v3 : Int32}
    (h1 : ∀ a b, a < r → b < c → v2 = nI a → v3 = nI b → ∀ σ2, zx σ σ2 [8] [10] → MF σ2 false (a * c + b) (zs_T false s w) → Q 1 σ2)
    (h0 : ¬ (vp_in v2 r ∧ vp_in v3 c) → Q 0 σ) : zq8_goesSquare_112 (nI w) v2 v3 σ Q := by
  unfold zq8_goesSquare_112
  rw [hB.1, hB.2.1]
  refine e8_inN (by omega) (fun q2 => ?_) (fun q2 => ⟨fun _ => h0 (fun z => q2 z.1), fun z => absurd rfl z⟩)
  refine ⟨fun z => absurd z (by decide), fun _ => e8_inN (by omega) (fun q3 => ?_) (fun q3 => ⟨fun z => absurd rfl z, fun _ => h0 (fun z => q3 z.2)⟩)⟩
  refine ⟨fun _ g hg => ?_, fun z => absurd z (by decide)⟩
  obtain ⟨a, ha, ea⟩ := zn_of_in q2 (by omega)
  obtain ⟨b, hb, eb⟩ := zn_of_in q3 (by omega)
  have x1 : zx σ g [8] [10] := by rw [hg]; exact zx.I 8 _ (by decide)
  have hFg : MF g false (a * c + b) s := by
    refine ⟨?_, fun i hi => ?_⟩
    · rw [hg, zz_I1, if_pos rfl, ea, eb, pk_mul, nI_add, Nat.mul_comm]
    · rw [hg, zz_I2]; exact hF.2 i hi
  exact e8_turnsCube hw hFg hs (fun σ2 x2 hF2 => h1 a b ha hb ea eb σ2 (x1.tr (x2.mono (by decide) (by decide))) hF2)
theorem e8_goesSquare (hB : MB σ r c k tl pr) (hd : zs_dim r c k) {pl s w : Nat} (hw : w < 4) (hF : MF σ false pl s) (hs : s < 24) (hp : pl < r * c)
    (h1 : ∀ a b, zs_mv (pl / c) (pl % c) (zs_far k (zs_lie k s) w) w a b → a < r → b < c → ∀ σ2, zx σ σ2 [8] [10] → MF σ2 false (a * c + b) (zs_T false s w) → Q 1 σ2)
    (h0 : (∀ a b, zs_mv (pl / c) (pl % c) (zs_far k (zs_lie k s) w) w a b → ¬ (a < r ∧ b < c)) → Q 0 σ) : zq8_goesSquare (nI w) σ Q := by
  unfold zq8_goesSquare
  have hrc := zs_rc hd.2.1 hd.2.2.2.1
  have hdv := zs_div_lt hp
  have hcne : ¬ nI c = 0 := nI_ne0 hd.2.2.1 (by omega)
  rw [hB.2.1, hF.1]
  have hdiv : nI pl / nI c = nI (pl / c) := pk_div (by omega) hd.2.2.1 (by omega)
  have hrem : nI pl - nI pl / nI c * nI c = nI (pl % c) := pk_rem (by omega) hd.2.2.1 (by omega)
  rw [hrem, hdiv]
  refine ⟨hcne, fun x40 e40 => ⟨hcne, fun x41 e41 => ?_⟩⟩
  subst e40; subst e41
  have key : ∀ hw0 : Nat, hw0 ≤ 3 → (hw0 = if k = 2 ∨ k = 3 then zs_LC s else 3) → zq8_goesSquare_35 (nI w) (nI (pl / c)) (nI (pl % c)) (nI hw0) σ Q := by
    intro hh hh3 ehh
    generalize hrow : pl / c = row at *
    generalize hcol : pl % c = col at *
    generalize hfar : zs_far k (zs_lie k s) w = far at *
    have efar : far = if w = 0 ∨ w = 3 then (if hh = 0 then 2 else 1) else if w = 1 then (if hh = 1 then 2 else 1) else (if hh = 2 then 2 else 1) := by
      rw [← hfar]
      unfold zs_far
      by_cases hb : k = 2 ∨ k = 3
      · rw [if_pos hb] at ehh
        rw [if_pos hb, show zs_lie k s = zs_LC s from if_pos hb, ← ehh]
        rcases (by omega : w = 0 ∨ w = 1 ∨ w = 2 ∨ w = 3) with rfl | rfl | rfl | rfl <;> simp
      · rw [if_neg hb] at ehh
        rw [if_neg hb, ehh]
        rcases (by omega : w = 0 ∨ w = 1 ∨ w = 2 ∨ w = 3) with rfl | rfl | rfl | rfl <;> simp
    unfold zq8_goesSquare_35
    have er : nI w - nI w / 2 * 2 = nI (w % 2) := zs_r2 (by omega)
    have er1 : nI (w % 2) = 1 ↔ w % 2 = 1 := nI_eq (b := 1) (by omega) (by decide)
    rw [er, er1]
    have s51 : ∀ t : Nat, t ≤ 2 → (t = if w % 2 = 1 then 1 else 2) → zq8_goesSquare_51 (nI w) (nI row) (nI col) (nI hh) (nI t) (nI hh) σ Q := by
      intro t ht et
      unfold zq8_goesSquare_51
      have e1 : nI hh = nI t ↔ hh = t := nI_eq (by omega) (by omega)
      rw [e1]
      have s59 : ∀ on : Nat, (on = if hh = t then 2 else 1) → zq8_goesSquare_59 (nI w) (nI row) (nI col) (nI hh) (nI on) σ Q := by
        intro on eon
        unfold zq8_goesSquare_59
        have e0 : nI hh = 0 ↔ hh = 0 := nI_eq (b := 0) (by omega) (by decide)
        rw [e0]
        have s71 : ∀ bk : Nat, (bk = if hh = 0 then 2 else 1) → zq8_goesSquare_71 (nI w) (nI row) (nI col) (nI on) (nI bk) σ Q := by
          intro bk ebk
          have hon : on ≤ 2 := by rw [eon]; split <;> omega
          have hbk : bk ≤ 2 := by rw [ebk]; split <;> omega
          have w0 : nI w = 0 ↔ w = 0 := zn_w hw 0 (by decide)
          have w1 : nI w = 1 ↔ w = 1 := zn_w hw 1 (by decide)
          have w2 : nI w = 2 ↔ w = 2 := zn_w hw 2 (by decide)
          have w3 : nI w = 3 ↔ w = 3 := zn_w hw 3 (by decide)
          unfold zq8_goesSquare_71 zq8_goesSquare_82 zq8_goesSquare_92 zq8_goesSquare_102
          rw [w0, w1, w2, w3]
          rcases (by omega : w = 0 ∨ w = 1 ∨ w = 2 ∨ w = 3) with rfl | rfl | rfl | rfl
          · have ef : far = bk := by rw [efar, ebk]; simp
            refine ⟨fun q => absurd rfl q, fun _ x ex => ⟨fun _ => ⟨fun _ => ⟨fun _ => ?_, fun q => absurd q (by decide)⟩, fun q => absurd q (by decide)⟩, fun q => absurd q (by decide)⟩⟩
            subst ex
            refine e8_goesSquare_112 hB hd hw hF hs (fun a b ha hb ea eb => ?_) (fun q => ?_)
            · have hle : bk ≤ row := zn_sub_in (n := r) (by omega) (by omega) (by rw [ea]; exact vp_in_nI ha (by omega))
              rw [pk_sub hle] at ea
              have e3 : row - bk = a := (nI_eq (by omega) (by omega)).mp ea
              have e4 : col = b := (nI_eq (by omega) (by omega)).mp eb
              exact h1 a b (Or.inl ⟨rfl, by omega, e4.symm⟩) ha hb
            · refine h0 (fun a b hm hab => q ?_)
              rcases hm with ⟨_, m1, m2⟩ | ⟨m0, _⟩ | ⟨m0, _⟩ | ⟨m0, _⟩
              · rw [pk_sub (by omega), show row - bk = a from by omega, ← m2]
                exact ⟨vp_in_nI hab.1 (by omega), vp_in_nI hab.2 (by omega)⟩
              all_goals exact absurd m0 (by decide)
          · have ef : far = on := by rw [efar, eon, et]; simp
            refine ⟨fun _ => ⟨fun q => absurd rfl q, fun _ x ex => ⟨fun _ => ⟨fun _ => ?_, fun q => absurd q (by decide)⟩, fun q => absurd q (by decide)⟩⟩, fun q => absurd q (by decide)⟩
            subst ex
            rw [nI_add]
            refine e8_goesSquare_112 hB hd hw hF hs (fun a b ha hb ea eb => ?_) (fun q => ?_)
            · have e3 : row = a := (nI_eq (by omega) (by omega)).mp ea
              have e4 : col + on = b := (nI_eq (by omega) (by omega)).mp eb
              exact h1 a b (Or.inr (Or.inl ⟨rfl, e3.symm, by omega⟩)) ha hb
            · refine h0 (fun a b hm hab => q ?_)
              rcases hm with ⟨m0, _⟩ | ⟨_, m1, m2⟩ | ⟨m0, _⟩ | ⟨m0, _⟩
              · exact absurd m0 (by decide)
              · rw [← m1, show col + on = b from by omega]
                exact ⟨vp_in_nI hab.1 (by omega), vp_in_nI hab.2 (by omega)⟩
              all_goals exact absurd m0 (by decide)
          · have ef : far = on := by rw [efar, eon, et]; simp
            refine ⟨fun _ => ⟨fun _ => ⟨fun q => absurd rfl q, fun _ x ex => ⟨fun _ => ?_, fun q => absurd q (by decide)⟩⟩, fun q => absurd q (by decide)⟩, fun q => absurd q (by decide)⟩
            subst ex
            rw [nI_add]
            refine e8_goesSquare_112 hB hd hw hF hs (fun a b ha hb ea eb => ?_) (fun q => ?_)
            · have e3 : row + on = a := (nI_eq (by omega) (by omega)).mp ea
              have e4 : col = b := (nI_eq (by omega) (by omega)).mp eb
              exact h1 a b (Or.inr (Or.inr (Or.inl ⟨rfl, by omega, e4.symm⟩))) ha hb
            · refine h0 (fun a b hm hab => q ?_)
              rcases hm with ⟨m0, _⟩ | ⟨m0, _⟩ | ⟨_, m1, m2⟩ | ⟨m0, _⟩
              · exact absurd m0 (by decide)
              · exact absurd m0 (by decide)
              · rw [show row + on = a from by omega, ← m2]
                exact ⟨vp_in_nI hab.1 (by omega), vp_in_nI hab.2 (by omega)⟩
              · exact absurd m0 (by decide)
          · have ef : far = bk := by rw [efar, ebk]; simp
            refine ⟨fun _ => ⟨fun _ => ⟨fun _ => ⟨fun q => absurd rfl q, fun _ x ex => ?_⟩, fun q => absurd q (by decide)⟩, fun q => absurd q (by decide)⟩, fun q => absurd q (by decide)⟩
            subst ex
            refine e8_goesSquare_112 hB hd hw hF hs (fun a b ha hb ea eb => ?_) (fun q => ?_)
            · have hle : bk ≤ col := zn_sub_in (n := c) (by omega) (by omega) (by rw [eb]; exact vp_in_nI hb (by omega))
              rw [pk_sub hle] at eb
              have e3 : row = a := (nI_eq (by omega) (by omega)).mp ea
              have e4 : col - bk = b := (nI_eq (by omega) (by omega)).mp eb
              exact h1 a b (Or.inr (Or.inr (Or.inr ⟨rfl, e3.symm, by omega⟩))) ha hb
            · refine h0 (fun a b hm hab => q ?_)
              rcases hm with ⟨m0, _⟩ | ⟨m0, _⟩ | ⟨m0, _⟩ | ⟨_, m1, m2⟩
              · exact absurd m0 (by decide)
              · exact absurd m0 (by decide)
              · exact absurd m0 (by decide)
              · rw [pk_sub (by omega), show col - bk = b from by omega, ← m1]
                exact ⟨vp_in_nI hab.1 (by omega), vp_in_nI hab.2 (by omega)⟩
        refine ⟨fun q => s71 1 (by rw [if_neg q]), fun q => s71 2 (by rw [if_pos q])⟩
      refine ⟨fun q => s59 1 (by rw [if_neg q]), fun q => s59 2 (by rw [if_pos q])⟩
    refine ⟨fun q => s51 2 (by decide) (by rw [if_neg q]), fun q => s51 1 (by decide) (by rw [if_pos q])⟩
  refine e8_isBlock hB hd (fun hb => ?_) (fun hb => ?_)
  · refine ⟨fun q => absurd q (by decide), fun _ => ?_⟩
    have := zs_LC_lt s
    exact e8_lying hF hs (key (zs_LC s) (by omega) (by rw [if_pos hb]))
  · refine ⟨fun _ => key 3 (by decide) (by rw [if_neg hb]), fun q => absurd rfl q⟩
end M5
