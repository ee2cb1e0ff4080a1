/-! call: needed: a hole more -/
theorem zs_tfin_hole {r c k row j s t : Nat} {tl pr : Nat → Int32} {q : Nat × Nat} (hk : 4 ≤ k) (h : zs_tfin r c k tl pr row j s = some q) : (¬ (t = (if 4 ≤ k then q.1 / 2 else q.1) ∨ (¬ zs_lie k q.2 = 0 ∧ t = zs_snd c (zs_lie k q.2) q.1)) → zs_tfin r c k (upd tl t 1) pr row j s = some q) ∧ ((t = (if 4 ≤ k then q.1 / 2 else q.1) ∨ (¬ zs_lie k q.2 = 0 ∧ t = zs_snd c (zs_lie k q.2) q.1)) → ¬ tl t = 1) := by
  unfold zs_tfin at h ⊢
  split at h
  · rename_i hc
    cases h
    rw [if_pos hk]
    have e2 : (row * (2 * c) + j) / 2 = row * c + j / 2 := by
      rw [show row * (2 * c) + j = j + 2 * (row * c) from by rw [Nat.mul_left_comm]; omega, Nat.add_mul_div_left _ _ (by decide)]
      omega
    rw [e2]
    refine ⟨fun hn => ?_, fun hu => ?_⟩
    · have : ¬ row * c + j / 2 = t := fun z => hn (Or.inl z.symm)
      rw [pk_un this, if_pos hc]
    · rcases hu with z | z
      · rw [z]; exact hc.2.2.1
      · exact absurd (zs_lie4 hk) z.1
  · cases h
theorem zs_fin_hole {r c k row col s t : Nat} {tl : Nat → Int32} {q : Nat × Nat} (hk : ¬ 4 ≤ k) (h : zs_fin r c k tl row col s = some q) : (¬ (t = (if 4 ≤ k then q.1 / 2 else q.1) ∨ (¬ zs_lie k q.2 = 0 ∧ t = zs_snd c (zs_lie k q.2) q.1)) → zs_fin r c k (upd tl t 1) row col s = some q) ∧ ((t = (if 4 ≤ k then q.1 / 2 else q.1) ∨ (¬ zs_lie k q.2 = 0 ∧ t = zs_snd c (zs_lie k q.2) q.1)) → ¬ tl t = 1) := by
  unfold zs_fin at h ⊢
  split at h
  · rename_i hc
    cases h
    rw [if_neg hk]
    obtain ⟨h1, h2, h3⟩ := hc
    refine ⟨fun hn => ?_, fun hu => ?_⟩
    · have n1 : ¬ row * c + col = t := fun z => hn (Or.inl z.symm)
      have n2 : ¬ zs_snd c (zs_lie k s) (row * c + col) = t := by
        intro z
        by_cases hl : zs_lie k s = 0
        · rw [hl] at z
          exact n1 z
        · exact hn (Or.inr ⟨hl, z.symm⟩)
      have : zs_may r c k (upd tl t 1) row col (zs_lie k s) := ⟨h1, by rw [pk_un n1]; exact h2, by rw [pk_un n2]; exact h3⟩
      rw [if_pos this]
    · rcases hu with z | z
      · rw [z]; exact fun u => h2 (Or.inl u)
      · rw [z.2]; exact fun u => h3 (Or.inl u)
  · cases h
theorem zs_roll_hole {r c k pl s w t : Nat} {tl pr : Nat → Int32} {q : Nat × Nat} (hq : zs_roll r c k tl pr pl s w = some q) : (¬ (t = (if 4 ≤ k then q.1 / 2 else q.1) ∨ (¬ zs_lie k q.2 = 0 ∧ t = zs_snd c (zs_lie k q.2) q.1)) → zs_roll r c k (upd tl t 1) pr pl s w = some q) ∧ ((t = (if 4 ≤ k then q.1 / 2 else q.1) ∨ (¬ zs_lie k q.2 = 0 ∧ t = zs_snd c (zs_lie k q.2) q.1)) → ¬ tl t = 1) := by
  unfold zs_roll at hq ⊢
  by_cases hk : 4 ≤ k
  · have fin := fun row j s => zs_tfin_hole (r := r) (c := c) (k := k) (row := row) (j := j) (s := s) (t := t) (tl := tl) (pr := pr) (q := q) hk
    rw [if_pos hk] at hq
    rw [if_pos hk, if_pos hk]
    rw [if_pos hk] at fin
    simp only [zs_tt] at hq ⊢
    by_cases w0 : w = 0
    · rw [if_pos w0] at hq ⊢
      by_cases u : (pl / (2 * c) + pl % (2 * c)) % 2 = 0 ∨ pl / (2 * c) = 0
      · rw [if_pos u] at hq; cases hq
      · rw [if_neg u] at hq ⊢; exact fin _ _ _ hq
    · rw [if_neg w0] at hq ⊢
      by_cases w1 : w = 1
      · rw [if_pos w1] at hq ⊢; exact fin _ _ _ hq
      · rw [if_neg w1] at hq ⊢
        by_cases w2 : w = 2
        · rw [if_pos w2] at hq ⊢
          by_cases u : (pl / (2 * c) + pl % (2 * c)) % 2 = 0
          · rw [if_pos u] at hq ⊢; exact fin _ _ _ hq
          · rw [if_neg u] at hq; cases hq
        · rw [if_neg w2] at hq ⊢
          by_cases u : pl % (2 * c) = 0
          · rw [if_pos u] at hq; cases hq
          · rw [if_neg u] at hq ⊢; exact fin _ _ _ hq
  · have fin := fun row j s => zs_fin_hole (r := r) (c := c) (k := k) (row := row) (col := j) (s := s) (t := t) (tl := tl) (q := q) hk
    rw [if_neg hk] at hq
    rw [if_neg hk, if_neg hk]
    rw [if_neg hk] at fin
    simp only [zs_sq] at hq ⊢
    by_cases w0 : w = 0
    · rw [if_pos w0] at hq ⊢
      by_cases u : pl / c < zs_far k (zs_lie k s) w
      · rw [if_pos u] at hq; cases hq
      · rw [if_neg u] at hq ⊢; exact fin _ _ _ hq
    · rw [if_neg w0] at hq ⊢
      by_cases w1 : w = 1
      · rw [if_pos w1] at hq ⊢; exact fin _ _ _ hq
      · rw [if_neg w1] at hq ⊢
        by_cases w2 : w = 2
        · rw [if_pos w2] at hq ⊢; exact fin _ _ _ hq
        · rw [if_neg w2] at hq ⊢
          by_cases u : pl % c < zs_far k (zs_lie k s) w
          · rw [if_pos u] at hq; cases hq
          · rw [if_neg u] at hq ⊢; exact fin _ _ _ hq
theorem zs_st_hole {r c k x w y t : Nat} {tl pr : Nat → Int32} (hV : zs_V r c k x) (hw : w < 4) (h : zs_st r c k tl pr x w = some y) : (¬ zs_un c k y t → zs_st r c k (upd tl t 1) pr x w = some y) ∧ (zs_un c k y t → ¬ tl t = 1) := by
  unfold zs_st at h ⊢
  cases hq : zs_roll r c k tl pr (x / 24) (x % 24) w with
  | none => rw [hq] at h; cases h
  | some q =>
    rw [hq] at h
    have ey : 24 * q.1 + q.2 = y := Option.some.inj h
    have h24 : q.2 < 24 := Nat.lt_of_lt_of_le (zs_roll_ok hV.2.1 hw hq).2.1 (zs_ns_le _)
    have key := zs_roll_hole (t := t) hq
    have eu : zs_un c k y t ↔ (t = (if 4 ≤ k then q.1 / 2 else q.1) ∨ (¬ zs_lie k q.2 = 0 ∧ t = zs_snd c (zs_lie k q.2) q.1)) := by
      unfold zs_un zs_t0 zs_t1
      rw [← ey, (zs_code_dm h24).1, (zs_code_dm h24).2]
    rw [eu]
    refine ⟨fun hn => ?_, key.2⟩
    rw [key.1 hn]
    exact h
section NE
variable {st st' : Nat → Nat → Option Nat} {x0 : Nat}
theorem bf_to (n : Nat) (i w y : Nat) (e : Nat × Nat × Nat) (h : (bf st x0 n)[i]? = some e) (hn : 4 * i + w < n) (hw : w < 4) (hy : st e.1 w = some y) : ∃ (j : Nat) (f : Nat × Nat × Nat), (bf st x0 n)[j]? = some f ∧ f.1 = y ∧ f.2.2 ≤ e.2.2 + 1 := by
  have hdiv : (4 * i + w) / 4 = i := by omega
  have hmod : (4 * i + w) % 4 = w := by omega
  have hal := bf_al n i e h
  obtain ⟨j, f, b1, b2, b3, b4⟩ := bf_done n (4 * i + w) hn e y (by rw [hdiv]; exact h) (by rw [hdiv]; have := bf_len (st := st) (x0 := x0) (4 * i) (4 * i + w) (by omega); omega) (by rw [hmod]; exact hy)
  refine ⟨j, f, b1, b2, ?_⟩
  rcases Nat.eq_zero_or_pos j with z | z
  · rw [z, bf_0] at b1
    cases b1
    exact Nat.zero_le _
  · obtain ⟨a1, a2, a3, p, a4, a5, a6, a7⟩ := bf_ent n j f b1 z
    have : p.2.2 ≤ e.2.2 := bf_mono n i (f.2.1 / 4) p e a4 h (by omega)
    omega
/-- a path told by parents is a path where its steps may be taken -/
theorem bf_path {n n' : Nat} {G : Nat → Prop} {D g : Nat} (h : FX (bf st x0 n) G D g) (hn : 4 * (bf st' x0 n').length ≤ n') (hst : ∀ m, m < D → ∀ e p : Nat × Nat × Nat, (bf st x0 n)[zan (bf st x0 n) g m]? = some e → (bf st x0 n)[e.2.1 / 4]? = some p → st p.1 (e.2.1 % 4) = some e.1 → st' p.1 (e.2.1 % 4) = some e.1) :
    ∀ s, s ≤ D → ∃ (i : Nat) (f e : Nat × Nat × Nat), (bf st' x0 n')[i]? = some f ∧ f.2.2 ≤ s ∧ (bf st x0 n)[zan (bf st x0 n) g (D - s)]? = some e ∧ f.1 = e.1 := by
  intro s
  induction s with
  | zero =>
    intro _
    refine ⟨0, (x0, 0, 0), (x0, 0, 0), bf_0 _, Nat.le_refl _, ?_, rfl⟩
    rw [Nat.sub_zero, zan_top h]
    exact bf_0 _
  | succ s ih =>
    intro hs
    obtain ⟨i, f, e, a1, a2, a3, a4⟩ := ih (by omega)
    have hm : D - s = (D - (s + 1)) + 1 := by omega
    generalize D - (s + 1) = m at *
    have hmD : m < D := by omega
    obtain ⟨eg, b1, b2, _⟩ := zan_ok h m (by omega)
    obtain ⟨c1, c2, c3, p, c4, c5, c6, c7⟩ := bf_ent n _ eg b1 (zan_pos h hmD)
    have ez : zan (bf st x0 n) g (m + 1) = eg.2.1 / 4 := zpa_e b1
    rw [hm, ez, c4] at a3
    cases a3
    have hi := (List.getElem?_eq_some_iff.mp a1).1
    have hstep := hst m hmD eg _ b1 c4 c5
    obtain ⟨j, f', d1, d2, d3⟩ := bf_to n' i (eg.2.1 % 4) eg.1 f a1 (by omega) (by omega) (by rw [a4]; exact hstep)
    exact ⟨j, f', eg, d1, by omega, b1, d2⟩
end NE
def Later (l : List (Nat × Nat × Nat)) (G : Nat → Prop) (D : Nat) : Prop := ¬ ∃ (i : Nat) (e : Nat × Nat × Nat), l[i]? = some e ∧ G e.1 ∧ e.2.2 ≤ D
section NF
variable {σ τ : zz_St} {r c k x0 : Nat} {tl pr : Nat → Int32}
theorem Later.fg {p f : Int32} {D i : Nat} {e : Nat × Nat × Nat} (h : FG k p f (bfx r c k tl pr x0) i e) : Later (bfx r c k tl pr x0) (zs_goal k p f) D ↔ D < e.2.2 := by
  constructor
  · intro hl
    rcases Nat.lt_or_ge D e.2.2 with z | z
    · exact z
    · exact absurd ⟨i, e, h.1, h.2.1, z⟩ hl
  · rintro hlt ⟨j, f', a1, a2, a3⟩
    have : i ≤ j := by
      rcases Nat.lt_or_ge j i with z | z
      · exact absurd a2 (h.2.2 j z f' a1)
      · exact z
    have := bf_mono 3600 j i e f' h.1 a1 this
    omega
theorem Later.ng {p f : Int32} {D : Nat} (h : NG k p f (bfx r c k tl pr x0)) : Later (bfx r c k tl pr x0) (zs_goal k p f) D := fun ⟨i, e, a1, a2, _⟩ => h i e a1 a2
/-- under the walk, its start aside -/
def UW (c k : Nat) (l : List (Nat × Nat × Nat)) (g m t : Nat) : Prop := ∃ m', m' < m ∧ ∃ e : Nat × Nat × Nat, l[zan l g m']? = some e ∧ zs_un c k e.1 t
theorem needed_eq {G : Nat → Prop} {D g t : Nat} (hd : zs_dim r c k) (hV : zs_V r c k x0) (h : FX (bfx r c k tl pr x0) G D g) : ((UW c k (bfx r c k tl pr x0) g D t ∧ ¬ zs_un c k x0 t) ∧ Later (bfx r c k (upd tl t 1) pr x0) G D) ↔ (¬ zs_un c k x0 t ∧ ¬ tl t = 1 ∧ Later (bfx r c k (upd tl t 1) pr x0) G D) := by
  have hlen' := bfx_len (tl := upd tl t 1) (pr := pr) hd hV
  constructor
  · rintro ⟨⟨⟨m, hm, e, he, hu⟩, h0⟩, hl⟩
    refine ⟨h0, ?_, hl⟩
    obtain ⟨c1, c2, c3, p, c4, c5, c6, c7⟩ := bf_ent 3600 _ e he (zan_pos h hm)
    exact (zs_st_hole (bfx_V hV c4) (by omega) c5).2 hu
  · rintro ⟨h0, h1, hl⟩
    refine ⟨⟨?_, h0⟩, hl⟩
    refine Classical.byContradiction (fun hno => ?_)
    have := bf_path (st := zs_st r c k tl pr) (st' := zs_st r c k (upd tl t 1) pr) (x0 := x0) (n := 3600) (n' := 3600) h (Nat.le_trans (Nat.mul_le_mul_left 4 hlen') (by decide)) (fun m hm e p h1 h2 h3 => (zs_st_hole (bfx_V hV h2) (by omega) h3).1 (fun hu => hno ⟨m, hm, e, h1, hu⟩)) D (Nat.le_refl _)
    obtain ⟨i, f, e, a1, a2, a3, a4⟩ := this
    rw [Nat.sub_self] at a3
    obtain ⟨e', b1, b2, b3, _⟩ := h
    have : some e' = some e := b1.symm.trans a3
    cases this
    exact hl ⟨i, f, a1, by rw [a4]; exact b2, a2⟩
end NF
