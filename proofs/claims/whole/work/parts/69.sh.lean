/-! the soonest walk: the first goal's parents, and the first ways that still lead there -/
section WA
variable {st : Nat → Nat → Option Nat} {x0 : Nat}
theorem bf_al (n i : Nat) (e : Nat × Nat × Nat) (h : (bf st x0 n)[i]? = some e) : i < (bf st x0 (4 * i)).length := by
  rcases Nat.eq_zero_or_pos i with z | z
  · rw [z]; exact bf_pos _
  · obtain ⟨a1, a2, a3, p, a4, a5, _, a7⟩ := bf_ent n i e h z
    have h1 : (bf st x0 (e.2.1 + 1)).length ≤ (bf st x0 (4 * i)).length := bf_len _ _ (by omega)
    have hp' : (bf st x0 e.2.1)[e.2.1 / 4]? = some p := by rw [← bf_pre (st := st) (x0 := x0) e.2.1 n (Nat.le_of_lt a1) _ (by omega)]; exact a4
    have h2 := bf_S3 (st := st) (x0 := x0) hp' a5 a7
    rw [h2, List.length_append, a2] at h1
    simp only [List.length_cons, List.length_nil] at h1
    omega
/-- where a roll leads is born no later than it -/
theorem bf_bef (n : Nat) (i w y j : Nat) (e f : Nat × Nat × Nat) (h : (bf st x0 n)[i]? = some e) (hn : 4 * i + w < n) (hw : w < 4) (hy : st e.1 w = some y) (hj : (bf st x0 n)[j]? = some f) (hf : f.1 = y) : j = 0 ∨ f.2.1 ≤ 4 * i + w := by
  have hdiv : (4 * i + w) / 4 = i := by omega
  have hmod : (4 * i + w) % 4 = w := by omega
  have hal := bf_al n i e h
  obtain ⟨i', f', b1, b2, b3, b4⟩ := bf_done n (4 * i + w) hn e y (by rw [hdiv]; exact h) (by rw [hdiv]; have := bf_len (st := st) (x0 := x0) (4 * i) (4 * i + w) (by omega); omega) (by rw [hmod]; exact hy)
  have : i' = j := bf_nodup n i' j f' f b1 hj (by rw [b2, hf])
  subst this
  rw [hj] at b1
  cases b1
  exact b4
def OKn (st : Nat → Nat → Option Nat) (l : List (Nat × Nat × Nat)) (G : Nat → Prop) (D : Nat) : Nat → Nat → Prop
  | 0, j => ∃ e : Nat × Nat × Nat, l[j]? = some e ∧ e.2.2 = D ∧ G e.1
  | m + 1, j => ∃ (e : Nat × Nat × Nat) (w y j' : Nat) (f : Nat × Nat × Nat), l[j]? = some e ∧ w < 4 ∧ st e.1 w = some y ∧ l[j']? = some f ∧ f.1 = y ∧ f.2.2 = e.2.2 + 1 ∧ OKn st l G D m j'
def OKx (st : Nat → Nat → Option Nat) (l : List (Nat × Nat × Nat)) (G : Nat → Prop) (D : Nat) (j : Nat) : Prop := ∃ m, OKn st l G D m j
theorem OKn.far {l : List (Nat × Nat × Nat)} {G : Nat → Prop} {D : Nat} : ∀ {m j : Nat}, OKn st l G D m j → ∃ e : Nat × Nat × Nat, l[j]? = some e ∧ e.2.2 + m = D := by
  intro m
  induction m with
  | zero => rintro j ⟨e, a, b, _⟩; exact ⟨e, a, b⟩
  | succ m ih =>
    rintro j ⟨e, w, y, j', f, a1, a2, a3, a4, a5, a6, a7⟩
    obtain ⟨f', b1, b2⟩ := ih a7
    rw [a4] at b1
    cases b1
    exact ⟨e, a1, by omega⟩
/-- the parent -/
def zpa (l : List (Nat × Nat × Nat)) (i : Nat) : Nat := match l[i]? with
  | some e => e.2.1 / 4
  | none => 0
theorem zpa_e {l : List (Nat × Nat × Nat)} {i : Nat} {e : Nat × Nat × Nat} (h : l[i]? = some e) : zpa l i = e.2.1 / 4 := by
  unfold zpa
  rw [h]
def zan (l : List (Nat × Nat × Nat)) (g : Nat) : Nat → Nat
  | 0 => g
  | m + 1 => zpa l (zan l g m)
/-- the first goal -/
def FX (l : List (Nat × Nat × Nat)) (G : Nat → Prop) (D g : Nat) : Prop := ∃ e : Nat × Nat × Nat, l[g]? = some e ∧ G e.1 ∧ e.2.2 = D ∧ ∀ j, j < g → ∀ z : Nat × Nat × Nat, l[j]? = some z → ¬ G z.1
theorem zan_ok {n : Nat} {G : Nat → Prop} {D g : Nat} (h : FX (bf st x0 n) G D g) : ∀ m, m ≤ D → ∃ e : Nat × Nat × Nat, (bf st x0 n)[zan (bf st x0 n) g m]? = some e ∧ e.2.2 + m = D ∧ OKn st (bf st x0 n) G D m (zan (bf st x0 n) g m) := by
  intro m
  induction m with
  | zero => intro _; obtain ⟨e, a, b, c, _⟩ := h; exact ⟨e, a, c, e, a, c, b⟩
  | succ m ih =>
    intro hm
    obtain ⟨e, a, b, c⟩ := ih (by omega)
    have h0 : 0 < zan (bf st x0 n) g m := by
      rcases Nat.eq_zero_or_pos (zan (bf st x0 n) g m) with z | z
      · rw [z, bf_0] at a
        cases a
        have : 0 + m = D := b
        omega
      · exact z
    obtain ⟨a1, a2, a3, p, a4, a5, a6, a7⟩ := bf_ent n _ e a h0
    have ez : zan (bf st x0 n) g (m + 1) = e.2.1 / 4 := zpa_e a
    rw [ez]
    exact ⟨p, a4, by omega, p, e.2.1 % 4, e.1, zan (bf st x0 n) g m, e, a4, by omega, a5, a, rfl, a6, c⟩
theorem zan_pos {n : Nat} {G : Nat → Prop} {D g : Nat} (h : FX (bf st x0 n) G D g) {m : Nat} (hm : m < D) : 0 < zan (bf st x0 n) g m := by
  obtain ⟨e, a, b, _⟩ := zan_ok h m (by omega)
  rcases Nat.eq_zero_or_pos (zan (bf st x0 n) g m) with z | z
  · rw [z, bf_0] at a
    cases a
    have : 0 + m = D := b
    omega
  · exact z
theorem zan_top {n : Nat} {G : Nat → Prop} {D g : Nat} (h : FX (bf st x0 n) G D g) : zan (bf st x0 n) g D = 0 := by
  obtain ⟨e, a, b, _⟩ := zan_ok h D (Nat.le_refl _)
  rcases Nat.eq_zero_or_pos (zan (bf st x0 n) g D) with z | z
  · exact z
  · obtain ⟨a1, a2, a3, p, a4, a5, a6, a7⟩ := bf_ent n _ e a z
    omega
/-- born later, or not at all -/
theorem bf_low {n j i : Nat} {f e : Nat × Nat × Nat} (hj : (bf st x0 n)[j]? = some f) (hi : (bf st x0 n)[i]? = some e) (h0 : 0 < i) (h : j = 0 ∨ f.2.1 < e.2.1) : j < i := by
  rcases h with z | z
  · omega
  · rcases Nat.lt_or_ge j i with u | u
    · exact u
    · rcases Nat.lt_or_ge i j with v | v
      · have := bf_born n i j e f hi hj h0 v
        omega
      · have : i = j := by omega
        subst this
        rw [hj] at hi
        cases hi
        omega
theorem zan_less {n : Nat} {G : Nat → Prop} {D g : Nat} (h : FX (bf st x0 n) G D g) (hn : 4 * (bf st x0 n).length ≤ n) : ∀ m, m ≤ D → ∀ j, j < zan (bf st x0 n) g m → ¬ OKn st (bf st x0 n) G D m j := by
  intro m
  induction m with
  | zero =>
    rintro _ j hj ⟨e, a, b, c⟩
    obtain ⟨_, _, _, _, h4⟩ := h
    exact h4 j hj e a c
  | succ m ih =>
    rintro hm j hj ⟨e, w, y, j', f, a1, a2, a3, a4, a5, a6, a7⟩
    refine ih (by omega) j' ?_ a7
    obtain ⟨eg, b1, b2, _⟩ := zan_ok h m (by omega)
    have h0 := zan_pos h (m := m) (by omega)
    have ez : zan (bf st x0 n) g (m + 1) = eg.2.1 / 4 := zpa_e b1
    have hjl := (List.getElem?_eq_some_iff.mp a1).1
    refine bf_low a4 b1 h0 ?_
    rcases bf_bef n j w y j' e f a1 (by omega) a2 a3 a4 a5 with z | z
    · exact Or.inl z
    · exact Or.inr (by omega)
end WA
