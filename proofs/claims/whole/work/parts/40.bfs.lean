/-! the search in numbers: the list of states come to, after n small steps (state number n / 4, way n % 4); an entry is (state, its step, how far) -/
def bf_S (st : Nat → Nat → Option Nat) (n : Nat) (l : List (Nat × Nat × Nat)) : List (Nat × Nat × Nat) :=
  match l[n / 4]? with
  | none => l
  | some e => match st e.1 (n % 4) with
    | none => l
    | some y => if ∃ z ∈ l, z.1 = y then l else l ++ [(y, n, e.2.2 + 1)]
def bf (st : Nat → Nat → Option Nat) (x0 : Nat) : Nat → List (Nat × Nat × Nat)
  | 0 => [(x0, 0, 0)]
  | n + 1 => bf_S st n (bf st x0 n)
section BF
variable {st : Nat → Nat → Option Nat} {x0 : Nat}
theorem bf_S_cases (n : Nat) (l : List (Nat × Nat × Nat)) : bf_S st n l = l ∨ ∃ e y, l[n / 4]? = some e ∧ st e.1 (n % 4) = some y ∧ (¬ ∃ z ∈ l, z.1 = y) ∧ bf_S st n l = l ++ [(y, n, e.2.2 + 1)] := by
  unfold bf_S
  split
  · exact Or.inl rfl
  · rename_i e he
    split
    · exact Or.inl rfl
    · rename_i y hy
      by_cases h : ∃ z ∈ l, z.1 = y
      · rw [if_pos h]; exact Or.inl rfl
      · rw [if_neg h]; exact Or.inr ⟨e, y, he, hy, h, rfl⟩
theorem bf_pre1 (n i : Nat) (h : i < (bf st x0 n).length) : (bf st x0 (n + 1))[i]? = (bf st x0 n)[i]? := by
  show (bf_S st n (bf st x0 n))[i]? = _
  rcases bf_S_cases (st := st) n (bf st x0 n) with q | ⟨e, y, _, _, _, q⟩
  · rw [q]
  · rw [q, List.getElem?_append_left h]
theorem bf_len1 (n : Nat) : (bf st x0 n).length ≤ (bf st x0 (n + 1)).length := by
  show _ ≤ (bf_S st n (bf st x0 n)).length
  rcases bf_S_cases (st := st) n (bf st x0 n) with q | ⟨e, y, _, _, _, q⟩
  · rw [q]; exact Nat.le_refl _
  · rw [q, List.length_append]; exact Nat.le_add_right _ _
theorem bf_len (n m : Nat) (h : n ≤ m) : (bf st x0 n).length ≤ (bf st x0 m).length := by
  induction m with
  | zero => rw [show n = 0 from by omega]; exact Nat.le_refl _
  | succ m ih =>
    rcases Nat.lt_or_ge m n with q | q
    · rw [show n = m + 1 from by omega]; exact Nat.le_refl _
    · exact Nat.le_trans (ih q) (bf_len1 m)
theorem bf_pre (n m : Nat) (h : n ≤ m) (i : Nat) (hi : i < (bf st x0 n).length) : (bf st x0 m)[i]? = (bf st x0 n)[i]? := by
  induction m with
  | zero => rw [show n = 0 from by omega]
  | succ m ih =>
    rcases Nat.lt_or_ge m n with q | q
    · rw [show n = m + 1 from by omega]
    · rw [bf_pre1 m i (Nat.lt_of_lt_of_le hi (bf_len n m q))]; exact ih q
theorem bf_0 (n : Nat) : (bf st x0 n)[0]? = some (x0, 0, 0) := by
  rw [bf_pre 0 n (Nat.zero_le n) 0 (Nat.lt_succ_self 0)]
  rfl
theorem bf_pos (n : Nat) : 0 < (bf st x0 n).length := Nat.lt_of_lt_of_le (Nat.lt_succ_self 0) (bf_len (st := st) (x0 := x0) 0 n (Nat.zero_le n))
/-- what an entry says -/
theorem bf_ent (n i : Nat) (e : Nat × Nat × Nat) (h : (bf st x0 n)[i]? = some e) (h0 : 0 < i) : e.2.1 < n ∧ (bf st x0 e.2.1).length = i ∧ e.2.1 / 4 < i ∧ ∃ p, (bf st x0 n)[e.2.1 / 4]? = some p ∧ st p.1 (e.2.1 % 4) = some e.1 ∧ e.2.2 = p.2.2 + 1 ∧ ¬ ∃ z ∈ bf st x0 e.2.1, z.1 = e.1 := by
  induction n with
  | zero =>
    have : i < 1 := (List.getElem?_eq_some_iff.mp h).1
    omega
  | succ n ih =>
    have hl := (List.getElem?_eq_some_iff.mp h).1
    rcases Nat.lt_or_ge i (bf st x0 n).length with q | q
    · rw [bf_pre1 n i q] at h
      obtain ⟨a1, a2, a3, p, a4, a5⟩ := ih h
      exact ⟨by omega, a2, a3, p, by rw [bf_pre1 n _ (Nat.lt_trans a3 q)]; exact a4, a5⟩
    · have h' : (bf_S st n (bf st x0 n))[i]? = some e := h
      rcases bf_S_cases (st := st) n (bf st x0 n) with z | ⟨p, y, b1, b2, b3, z⟩
      · rw [z] at h'
        have := (List.getElem?_eq_some_iff.mp h').1
        omega
      · rw [z] at h'
        have hl2 := (List.getElem?_eq_some_iff.mp h').1
        rw [List.length_append] at hl2
        have hi : i = (bf st x0 n).length := by
          simp only [List.length_cons, List.length_nil] at hl2
          omega
        rw [List.getElem?_append_right (by omega), hi, Nat.sub_self] at h'
        have he : (y, n, p.2.2 + 1) = e := Option.some.inj h'
        subst he
        have hp := (List.getElem?_eq_some_iff.mp b1).1
        exact ⟨Nat.lt_succ_self n, hi.symm, by rw [hi]; exact hp, p, by rw [bf_pre1 n _ hp]; exact b1, b2, rfl, b3⟩
theorem bf_nodup (n i j : Nat) (e f : Nat × Nat × Nat) (hi : (bf st x0 n)[i]? = some e) (hj : (bf st x0 n)[j]? = some f) (h : e.1 = f.1) : i = j := by
  have key : ∀ (i j : Nat) (e f : Nat × Nat × Nat), (bf st x0 n)[i]? = some e → (bf st x0 n)[j]? = some f → e.1 = f.1 → i < j → False := by
    intro i j e f hi hj h hij
    obtain ⟨a1, a2, a3, p, a4, a5, a6, a7⟩ := bf_ent n j f hj (by omega)
    refine a7 ⟨e, ?_, h⟩
    have : (bf st x0 f.2.1)[i]? = some e := by
      rw [← bf_pre f.2.1 n (Nat.le_of_lt a1) i (by omega)]; exact hi
    exact List.mem_of_getElem? this
  rcases Nat.lt_trichotomy i j with q | q | q
  · exact (key i j e f hi hj h q).elim
  · exact q
  · exact (key j i f e hj hi h.symm q).elim
/-- a good that the start has and each roll keeps -/
theorem bf_all (V : Nat → Prop) (h0 : V x0) (hs : ∀ x w y, V x → w < 4 → st x w = some y → V y) (n i : Nat) (e : Nat × Nat × Nat) (h : (bf st x0 n)[i]? = some e) : V e.1 := by
  induction i using Nat.strongRecOn generalizing e with
  | ind i ih =>
    rcases Nat.eq_zero_or_pos i with q | q
    · rw [q, bf_0] at h
      have := Option.some.inj h
      rw [← this]
      exact h0
    · obtain ⟨_, _, a3, p, a4, a5, _⟩ := bf_ent n i e h q
      exact hs p.1 _ _ (ih _ a3 p a4) (Nat.mod_lt _ (by decide)) a5
/-- the steps of the entries grow -/
theorem bf_born (n i j : Nat) (e f : Nat × Nat × Nat) (hi : (bf st x0 n)[i]? = some e) (hj : (bf st x0 n)[j]? = some f) (h0 : 0 < i) (hij : i < j) : e.2.1 < f.2.1 := by
  obtain ⟨a1, a2, _⟩ := bf_ent n i e hi h0
  obtain ⟨b1, b2, _⟩ := bf_ent n j f hj (by omega)
  rcases Nat.lt_or_ge e.2.1 f.2.1 with q | q
  · exact q
  · have := bf_len (st := st) (x0 := x0) f.2.1 e.2.1 q
    omega
/-- what a state's way leads to is in the list once the step is done, and not later than then -/
theorem bf_done (n t : Nat) (ht : t < n) (e : Nat × Nat × Nat) (y : Nat) (h : (bf st x0 n)[t / 4]? = some e) (hl : t / 4 < (bf st x0 t).length) (hy : st e.1 (t % 4) = some y) : ∃ i f, (bf st x0 n)[i]? = some f ∧ f.1 = y ∧ i < (bf st x0 (t + 1)).length ∧ (i = 0 ∨ f.2.1 ≤ t) := by
  have he : (bf st x0 t)[t / 4]? = some e := by rw [← bf_pre t n (Nat.le_of_lt ht) _ hl]; exact h
  have key : ∃ z ∈ bf st x0 (t + 1), z.1 = y := by
    show ∃ z ∈ bf_S st t (bf st x0 t), z.1 = y
    unfold bf_S
    rw [he]
    simp only [hy]
    by_cases q : ∃ z ∈ bf st x0 t, z.1 = y
    · rw [if_pos q]; exact q
    · rw [if_neg q]; exact ⟨(y, t, e.2.2 + 1), List.mem_append_right _ List.mem_cons_self, rfl⟩
  obtain ⟨f, hf, hfy⟩ := key
  obtain ⟨i, hi⟩ := List.mem_iff_getElem?.mp hf
  have hil := (List.getElem?_eq_some_iff.mp hi).1
  refine ⟨i, f, by rw [bf_pre (t + 1) n ht i hil]; exact hi, hfy, hil, ?_⟩
  rcases Nat.eq_zero_or_pos i with q | q
  · exact Or.inl q
  · have := (bf_ent (t + 1) i f hi q).1
    exact Or.inr (by omega)
theorem bf_stable (n : Nat) (h : (bf st x0 n).length ≤ n / 4) : bf st x0 (n + 1) = bf st x0 n := by
  show bf_S st n (bf st x0 n) = _
  unfold bf_S
  rw [List.getElem?_eq_none h]
theorem bf_stable2 (n m : Nat) (h : (bf st x0 n).length ≤ n / 4) (hm : n ≤ m) : bf st x0 m = bf st x0 n := by
  induction m with
  | zero => rw [show n = 0 from by omega]
  | succ m ih =>
    rcases Nat.lt_or_ge m n with q | q
    · rw [show n = m + 1 from by omega]
    · have e := ih q
      rw [bf_stable m (by rw [e]; omega), e]
end BF
