theorem fb_holes : ∀ (m n : Nat) (f : Nat → Nat), (∀ i, i < n → f i < m) → (∀ i j, i < j → j < n → f i ≠ f j) → n ≤ m := by
  intro m
  induction m with
  | zero =>
    intro n f h1 _
    rcases Nat.eq_zero_or_pos n with h | h
    · omega
    · exact absurd (h1 0 h) (Nat.not_lt_zero _)
  | succ m ih =>
    intro n f h1 h2
    by_cases hx : ∃ i, i < n ∧ f i = m
    · obtain ⟨a, ha, hfa⟩ := hx
      have hg := ih (n - 1) (fun i => if i < a then f i else f (i + 1)) (by
        intro i hi
        by_cases q : i < a
        · simp only [if_pos q]
          have b1 := h1 i (by omega)
          have b2 := h2 i a q ha
          omega
        · simp only [if_neg q]
          have b1 := h1 (i + 1) (by omega)
          have b2 := h2 a (i + 1) (by omega) (by omega)
          omega) (by
        intro i j hij hj
        by_cases q : i < a
        · by_cases r : j < a
          · simp only [if_pos q, if_pos r]
            exact h2 i j hij (by omega)
          · simp only [if_pos q, if_neg r]
            exact h2 i (j + 1) (by omega) (by omega)
        · have r : ¬ j < a := by omega
          simp only [if_neg q, if_neg r]
          exact h2 (i + 1) (j + 1) (by omega) (by omega))
      omega
    · have hg := ih n f (fun i hi => by
        have b1 := h1 i hi
        have b2 : f i ≠ m := fun e => hx ⟨i, hi, e⟩
        omega) h2
      omega
/-! the states as numbers: place times 24 and the stance -/
def zs_st (r c k : Nat) (tl pr : Nat → Int32) (x w : Nat) : Option Nat := (zs_roll r c k tl pr (x / 24) (x % 24) w).map (fun q => 24 * q.1 + q.2)
def zs_V (r c k x : Nat) : Prop := zs_ok r c k (x / 24) (x % 24)
theorem zs_ns_le (te : Bool) : zs_ns te ≤ 24 := by cases te <;> decide
theorem zs_code_dm {pl s : Nat} (hs : s < 24) : (24 * pl + s) / 24 = pl ∧ (24 * pl + s) % 24 = s := ⟨by omega, by omega⟩
theorem zs_V_code {r c k pl s : Nat} (h : zs_ok r c k pl s) : zs_V r c k (24 * pl + s) := by
  have hs : s < 24 := Nat.lt_of_lt_of_le h.2.1 (zs_ns_le _)
  unfold zs_V
  rw [(zs_code_dm hs).1, (zs_code_dm hs).2]
  exact h
theorem zs_st_V {r c k : Nat} {tl pr : Nat → Int32} {x w y : Nat} (hx : zs_V r c k x) (hw : w < 4) (h : zs_st r c k tl pr x w = some y) : zs_V r c k y := by
  unfold zs_st at h
  cases hq : zs_roll r c k tl pr (x / 24) (x % 24) w with
  | none => rw [hq] at h; cases h
  | some q =>
    rw [hq] at h
    have : 24 * q.1 + q.2 = y := Option.some.inj h
    rw [← this]
    exact zs_V_code (zs_roll_ok hx.2.1 hw hq)
theorem zs_st_some {r c k : Nat} {tl pr : Nat → Int32} {pl s w pl2 s2 : Nat} (hs : s < 24) (h : zs_roll r c k tl pr pl s w = some (pl2, s2)) : zs_st r c k tl pr (24 * pl + s) w = some (24 * pl2 + s2) := by
  unfold zs_st
  rw [(zs_code_dm hs).1, (zs_code_dm hs).2, h]
  rfl
theorem zs_st_none {r c k : Nat} {tl pr : Nat → Int32} {pl s w : Nat} (hs : s < 24) (h : zs_roll r c k tl pr pl s w = none) : zs_st r c k tl pr (24 * pl + s) w = none := by
  unfold zs_st
  rw [(zs_code_dm hs).1, (zs_code_dm hs).2, h]
  rfl
theorem zs_V_lt {r c k x : Nat} (hd : zs_dim r c k) (h : zs_V r c k x) : x < 1728 ∧ x / 24 < 72 := by
  have hrc := zs_rc hd.2.1 hd.2.2.2.1
  have h1 := h.1
  unfold zs_np at h1
  split at h1 <;> omega
/-- places for the states in a row of 864 -/
def zs_slot (k x : Nat) : Nat := if 4 ≤ k then 8 * (x / 24) + x % 24 else x
theorem zs_slot_lt {r c k x : Nat} (hd : zs_dim r c k) (h : zs_V r c k x) : zs_slot k x < 864 := by
  have hrc := zs_rc hd.2.1 hd.2.2.2.1
  obtain ⟨h1, h2, _⟩ := h
  unfold zs_np at h1
  unfold zs_slot
  by_cases hk : 4 ≤ k
  · rw [if_pos hk] at h1 ⊢
    rw [show zs_te k = true from decide_eq_true hk] at h2
    have h3 : x % 24 < 8 := h2
    omega
  · rw [if_neg hk] at h1 ⊢
    omega
theorem zs_slot_inj {r c k x y : Nat} (hx : zs_V r c k x) (hy : zs_V r c k y) (h : zs_slot k x = zs_slot k y) : x = y := by
  unfold zs_slot at h
  by_cases hk : 4 ≤ k
  · rw [if_pos hk, if_pos hk] at h
    have h2 := hx.2.1
    have h3 := hy.2.1
    rw [show zs_te k = true from decide_eq_true hk] at h2 h3
    have h2 : x % 24 < 8 := h2
    have h3 : y % 24 < 8 := h3
    omega
  · rw [if_neg hk, if_neg hk] at h
    exact h
theorem bf_count {r c k : Nat} {tl pr : Nat → Int32} {x0 : Nat} (hd : zs_dim r c k) (h0 : zs_V r c k x0) (n : Nat) : (bf (zs_st r c k tl pr) x0 n).length ≤ 864 := by
  refine fb_holes 864 _ (fun i => zs_slot k (((bf (zs_st r c k tl pr) x0 n).getD i (0, 0, 0)).1)) (fun i hi => ?_) (fun i j hij hj => ?_)
  · have he : (bf (zs_st r c k tl pr) x0 n)[i]? = some ((bf (zs_st r c k tl pr) x0 n).getD i (0, 0, 0)) := by
      rw [List.getD_eq_getElem?_getD, List.getElem?_eq_getElem hi]; rfl
    exact zs_slot_lt hd (bf_all (zs_V r c k) h0 (fun x w y hx hw h => zs_st_V hx hw h) n i _ he)
  · have hi : i < (bf (zs_st r c k tl pr) x0 n).length := Nat.lt_trans hij hj
    have he : (bf (zs_st r c k tl pr) x0 n)[i]? = some ((bf (zs_st r c k tl pr) x0 n).getD i (0, 0, 0)) := by
      rw [List.getD_eq_getElem?_getD, List.getElem?_eq_getElem hi]; rfl
    have hf : (bf (zs_st r c k tl pr) x0 n)[j]? = some ((bf (zs_st r c k tl pr) x0 n).getD j (0, 0, 0)) := by
      rw [List.getD_eq_getElem?_getD, List.getElem?_eq_getElem hj]; rfl
    intro e
    have v1 := bf_all (zs_V r c k) h0 (fun x w y hx hw h => zs_st_V hx hw h) n i _ he
    have v2 := bf_all (zs_V r c k) h0 (fun x w y hx hw h => zs_st_V hx hw h) n j _ hf
    have := bf_nodup n i j _ _ he hf (zs_slot_inj v1 v2 e)
    omega
/-- the whole list: all that can be come to -/
def bfx (r c k : Nat) (tl pr : Nat → Int32) (x0 : Nat) : List (Nat × Nat × Nat) := bf (zs_st r c k tl pr) x0 3600
theorem bfx_len {r c k : Nat} {tl pr : Nat → Int32} {x0 : Nat} (hd : zs_dim r c k) (h0 : zs_V r c k x0) : (bfx r c k tl pr x0).length ≤ 864 := bf_count hd h0 3600
theorem bfx_at {r c k : Nat} {tl pr : Nat → Int32} {x0 : Nat} (n : Nat) (hn : n ≤ 3600) (h : (bf (zs_st r c k tl pr) x0 n).length ≤ n / 4) : bfx r c k tl pr x0 = bf (zs_st r c k tl pr) x0 n := bf_stable2 n 3600 h hn
/-- the reference's key of a state -/
def zs_lowkey (te : Bool) (s : Nat) : Nat := if te then 16 * zs_FA true s 0 + 4 * zs_FA true s 1 + zs_FA true s 2 else 6 * zs_FA false s 1 + zs_FA false s 3
def zs_key (te : Bool) (x : Nat) : Nat := 64 * (x / 24) + zs_lowkey te (x % 24)
theorem zs_lowkey_lt : ∀ te : Bool, ∀ s, s < zs_ns te → zs_lowkey te s < 64 := by
  intro te
  cases te
  · exact (by decide +kernel : ∀ s, s < 24 → zs_lowkey false s < 64)
  · exact (by decide +kernel : ∀ s, s < 8 → zs_lowkey true s < 64)
theorem zs_lowkey_inj : ∀ te : Bool, ∀ s, s < zs_ns te → ∀ t, t < zs_ns te → zs_lowkey te s = zs_lowkey te t → s = t := by
  intro te
  cases te
  · exact (by decide +kernel : ∀ s, s < 24 → ∀ t, t < 24 → zs_lowkey false s = zs_lowkey false t → s = t)
  · exact (by decide +kernel : ∀ s, s < 8 → ∀ t, t < 8 → zs_lowkey true s = zs_lowkey true t → s = t)
theorem zs_key_inj {te : Bool} {x y : Nat} (hx : x % 24 < zs_ns te) (hy : y % 24 < zs_ns te) (h : zs_key te x = zs_key te y) : x = y := by
  have a := zs_lowkey_lt te _ hx
  have b := zs_lowkey_lt te _ hy
  unfold zs_key at h
  have h1 : x / 24 = y / 24 := by omega
  have h2 : zs_lowkey te (x % 24) = zs_lowkey te (y % 24) := by omega
  have := zs_lowkey_inj te _ hx _ hy h2
  omega
theorem zs_key_lt {te : Bool} {x : Nat} (hx : x % 24 < zs_ns te) (h : x / 24 < 72) : zs_key te x < 4608 := by
  have a := zs_lowkey_lt te _ hx
  unfold zs_key
  omega
