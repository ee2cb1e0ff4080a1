/-! the tables of the stances, the rolls in numbers -/
def zs_CF : List Nat := [0, 1, 2, 3, 4, 5, 4, 2, 0, 3, 1, 5, 5, 3, 2, 0, 4, 1, 2, 4, 1, 3, 0, 5, 3, 5, 2, 1, 4, 0, 1, 0, 4, 3, 2, 5, 5, 3, 0, 4, 1, 2, 3, 5, 0, 2, 1, 4, 4, 2, 5, 0, 3, 1, 1, 0, 2, 5, 4, 3, 2, 4, 3, 0, 5, 1, 5, 3, 1, 2, 0, 4, 3, 5, 1, 4, 0, 2, 4, 2, 3, 1, 5, 0, 2, 4, 5, 1, 3, 0, 5, 3, 4, 1, 2, 0, 3, 5, 4, 0, 2, 1, 1, 0, 5, 4, 3, 2, 2, 4, 0, 5, 1, 3, 0, 1, 3, 4, 5, 2, 1, 0, 3, 2, 5, 4, 0, 1, 5, 2, 3, 4, 4, 2, 1, 5, 0, 3, 0, 1, 4, 5, 2, 3]
def zs_CP : List Nat := [0, 1, 2, 3, 4, 5, 2, 4, 1, 3, 0, 5, 3, 5, 2, 1, 4, 0, 4, 2, 0, 3, 1, 5, 5, 3, 2, 0, 4, 1, 1, 0, 4, 3, 2, 5, 2, 4, 5, 1, 3, 0, 2, 4, 3, 0, 5, 1, 3, 5, 1, 4, 0, 2, 1, 0, 2, 5, 4, 3, 3, 5, 0, 2, 1, 4, 4, 2, 3, 1, 5, 0, 4, 2, 5, 0, 3, 1, 5, 3, 1, 2, 0, 4, 5, 3, 0, 4, 1, 2, 5, 3, 4, 1, 2, 0, 3, 5, 4, 0, 2, 1, 1, 0, 5, 4, 3, 2, 2, 4, 0, 5, 1, 3, 0, 1, 5, 2, 3, 4, 1, 0, 3, 2, 5, 4, 0, 1, 3, 4, 5, 2, 4, 2, 1, 5, 0, 3, 0, 1, 4, 5, 2, 3]
def zs_CT : List Nat := [1, 2, 3, 4, 5, 6, 0, 7, 8, 9, 10, 0, 0, 11, 5, 12, 13, 0, 14, 9, 3, 15, 1, 16, 17, 18, 19, 1, 20, 1, 21, 18, 16, 17, 2, 21, 22, 4, 18, 2, 2, 20, 16, 19, 21, 22, 20, 3, 19, 3, 17, 22, 15, 19, 4, 20, 4, 21, 15, 17, 14, 23, 13, 5, 10, 5, 8, 23, 12, 14, 6, 8, 9, 7, 23, 6, 6, 10, 12, 13, 11, 13, 7, 10, 7, 8, 11, 14, 23, 12, 9, 11, 18, 16, 22, 15]
def zs_TF : List Nat := [0, 1, 2, 3, 3, 1, 2, 0, 2, 0, 3, 1, 1, 3, 0, 2, 2, 3, 0, 1, 1, 0, 3, 2, 3, 2, 1, 0, 0, 2, 1, 3, 0, 0, 0, 0, 0, 0, 0, 0, 0, 0, 0, 0, 0, 0, 0, 0, 0, 0, 0, 0, 0, 0, 0, 0, 0, 0, 0, 0, 0, 0, 0, 0, 0, 0, 0, 0, 0, 0, 0, 0, 0, 0, 0, 0, 0, 0, 0, 0, 0, 0, 0, 0, 0, 0, 0, 0, 0, 0, 0, 0, 0, 0, 0, 0]
def zs_TP : List Nat := [0, 1, 2, 3, 3, 1, 2, 0, 1, 3, 0, 2, 2, 0, 3, 1, 2, 3, 0, 1, 1, 0, 3, 2, 3, 2, 1, 0, 0, 2, 1, 3, 3, 0, 0, 0, 3, 0, 0, 0, 3, 0, 0, 0, 3, 0, 0, 0, 3, 0, 0, 0, 3, 0, 0, 0, 3, 0, 0, 0, 3, 0, 0, 0, 3, 0, 0, 0, 3, 0, 0, 0, 3, 0, 0, 0, 3, 0, 0, 0, 3, 0, 0, 0, 3, 0, 0, 0, 3, 0, 0, 0, 3, 0, 0, 0]
def zs_TT : List Nat := [1, 2, 1, 3, 0, 4, 0, 5, 5, 6, 5, 0, 4, 0, 4, 6, 3, 7, 3, 1, 2, 1, 2, 7, 7, 3, 7, 2, 6, 5, 6, 4, 0, 0, 0, 0, 0, 0, 0, 0, 0, 0, 0, 0, 0, 0, 0, 0, 0, 0, 0, 0, 0, 0, 0, 0, 0, 0, 0, 0, 0, 0, 0, 0, 0, 0, 0, 0, 0, 0, 0, 0, 0, 0, 0, 0, 0, 0, 0, 0, 0, 0, 0, 0, 0, 0, 0, 0, 0, 0, 0, 0, 0, 0, 0, 0]
def zs_FA (te : Bool) (s i : Nat) : Nat := if te then (if i < 4 then zs_TF.getD (4 * s + i) 0 else i) else zs_CF.getD (6 * s + i) 0
def zs_T (te : Bool) (s w : Nat) : Nat := if te then zs_TT.getD (4 * s + w) 0 else zs_CT.getD (4 * s + w) 0
def zs_ns (te : Bool) : Nat := if te then 8 else 24
abbrev zs_te (k : Nat) : Bool := decide (4 ≤ k)
/-- how a block lies in a stance: 0 it stands, 1 in a row, 2 one below the other -/
def zs_LC (s : Nat) : Nat := if zs_CP.getD (6 * s) 0 = 3 ∨ zs_CP.getD (6 * s) 0 = 5 then 1 else if zs_CP.getD (6 * s) 0 = 2 ∨ zs_CP.getD (6 * s) 0 = 4 then 2 else 0
def zs_lie (k s : Nat) : Nat := if k = 2 ∨ k = 3 then zs_LC s else 0
abbrev zs_weak (k l : Nat) : Prop := k = 1 ∨ (k = 3 ∧ ¬ l = 0)
abbrev zs_bar (k l : Nat) (x : Int32) : Prop := x = 1 ∨ (x = 2 ∧ zs_weak k l)
/-- the second tile of a solid that lies; of one that stands its own -/
def zs_snd (c l t : Nat) : Nat := if l = 1 then t + 1 else if l = 2 then t + c else t
abbrev zs_onB (r c row col l : Nat) : Prop := row < r ∧ col < c ∧ (l = 1 → col + 1 < c) ∧ (l = 2 → row + 1 < r)
abbrev zs_may (r c k : Nat) (tl : Nat → Int32) (row col l : Nat) : Prop := zs_onB r c row col l ∧ ¬ zs_bar k l (tl (row * c + col)) ∧ ¬ zs_bar k l (tl (zs_snd c l (row * c + col)))
def zs_far (k l w : Nat) : Nat := if k = 2 ∨ k = 3 then (if w = 1 then (if l = 1 then 2 else 1) else if w = 2 then (if l = 2 then 2 else 1) else (if l = 0 then 2 else 1)) else 1
def zs_fin (r c k : Nat) (tl : Nat → Int32) (row col s : Nat) : Option (Nat × Nat) := if zs_may r c k tl row col (zs_lie k s) then some (row * c + col, s) else none
def zs_sq (r c k : Nat) (tl : Nat → Int32) (pl s w : Nat) : Option (Nat × Nat) :=
  let row := pl / c
  let col := pl % c
  let far := zs_far k (zs_lie k s) w
  let s2 := zs_T false s w
  if w = 0 then (if row < far then none else zs_fin r c k tl (row - far) col s2)
  else if w = 1 then zs_fin r c k tl row (col + far) s2
  else if w = 2 then zs_fin r c k tl (row + far) col s2
  else (if col < far then none else zs_fin r c k tl row (col - far) s2)
def zs_tfin (r c k : Nat) (tl pr : Nat → Int32) (row j s : Nat) : Option (Nat × Nat) := if row < r ∧ j < 2 * c ∧ ¬ tl (row * c + j / 2) = 1 ∧ ¬ (k = 5 ∧ ¬ pr (row * c + j / 2) = -1) then some (row * (2 * c) + j, s) else none
def zs_tt (r c k : Nat) (tl pr : Nat → Int32) (pl s w : Nat) : Option (Nat × Nat) :=
  let row := pl / (2 * c)
  let j := pl % (2 * c)
  let s2 := zs_T true s w
  let up := (row + j) % 2 = 0
  if w = 0 then (if up ∨ row = 0 then none else zs_tfin r c k tl pr (row - 1) j s2)
  else if w = 1 then zs_tfin r c k tl pr row (j + 1) s2
  else if w = 2 then (if up then zs_tfin r c k tl pr (row + 1) j s2 else none)
  else (if j = 0 then none else zs_tfin r c k tl pr row (j - 1) s2)
/-- the state behind a roll: place and stance -/
def zs_roll (r c k : Nat) (tl pr : Nat → Int32) (pl s w : Nat) : Option (Nat × Nat) := if 4 ≤ k then zs_tt r c k tl pr pl s w else zs_sq r c k tl pl s w
/-- the board's and the solid's numbers are in their bounds -/
abbrev zs_dim (r c k : Nat) : Prop := 0 < r ∧ r ≤ 6 ∧ 0 < c ∧ c ≤ 6 ∧ k < 6
def zs_np (r c k : Nat) : Nat := if 4 ≤ k then 2 * (r * c) else r * c
/-- a state: place and stance, all on the board -/
def zs_ok (r c k pl s : Nat) : Prop := pl < zs_np r c k ∧ s < zs_ns (zs_te k) ∧ (¬ 4 ≤ k → zs_onB r c (pl / c) (pl % c) (zs_lie k s))
theorem zs_T_lt : ∀ te : Bool, ∀ s, s < zs_ns te → ∀ w, w < 4 → zs_T te s w < zs_ns te := by
  intro te
  cases te
  · exact (by decide +kernel : ∀ s, s < 24 → ∀ w, w < 4 → zs_T false s w < 24)
  · exact (by decide +kernel : ∀ s, s < 8 → ∀ w, w < 4 → zs_T true s w < 8)
theorem zs_LC_lt (s : Nat) : zs_LC s < 3 := by
  unfold zs_LC
  split
  · omega
  split <;> omega
theorem zs_lie_lt (k s : Nat) : zs_lie k s < 3 := by
  unfold zs_lie
  split
  · exact zs_LC_lt s
  · omega
theorem zs_lie_no {k : Nat} (h : ¬ (k = 2 ∨ k = 3)) (s : Nat) : zs_lie k s = 0 := if_neg h
theorem zs_rc {r c : Nat} (hr : r ≤ 6) (hc : c ≤ 6) : r * c ≤ 36 := Nat.mul_le_mul hr hc
theorem zs_cell {r c row col : Nat} (h : row < r) (hc : col < c) : row * c + col < r * c := by
  have h1 : (row + 1) * c ≤ r * c := Nat.mul_le_mul_right c h
  rw [Nat.succ_mul] at h1
  omega
theorem zs_divmod {c row col : Nat} (hc : col < c) : (row * c + col) / c = row ∧ (row * c + col) % c = col := by
  have h0 : 0 < c := by omega
  constructor
  · rw [Nat.mul_comm, Nat.mul_add_div h0, Nat.div_eq_of_lt hc, Nat.add_zero]
  · rw [Nat.mul_comm, Nat.mul_add_mod, Nat.mod_eq_of_lt hc]
theorem zs_div_lt {r c pl : Nat} (h : pl < r * c) : pl / c < r ∧ pl % c < c := by
  have h0 : 0 < c := by
    rcases Nat.eq_zero_or_pos c with q | q
    · rw [q, Nat.mul_zero] at h; omega
    · exact q
  exact ⟨(Nat.div_lt_iff_lt_mul h0).mpr h, Nat.mod_lt _ h0⟩
theorem zs_divadd (pl c : Nat) : pl / c * c + pl % c = pl := by rw [Nat.mul_comm]; exact Nat.div_add_mod pl c
theorem zs_fin_ok {r c k : Nat} {tl : Nat → Int32} {row col s : Nat} {q : Nat × Nat} (hk : ¬ 4 ≤ k) (hs : s < 24) (h : zs_fin r c k tl row col s = some q) : zs_ok r c k q.1 q.2 := by
  unfold zs_fin at h
  split at h
  · rename_i hm
    cases h
    obtain ⟨hb, -, -⟩ := hm
    have hd := zs_divmod (row := row) hb.2.1
    refine ⟨?_, ?_, fun _ => ?_⟩
    · rw [zs_np, if_neg hk]; exact zs_cell hb.1 hb.2.1
    · rw [show zs_te k = false from decide_eq_false hk]; exact hs
    · rw [hd.1, hd.2]; exact hb
  · cases h
theorem zs_tfin_ok {r c k : Nat} {tl pr : Nat → Int32} {row j s : Nat} {q : Nat × Nat} (hk : 4 ≤ k) (hs : s < 8) (h : zs_tfin r c k tl pr row j s = some q) : zs_ok r c k q.1 q.2 := by
  unfold zs_tfin at h
  split at h
  · rename_i hm
    cases h
    refine ⟨?_, ?_, fun q => absurd hk q⟩
    · rw [zs_np, if_pos hk]
      have := zs_cell (c := 2 * c) hm.1 hm.2.1
      rw [show 2 * (r * c) = r * (2 * c) from by rw [Nat.mul_left_comm]]
      exact this
    · rw [show zs_te k = true from decide_eq_true hk]; exact hs
  · cases h
theorem zs_roll_ok {r c k : Nat} {tl pr : Nat → Int32} {pl s w : Nat} {q : Nat × Nat} (hs : s < zs_ns (zs_te k)) (hw : w < 4) (h : zs_roll r c k tl pr pl s w = some q) : zs_ok r c k q.1 q.2 := by
  unfold zs_roll at h
  split at h
  · rename_i hk
    have h8 : zs_T true s w < 8 := zs_T_lt true s (by rw [show zs_te k = true from decide_eq_true hk] at hs; exact hs) w hw
    unfold zs_tt at h
    simp only at h
    split at h
    · split at h
      · cases h
      · exact zs_tfin_ok hk h8 h
    split at h
    · exact zs_tfin_ok hk h8 h
    split at h
    · split at h
      · exact zs_tfin_ok hk h8 h
      · cases h
    split at h
    · cases h
    · exact zs_tfin_ok hk h8 h
  · rename_i hk
    have h24 : zs_T false s w < 24 := zs_T_lt false s (by rw [show zs_te k = false from decide_eq_false hk] at hs; exact hs) w hw
    unfold zs_sq at h
    simp only at h
    split at h
    · split at h
      · cases h
      · exact zs_fin_ok hk h24 h
    split at h
    · exact zs_fin_ok hk h24 h
    split at h
    · exact zs_fin_ok hk h24 h
    split at h
    · cases h
    · exact zs_fin_ok hk h24 h
