section C2
variable {σ : zz_St} {r c k : Nat} {tl pr : Nat → Int32} {Q : Int32 → Prop}
theorem e6_rowOf {a n : Nat} (ha : a < 2 ^ 31) (h0 : 0 < n) (hn : n < 2 ^ 31) (h : Q (nI (a / n))) : zq6_rowOf (nI a) (nI n) Q := by
  unfold zq6_rowOf
  refine ⟨fun q => absurd q (nI_nle h0 hn), fun _ => ⟨nI_ne0 h0 hn, ?_⟩⟩
  rw [pk_div ha h0 hn]
  exact h
theorem e6_reach (hB : CB σ r c k tl pr) (hk : k < 6) {l w : Nat} (hl : l < 3) (hw : w < 4) (h : Q (nI (zs_far k l w))) : zq6_reach (nI l) (nI w) σ Q := by
  unfold zq6_reach
  rw [hB.2.2.1]
  have w1 : nI w = 1 ↔ w = 1 := zn_w hw 1 (by decide)
  have w2 : nI w = 2 ↔ w = 2 := zn_w hw 2 (by decide)
  have e1 : nI l = 1 ↔ l = 1 := nI_eq (b := 1) (by omega) (by decide)
  have e2 : nI l = 2 ↔ l = 2 := nI_eq (b := 2) (by omega) (by decide)
  have e0 : nI l = 0 ↔ l = 0 := nI_eq (b := 0) (by omega) (by decide)
  unfold zs_far at h
  refine e7_isBlock hk (fun hb => ?_) (fun hb => ?_)
  · rw [if_pos hb] at h
    refine ⟨fun _ => ?_, fun q => absurd q (by decide)⟩
    rw [w1, w2, e1, e2, e0]
    refine ⟨fun q => ?_, fun q1 => ⟨fun q => ?_, fun q2 => ?_⟩⟩
    · rw [if_pos q] at h
      exact ⟨fun z => by rw [if_neg z] at h; exact h, fun z => by rw [if_pos z] at h; exact h⟩
    · rw [if_neg q1, if_pos q] at h
      exact ⟨fun z => by rw [if_neg z] at h; exact h, fun z => by rw [if_pos z] at h; exact h⟩
    · rw [if_neg q1, if_neg q2] at h
      exact ⟨fun z => by rw [if_neg z] at h; exact h, fun z => by rw [if_pos z] at h; exact h⟩
  · rw [if_neg hb] at h
    exact ⟨fun q => absurd rfl q, fun _ => h⟩
theorem e6_rolled_120 (hB : CB σ r c k tl pr) (hT : CT σ) (hd : zs_dim r c k) {v5 v6 : Int32} {s : Nat} (hs : s < 24) (ha : (∃ a, a < 100 ∧ v5 = nI a) ∨ v5 < 0) (hb : (∃ b, b < 100 ∧ v6 = nI b) ∨ v6 < 0)
    (h1 : ∀ a b, a < 100 → b < 100 → v5 = nI a → v6 = nI b → Q (zs_code (zs_fin r c k tl a b s))) (h0 : (∀ a b, a < 100 → b < 100 → v5 = nI a → v6 = nI b → zs_fin r c k tl a b s = none) → Q (-1)) : zq6_rolled_120 (nI s) v5 v6 σ Q := by
  unfold zq6_rolled_120
  have hrc := zs_rc hd.2.1 hd.2.2.2.1
  refine e6_lie hB hT hd.2.2.2.2 hs (e6_mayLie hB hd (zs_lie_lt k s) ha hb (fun a b ea eb hm => ?_) (fun hn => ?_))
  · refine ⟨fun q => absurd q (by decide), fun _ => ?_⟩
    have hc := zs_cell hm.1.1 hm.1.2.1
    have := h1 a b (by omega) (by omega) ea eb
    rw [zs_fin, if_pos hm] at this
    have e : (v5 * σ.1 4 + v6) * 24 + nI s = nI (24 * (a * c + b) + s) := by
      rw [hB.2.1, ea, eb, pk_mul, nI_add, show nI (a * c + b) * 24 = nI ((a * c + b) * 24) from pk_mul _ 24, nI_add, Nat.mul_comm (a * c + b) 24]
    rw [e]
    exact this
  · refine ⟨fun _ => h0 (fun a b xa xb ea eb => ?_), fun q => absurd rfl q⟩
    rw [zs_fin, if_neg (hn a b xa xb ea eb)]
theorem zn_sub {a b : Nat} (ha : a < 100) (hb : b < 100) : (∃ z, z < 100 ∧ nI a - nI b = nI z) ∨ nI a - nI b < 0 := by
  rcases Nat.lt_or_ge a b with q | q
  · exact Or.inr (pk_sneg (by omega) q)
  · exact Or.inl ⟨a - b, by omega, pk_sub q⟩
theorem zn_neg (a b : Nat) : nI a + -nI b = nI a - nI b := (Int32.sub_eq_add_neg _ _).symm
theorem e6_rolled_sq (hB : CB σ r c k tl pr) (hT : CT σ) (hd : zs_dim r c k) (hk : ¬ 4 ≤ k) {pl s w : Nat} (hw : w < 4) (hs : s < 24) (hp : pl < r * c) (h : Q (zs_code (zs_sq r c k tl pl s w))) : zq6_rolled (nI (24 * pl + s)) (nI w) σ Q := by
  unfold zq6_rolled
  have hrc := zs_rc hd.2.1 hd.2.2.2.1
  have hdv := zs_div_lt hp
  have hle : pl / c ≤ pl := Nat.div_le_self _ _
  rw [hB.2.2.1, hB.2.1, zs_rem24 (x := 24 * pl + s) (by omega), zs_div24 (x := 24 * pl + s) (by omega), show (24 * pl + s) / 24 = pl from by omega, show (24 * pl + s) % 24 = s from by omega]
  refine e7_isTetra hd.2.2.2.2 (fun q => absurd q hk) (fun _ => ⟨fun _ x27 e27 => ?_, fun q => absurd rfl q⟩)
  subst e27
  refine e5_turnedTo0 hT hs hw (e6_rowOf (by omega) hd.2.2.1 (by omega) (fun x30 e30 => ?_))
  have e30' : x30 = nI (pl % c) := by
    rw [e30, pk_mul, pk_sub (by have := zs_divadd pl c; omega)]
    congr 1
    have := zs_divadd pl c
    omega
  subst e30'
  have hl3 := zs_lie_lt k s
  refine e6_lie hB hT hd.2.2.2.2 hs (e6_reach hB hd.2.2.2.2 hl3 hw ?_)
  have hs2 : zs_T false s w < 24 := zs_T_lt false s hs w hw
  have hfar : zs_far k (zs_lie k s) w ≤ 2 := by
    unfold zs_far
    split
    · split
      · split <;> omega
      split
      · split <;> omega
      · split <;> omega
    · omega
  have hfin : ∀ v5 v6 : Int32, ((∃ a, a < 100 ∧ v5 = nI a) ∨ v5 < 0) → ((∃ b, b < 100 ∧ v6 = nI b) ∨ v6 < 0) → (∀ a b, a < 100 → b < 100 → (v5 = nI a ∧ v6 = nI b ↔ zs_mv (pl / c) (pl % c) (zs_far k (zs_lie k s) w) w a b)) → zq6_rolled_120 (nI (zs_T false s w)) v5 v6 σ Q := by
    intro v5 v6 ha hb hm
    refine e6_rolled_120 hB hT hd hs2 ha hb (fun a b xa xb ea eb => ?_) (fun hn => ?_)
    · rw [← zs_sq_mv ((hm a b xa xb).mp ⟨ea, eb⟩)]; exact h
    · have : zs_sq r c k tl pl s w = none := by
        refine zs_sq_no2 hw (fun a b hmv => ?_)
        have hab : a < 100 ∧ b < 100 := by
          rcases hmv with ⟨_, i1, i2⟩ | ⟨_, i1, i2⟩ | ⟨_, i1, i2⟩ | ⟨_, i1, i2⟩ <;> omega
        have h2 := (hm a b hab.1 hab.2).mpr hmv
        exact hn a b hab.1 hab.2 h2.1 h2.2
      rw [this] at h
      exact h
  generalize zs_far k (zs_lie k s) w = far at *
  generalize pl / c = row at *
  generalize pl % c = col at *
  generalize zs_T false s w = s2 at *
  have w0 : nI w = 0 ↔ w = 0 := zn_w hw 0 (by decide)
  have w1 : nI w = 1 ↔ w = 1 := zn_w hw 1 (by decide)
  have w2 : nI w = 2 ↔ w = 2 := zn_w hw 2 (by decide)
  have pos : ∀ z : Nat, z < 100 → ∀ y : Int32, y = nI z → (∃ a, a < 100 ∧ y = nI a) ∨ y < 0 := fun z hz y e => Or.inl ⟨z, hz, e⟩
  have inj : ∀ a b : Nat, a < 100 → b < 100 → (nI a = nI b ↔ a = b) := fun a b ha hb => nI_eq (by omega) (by omega)
  have sub : ∀ x y z : Nat, x < 100 → y < 100 → z < 100 → (nI x - nI y = nI z ↔ z + y = x) := by
    intro x y z hx hy hz
    constructor
    · intro e
      rcases Nat.lt_or_ge x y with q | q
      · exact absurd (pk_sneg (by omega) q) (by rw [e]; exact nI_pos (by omega))
      · rw [pk_sub q] at e
        have := (nI_eq (by omega) (by omega)).mp e
        omega
    · intro e
      rw [pk_sub (by omega), show x - y = z from by omega]
  unfold zq6_rolled_81 zq6_rolled_96 zq6_rolled_117
  rw [w0, w1, w2]
  have cases4 : w = 0 ∨ w = 1 ∨ w = 2 ∨ w = 3 := by omega
  rcases cases4 with rfl | rfl | rfl | rfl
  · refine ⟨fun _ => ⟨fun _ x ex => ?_, fun q => absurd q (by decide)⟩, fun q => absurd rfl q⟩
    rw [zn_neg] at ex
    subst ex
    refine hfin _ _ (zn_sub (by omega) (by omega)) (pos col (by omega) _ rfl) (fun a b xa xb => ?_)
    rw [sub row far a (by omega) (by omega) xa, inj col b (by omega) xb]
    unfold zs_mv
    omega
  · refine ⟨fun q => absurd q (by decide), fun _ => ⟨fun _ => ⟨fun q => absurd rfl q, fun _ x ex => ?_⟩, fun q => absurd q (by decide)⟩⟩
    rw [nI_add] at ex
    subst ex
    refine hfin _ _ (pos row (by omega) _ rfl) (pos (col + far) (by omega) _ rfl) (fun a b xa xb => ?_)
    rw [inj row a (by omega) xa, inj (col + far) b (by omega) xb]
    unfold zs_mv
    omega
  · refine ⟨fun q => absurd q (by decide), fun _ => ⟨fun q => absurd rfl q, fun _ => ⟨fun q => absurd rfl q, fun _ x ex => ?_⟩⟩⟩
    rw [nI_add] at ex
    subst ex
    refine hfin _ _ (pos (row + far) (by omega) _ rfl) (pos col (by omega) _ rfl) (fun a b xa xb => ?_)
    rw [inj (row + far) a (by omega) xa, inj col b (by omega) xb]
    unfold zs_mv
    omega
  · refine ⟨fun q => absurd q (by decide), fun _ => ⟨fun _ => ⟨fun _ x ex => ?_, fun q => absurd q (by decide)⟩, fun q => absurd q (by decide)⟩⟩
    rw [zn_neg] at ex
    subst ex
    refine hfin _ _ (pos row (by omega) _ rfl) (zn_sub (by omega) (by omega)) (fun a b xa xb => ?_)
    rw [inj row a (by omega) xa, sub col far b (by omega) (by omega) xb]
    unfold zs_mv
    omega
end C2
