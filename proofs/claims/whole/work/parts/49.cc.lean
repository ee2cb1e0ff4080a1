/-! calls: racks -/
theorem zm3 {l : Nat} (hl : l < 3) : 25 + l ∈ [25, 26, 27, 28, 29, 30] ∧ 28 + l ∈ [25, 26, 27, 28, 29, 30] ∧ 37 + l ∈ [37, 38, 39, 40, 41, 42] ∧ 40 + l ∈ [37, 38, 39, 40, 41, 42] := by
  rcases (by omega : l = 0 ∨ l = 1 ∨ l = 2) with rfl | rfl | rfl <;> decide
theorem zi9 {l i : Nat} (hl : l < 3) (hi : i < 9) : (9 : Int32) * nI l + nI i = nI (9 * l + i) ∧ (nI (9 * l + i)).toNatClampNeg = 9 * l + i ∧ vp_in (nI (9 * l + i)) 27 := ⟨zn_ma 9 l i, nI_clamp (by omega), vp_in_nI (by omega) (by decide)⟩
theorem e7_isUnder {Q : Int32 → Prop} {k j : Nat} (hk : k < 6) (hj : j < 6) (h1 : k = j ∨ (j % 2 = 0 ∧ k = j + 1) → Q 1) (h0 : ¬ (k = j ∨ (j % 2 = 0 ∧ k = j + 1)) → Q 0) : zq7_isUnder (nI k) (nI j) Q := by
  have e : ∀ {a n : Nat}, a < 6 → n < 6 → (nI a = nI n ↔ a = n) := fun ha hn => nI_eq (by omega) (by omega)
  have k1 : nI k = 1 ↔ k = 1 := e (n := 1) hk (by decide)
  have k3 : nI k = 3 ↔ k = 3 := e (n := 3) hk (by decide)
  have k5 : nI k = 5 ↔ k = 5 := e (n := 5) hk (by decide)
  have j0 : nI j = 0 ↔ j = 0 := e (n := 0) hj (by decide)
  have j2 : nI j = 2 ↔ j = 2 := e (n := 2) hj (by decide)
  have j4 : nI j = 4 ↔ j = 4 := e (n := 4) hj (by decide)
  unfold zq7_isUnder zq7_isUnder_14 zq7_isUnder_24
  rw [e hk hj, k1, k3, k5, j0, j2, j4]
  have X : (k = 5 ∧ j = 4 → Q 1) ∧ (¬ (k = 5 ∧ j = 4) → Q 0) → ((¬ k = 5) → Q 0) ∧ (k = 5 → ((¬ j = 4) → Q 0) ∧ (j = 4 → Q 1)) := fun z => ⟨fun a => z.2 (fun y => a y.1), fun a => ⟨fun b => z.2 (fun y => b y.2), fun b => z.1 ⟨a, b⟩⟩⟩
  refine ⟨fun q => h1 (Or.inl q), fun q => ⟨fun q1 => ⟨fun q3 => X ⟨fun y => h1 (by omega), fun y => h0 (by omega)⟩, fun q3 => ⟨fun y => h1 (by omega), fun y => X ⟨fun y => h1 (by omega), fun y => h0 (by omega)⟩⟩⟩, fun q1 => ⟨fun y => h1 (by omega), fun y => ⟨fun q3 => X ⟨fun y => h1 (by omega), fun y => h0 (by omega)⟩, fun q3 => by omega⟩⟩⟩⟩
theorem e8_below {σ : zz_St} {Q : Int32 → Prop} {r c k pl s : Nat} {tl pr : Nat → Int32} (hB : MB σ r c k tl pr) (hd : zs_dim r c k) (hF : MF σ (zs_te k) pl s) (h : Q (nI (zs_bel (zs_te k) s))) : zq8_below σ Q := by
  unfold zq8_below
  refine e8_isTetra hB hd (fun h4 => zYf n10 ?_) (fun h4 => zYt n00 ?_)
  · rw [show zs_te k = true from decide_eq_true h4] at h hF
    rw [zt_0, hF.2 0 (by decide)]
    exact ⟨vp_in_nI (n := 0) (by decide) (by decide), h⟩
  · rw [show zs_te k = false from decide_eq_false h4] at h hF
    rw [zt_1, hF.2 1 (by decide)]
    exact ⟨vp_in_nI (n := 1) (by decide) (by decide), h⟩
section CC
variable {σ τ : zz_St}
theorem R_rack (h : Rel σ τ) (v w u : Int32) : zq7_rack v w u τ (fun a τ' => zq8_rack v w u σ (fun b σ' => RQ τ' a b σ')) := by
  obtain ⟨_, _, _, hK, _⟩ := id h
  unfold zq7_rack zq8_rack
  refine e7_isRack (fun q => zNf n10 (e7_isKind (fun qk => zNf n10 ?_) (fun qk => zNt n00 ?_))) (fun q => zNt n00 ?_)
  · obtain ⟨l, hl, rfl, cl⟩ := z3 q
    obtain ⟨j, hj, rfl⟩ := vp_in_of qk (by decide)
    rw [cl]
    refine ⟨fun q40 => ⟨fun q0 => ⟨q, ?_⟩, fun q0 => ?_⟩, fun q40 => ?_⟩
    · obtain ⟨n, hn, rfl⟩ := nI_of (Int32.not_lt.mpr q0)
      have hn9 : n ≤ 9 := (nI_leI (b := 9) hn (by decide)).mp q40
      unfold zq2_begin
      intro f hf g8 h8 g9 h9 g10 h10
      refine e8_isRack (fun _ => zNf n10 (e8_in6 (fun _ => zNf n10 (zYt q40 (zYt q0 ⟨q, fun g25 h25 => ⟨q, fun g26 h26 => ?_⟩⟩))) (fun z => absurd qk z))) (fun z => absurd q z)
      unfold zq8_rack_69
      refine zl_fillo (dst := 40) (N := 9) (M := 27) (off := 9 * l) (fun v => (9 : Int32) * nI l + v) (fun i _ => zn_ma 9 l i) (by decide) (by omega) (by decide) (fun σ2 x2 e1 e2 => ⟨rfl, ?_⟩)
      have y8 : zx τ g8 [] [37 + l] := by rw [h8]; exact zx.A (37 + l) _ List.mem_cons_self
      have y9 : zx g8 g9 [25 + l] [] := by rw [h9]; exact zx.I (25 + l) _ List.mem_cons_self
      have y10 : zx g9 g10 [28 + l] [] := by rw [h10]; exact zx.I (28 + l) _ List.mem_cons_self
      have y25 : zx σ g25 [] [38] := by rw [h25]; exact zx.A 38 _ (by decide)
      have y26 : zx g25 g26 [] [39] := by rw [h26]; exact zx.A 39 _ (by decide)
      obtain ⟨m1, m2, m3, m4⟩ := zm3 hl
      have s1 : ∀ {a : Nat} {L : List Nat}, a ∈ L → ∀ k ∈ [a], k ∈ L := fun ha k hk => by rw [List.mem_singleton.mp hk]; exact ha
      refine h.rk (((y25.mono (by decide) (by decide)).tr (y26.mono (by decide) (by decide))).tr (x2.mono (by decide) (by decide))).y (((y8.mono (by decide) (s1 m3)).tr (y9.mono (s1 m1) (by decide))).tr (y10.mono (s1 m2) (by decide))).y (fun l' hl' => ?_)
      obtain ⟨b1, b2, b3⟩ := hK l' hl'
      have e38 : σ2.2.1 38 = upd (σ.2.1 38) l (nI n) := by rw [x2.2.1 38 (by decide), y26.2.1 38 (by decide), h25, zz_A2, if_pos rfl]
      have e39 : σ2.2.1 39 = upd (σ.2.1 39) l (nI j) := by rw [x2.2.1 39 (by decide), h26, zz_A2, if_pos rfl, y25.2.1 39 (by decide)]
      have e41 : σ2.2.1 41 = σ.2.1 41 := by rw [x2.2.1 41 (by decide), y26.2.1 41 (by decide), y25.2.1 41 (by decide)]
      have f25 : g10.1 (25 + l') = if l' = l then nI j else τ.1 (25 + l') := by
        rw [y10.1 _ (by simp only [List.mem_singleton]; omega), h9, zz_I1, y8.1 _ List.not_mem_nil]
        by_cases z : l' = l
        · rw [if_pos (by omega), if_pos z]
        · rw [if_neg (by omega), if_neg z]
      have f28 : g10.1 (28 + l') = if l' = l then nI n else τ.1 (28 + l') := by
        rw [h10, zz_I1, y9.1 _ (by simp only [List.mem_singleton]; omega), y8.1 _ List.not_mem_nil]
        by_cases z : l' = l
        · rw [if_pos (by omega), if_pos z]
        · rw [if_neg (by omega), if_neg z]
      have f37 : g10.2.1 (37 + l') = if l' = l then f else τ.2.1 (37 + l') := by
        rw [y10.2.1 _ List.not_mem_nil, y9.2.1 _ List.not_mem_nil, h8, zz_A2]
        by_cases z : l' = l
        · rw [if_pos (by omega), if_pos z]
        · rw [if_neg (by omega), if_neg z]
      have f40 : g10.2.1 (40 + l') = τ.2.1 (40 + l') := by
        rw [y10.2.1 _ List.not_mem_nil, y9.2.1 _ List.not_mem_nil, y8.2.1 _ (by simp only [List.mem_singleton]; omega)]
      rw [e38, e39, e41, f25, f28, f37, f40]
      by_cases z : l' = l
      · subst z
        rw [if_pos rfl, if_pos rfl, if_pos rfl, pk_us, pk_us]
        exact ⟨Or.inr ⟨n, hn9, rfl, rfl⟩, ⟨j, hj, rfl, rfl⟩, fun i hi => ⟨by rw [e1 i hi, hf i hi], Or.inl (e1 i hi)⟩⟩
      · rw [if_neg z, if_neg z, if_neg z, pk_un z, pk_un z]
        refine ⟨b1, b2, fun i hi => ?_⟩
        rw [e2 _ (by omega), y26.2.1 40 (by decide), y25.2.1 40 (by decide)]
        exact b3 i hi
    · exact e8_isRack (fun _ => zNf n10 (e8_in6 (fun _ => zNf n10 (zYt q40 (zYf q0 ⟨rfl, h⟩))) (fun z => absurd qk z))) (fun z => absurd q z)
    · exact e7_refuse 6 (by decide) (by decide) (e8_isRack (fun _ => zNf n10 (e8_in6 (fun _ => zNf n10 (zYf q40 (RQ.no8 h 6 (by decide) (by decide) (by decide)))) (fun z => absurd qk z))) (fun z => absurd q z))
  · exact e7_refuse 2 (by decide) (by decide) (e8_isRack (fun _ => zNf n10 (e8_in6 (fun z => absurd z qk) (fun _ => zNt n00 (RQ.no8 h 2 (by decide) (by decide) (by decide))))) (fun z => absurd q z))
  · exact e7_refuse 1 (by decide) (by decide) (e8_isRack (fun z => absurd z q) (fun _ => zNt n00 (RQ.no8 h 1 (by decide) (by decide) (by decide))))
/-- one place of a rack is laid anew on both sides -/
theorem Rel.lay (h : Rel σ τ) {σ' τ' : zz_St} {l i : Nat} {a b b' : Int32} (hl : l < 3) (hi : i < 9) (hx : zx σ σ' [] [40, 41]) (hy : zx τ τ' [] [37 + l, 40 + l]) (h40 : σ'.2.1 40 = upd (σ.2.1 40) (9 * l + i) a) (h41 : σ'.2.1 41 = upd (σ.2.1 41) (9 * l + i) b) (g37 : τ'.2.1 (37 + l) = upd (τ.2.1 (37 + l)) i a) (g40 : (a = -1 ∧ τ'.2.1 (40 + l) = τ.2.1 (40 + l)) ∨ (0 ≤ a ∧ b = b' ∧ τ'.2.1 (40 + l) = upd (τ.2.1 (40 + l)) i b')) : Rel σ' τ' := by
  obtain ⟨m1, m2, m3, m4⟩ := zm3 hl
  have s2 : ∀ k ∈ [37 + l, 40 + l], k ∈ [37, 38, 39, 40, 41, 42] := by
    intro k hk
    rcases List.mem_cons.mp hk with z | z
    · rw [z]; exact m3
    · rw [List.mem_singleton.mp z]; exact m4
  refine h.rk (hx.mono (by decide) (by decide)).y (hy.mono (by decide) s2).y (fun l' hl' => ?_)
  obtain ⟨_, _, _, hK, _⟩ := h
  obtain ⟨b1, b2, b3⟩ := hK l' hl'
  rw [hx.2.1 38 (by decide), hx.2.1 39 (by decide), hy.1 _ List.not_mem_nil, hy.1 _ List.not_mem_nil]
  refine ⟨b1, b2, fun i' hi' => ?_⟩
  rw [h40, h41]
  by_cases z : l' = l
  · subst z
    rw [g37]
    by_cases z2 : i' = i
    · subst z2
      rw [pk_us, pk_us, pk_us]
      refine ⟨rfl, ?_⟩
      rcases g40 with y | ⟨y1, y2, y3⟩
      · exact Or.inl y.1
      · rw [y3, pk_us]; exact Or.inr ⟨y1, y2⟩
    · rw [pk_un z2, pk_un (show 9 * l' + i' ≠ 9 * l' + i from by omega), pk_un (show 9 * l' + i' ≠ 9 * l' + i from by omega)]
      refine ⟨(b3 i' hi').1, ?_⟩
      rcases g40 with y | ⟨y1, y2, y3⟩
      · rw [y.2]; exact (b3 i' hi').2
      · rw [y3, pk_un z2]; exact (b3 i' hi').2
  · rw [pk_un (by omega), pk_un (by omega), hy.2.1 (37 + l') (by simp only [List.mem_cons, List.not_mem_nil, or_false]; omega)]
    by_cases z3 : l' = l + 3
    · omega
    · rw [hy.2.1 (40 + l') (by simp only [List.mem_cons, List.not_mem_nil, or_false]; omega)]
      exact b3 i' hi'
theorem R_racks (h : Rel σ τ) (v w u : Int32) : zq7_racks v w u τ (fun a τ' => zq8_racks v w u σ (fun b σ' => RQ τ' a b σ')) := by
  obtain ⟨⟨r, c, k, h0⟩, _, _, hK, _⟩ := id h
  have hT := h.ct
  have hd := h0.dim
  have hk6 := hd.2.2.2.2
  unfold zq7_racks zq8_racks zq7_racks_22
  refine e7_isRack (fun q => zNf n10 (zn_le (n := 1) (by decide) (fun qu => ?_) (fun qu => ?_))) (fun q => zNt n00 ?_)
  · obtain ⟨l, hl, rfl, cl⟩ := z3 q
    obtain ⟨⟨j, hj, hj1, hj2⟩, hK3⟩ := (hK l hl).2
    have hsz := (hK l hl).1
    -- the model behind its checks
    have M : ∀ {Q : Int32 → zz_St → Prop}, ((u = 1 → σ.1 9 = 1) → zq8_racks_49 (nI l) w u σ Q) → (u = 1 → σ.1 9 = 0 → zq8_no (-3) σ Q) → zq8_isRack (nI l) (fun r39 => ((¬ r39 = 0) → zq8_in (u.toInt64) (0 : Int64) (1 : Int64) (fun r41 => ((¬ r41 = 0) → ((¬ u = (1 : Int32)) → zq8_racks_49 (nI l) w u σ Q) ∧ (u = (1 : Int32) → ((¬ ((σ).1 9) = 0) → zq8_racks_49 (nI l) w u σ Q) ∧ (((σ).1 9) = 0 → zq8_no (-3 : Int32) σ (fun r45 g46 => Q r45 g46)))) ∧ (r41 = 0 → zq8_no (-2 : Int32) σ (fun r47 g48 => Q r47 g48)))) ∧ (r39 = 0 → zq8_no (-1 : Int32) σ (fun r49 g50 => Q r49 g50))) := by
      intro Q m1 m2
      refine e8_isRack (fun _ => zNf n10 (e8_in2 (fun _ => zNf n10 ⟨fun z => m1 (fun y => absurd y z), fun z => ⟨fun y => m1 (fun _ => ?_), fun y => m2 z y⟩⟩) (fun z => absurd qu z))) (fun z => absurd q z)
      rcases h0.there with ⟨y1, _⟩ | ⟨y1, _⟩
      · exact absurd y1 y
      · exact y1
    have body : (u = 1 → σ.1 9 = 1) → zq7_racks_51 (nI l) w u τ (fun a τ' => zq8_isRack (nI l) (fun r39 => ((¬ r39 = 0) → zq8_in (u.toInt64) (0 : Int64) (1 : Int64) (fun r41 => ((¬ r41 = 0) → ((¬ u = (1 : Int32)) → zq8_racks_49 (nI l) w u σ (fun b σ' => RQ τ' a b σ')) ∧ (u = (1 : Int32) → ((¬ ((σ).1 9) = 0) → zq8_racks_49 (nI l) w u σ (fun b σ' => RQ τ' a b σ')) ∧ (((σ).1 9) = 0 → zq8_no (-3 : Int32) σ (fun r45 g46 => RQ τ' a r45 g46)))) ∧ (r41 = 0 → zq8_no (-2 : Int32) σ (fun r47 g48 => RQ τ' a r47 g48)))) ∧ (r39 = 0 → zq8_no (-1 : Int32) σ (fun r49 g50 => RQ τ' a r49 g50)))) := by
      intro hu
      have M2 : ∀ {Q : Int32 → zz_St → Prop}, zq8_racks_49 (nI l) w u σ Q → zq8_isRack (nI l) (fun r39 => ((¬ r39 = 0) → zq8_in (u.toInt64) (0 : Int64) (1 : Int64) (fun r41 => ((¬ r41 = 0) → ((¬ u = (1 : Int32)) → zq8_racks_49 (nI l) w u σ Q) ∧ (u = (1 : Int32) → ((¬ ((σ).1 9) = 0) → zq8_racks_49 (nI l) w u σ Q) ∧ (((σ).1 9) = 0 → zq8_no (-3 : Int32) σ (fun r45 g46 => Q r45 g46)))) ∧ (r41 = 0 → zq8_no (-2 : Int32) σ (fun r47 g48 => Q r47 g48)))) ∧ (r39 = 0 → zq8_no (-1 : Int32) σ (fun r49 g50 => Q r49 g50))) := fun m => M (fun _ => m) (fun a b => by rw [hu a] at b; exact absurd b n10)
      unfold zq7_racks_51 zq2_lackAt
      rw [cl]
      refine ⟨q, ?_⟩
      obtain ⟨a1, a2⟩ | ⟨n, hn, a1, a2⟩ := hsz
      · rw [a2]
        refine e7_lackM (zYf (by decide) (M2 ?_))
        unfold zq8_racks_49
        rw [cl, a1]
        exact ⟨q, zYf (by decide) ⟨rfl, h⟩⟩
      rw [a2]
      have p0 : 0 ≤ nI n := nI_pos' (by omega)
      refine e7_lackN (by omega) (fun q2 => zYt (by decide) ?_) (fun q2 => zYf (by decide) (M2 ?_))
      rotate_left
      · unfold zq8_racks_49
        rw [cl, a1]
        exact ⟨q, zYt p0 ⟨q, e8_inN (by omega) (fun z => absurd z q2) (fun _ => zNt n00 ⟨rfl, h⟩)⟩⟩
      obtain ⟨i, hi, rfl⟩ := vp_in_of q2 (by omega)
      have ci : (nI i).toNatClampNeg = i := nI_clamp (by omega)
      obtain ⟨e9, c9, v9⟩ := zi9 (l := l) (i := i) hl (by omega)
      have vi9 : vp_in (nI i) 9 := vp_in_nI (by omega) (by decide)
      rw [h0.2.1.2.2, hj2]
      refine ⟨fun u0 => ?_, fun u0 => ?_⟩
      · have u1 : u = 1 := by
          obtain ⟨t, ht, et⟩ := vp_in_of qu (by decide)
          rcases (by omega : t = 0 ∨ t = 1) with rfl | rfl
          · exact absurd et u0
          · exact et
        have hth := hu u1
        obtain ⟨x, hV, hF, h8⟩ : ∃ x, zs_V r c k x ∧ MF σ (zs_te k) (x / 24) (x % 24) ∧ τ.1 8 = nI x := by
          rcases h0.there with ⟨y, _⟩ | ⟨_, y⟩
          · rw [hth] at y; exact absurd y n10
          · exact y
        have hx17 := (zs_V_lt hd hV).1
        have kne : nI k = nI j ↔ k = j := nI_eq (by omega) (by omega)
        have kn1 : nI k = nI j + 1 ↔ k = j + 1 := by rw [nI_1]; exact nI_eq (by omega) (by omega)
        have jr : nI j - nI j / 2 * 2 = 1 ↔ j % 2 = 1 := by rw [zs_r2 (by omega)]; exact nI_eq (b := 1) (by omega) (by decide)
        have N49 : ∀ {Q : Int32 → zz_St → Prop}, ((k = j ∨ (j % 2 = 0 ∧ k = j + 1)) → zq8_racks_130 (nI l) (nI i) u σ Q) → (¬ (k = j ∨ (j % 2 = 0 ∧ k = j + 1)) → Q (-16) σ) → zq8_racks_49 (nI l) (nI i) u σ Q := by
          intro Q m1 m2
          unfold zq8_racks_49
          rw [cl, a1, h0.1.2.2, hj1, kne, kn1, jr]
          exact ⟨q, zYt p0 ⟨q, e8_inN (by omega) (fun _ => zNf n10 (zNt u1 ⟨q, fun z => m1 (Or.inl z), fun z => ⟨q, fun y => m2 (by omega), fun y => ⟨q, fun y2 => m1 (by omega), fun y2 => m2 (by omega)⟩⟩⟩)) (fun z => absurd q2 z)⟩⟩
        refine e7_isUnder hk6 hj (fun qn => zNf n10 ?_) (fun qn => zNt n00 (M2 (N49 (fun z => absurd z qn) (fun _ => ⟨rfl, h⟩))))
        rw [h8]
        refine e6_faceBelow h0.cb hT hk6 (by omega) ?_
        unfold zq2_store
        rw [ci]
        refine ⟨vi9, fun g3 h3 => ⟨vi9, fun g4 h4 => M2 (N49 (fun _ => ?_) (fun z => absurd qn z))⟩⟩
        unfold zq8_racks_130 zq8_racks_153
        rw [e9, c9, h0.1.2.2]
        refine zNt u1 ⟨v9, fun g26 h26 => zNt u1 ?_⟩
        have x26 : zx σ g26 [] [40] := by rw [h26]; exact zx.A 40 _ (by decide)
        refine e8_below (h0.mb.x x26 (by decide)) hd (hF.x x26 (by decide)) ⟨v9, fun g30 h30 => ⟨rfl, ?_⟩⟩
        have x30 : zx g26 g30 [] [41] := by rw [h30]; exact zx.A 41 _ (by decide)
        have y3 : zx τ g3 [] [37 + l, 40 + l] := by rw [h3]; exact zx.A (37 + l) _ List.mem_cons_self
        have y4 : zx g3 g4 [] [37 + l, 40 + l] := by rw [h4]; exact zx.A (40 + l) _ (List.mem_cons_of_mem _ List.mem_cons_self)
        refine h.lay (i := i) (a := nI k) (b := nI (zs_bel (zs_te k) (x % 24))) (b' := nI (zs_bel (zs_te k) (x % 24))) hl (by omega) ((x26.mono (by decide) (by decide)).tr (x30.mono (by decide) (by decide))) (y3.tr y4) ?_ ?_ ?_ (Or.inr ⟨nI_pos' (by omega), rfl, ?_⟩)
        · rw [x30.2.1 40 (by decide), h26, zz_A2, if_pos rfl]
        · rw [h30, zz_A2, if_pos rfl, x26.2.1 41 (by decide)]
        · rw [h4, zz_A2, if_neg (by omega), h3, zz_A2, if_pos rfl]
        · rw [h4, zz_A2, if_pos rfl, h3, zz_A2, if_neg (by omega)]
      · unfold zq2_empty
        rw [ci]
        have un1 : ¬ u = 1 := by rw [u0]; decide
        refine ⟨vi9, fun g2 h2 => M2 ?_⟩
        unfold zq8_racks_49 zq8_racks_130 zq8_racks_153
        rw [cl, a1, e9, c9]
        refine ⟨q, zYt p0 ⟨q, e8_inN (by omega) (fun _ => zNf n10 (zNf un1 (zNf un1 ⟨v9, fun g26 h26 => zNf un1 ⟨v9, fun g28 h28 => ⟨rfl, ?_⟩⟩⟩))) (fun z => absurd q2 z)⟩⟩
        have x26 : zx σ g26 [] [40] := by rw [h26]; exact zx.A 40 _ (by decide)
        have x28 : zx g26 g28 [] [41] := by rw [h28]; exact zx.A 41 _ (by decide)
        have y2 : zx τ g2 [] [37 + l, 40 + l] := by rw [h2]; exact zx.A (37 + l) _ List.mem_cons_self
        refine h.lay (i := i) (a := -1) (b := 0) (b' := 0) hl (by omega) ((x26.mono (by decide) (by decide)).tr (x28.mono (by decide) (by decide))) y2 ?_ ?_ ?_ (Or.inl ⟨rfl, ?_⟩)
        · rw [x28.2.1 40 (by decide), h26, zz_A2, if_pos rfl]
        · rw [h28, zz_A2, if_pos rfl, x26.2.1 41 (by decide)]
        · rw [h2, zz_A2, if_pos rfl]
        · rw [h2, zz_A2, if_neg (by omega)]
    refine ⟨fun u1 => body (fun z => absurd z u1), fun u1 => ?_⟩
    rcases h0.there with ⟨y1, y2⟩ | ⟨y1, x, hV, _, y2⟩
    · refine e6_none0 y2 (zYf n10 (e7_refuse 3 (by decide) (by decide) (M (fun z => absurd (z u1) (by rw [y1]; decide)) (fun _ _ => RQ.no8 h 3 (by decide) (by decide) (by decide)))))
    · have := (zs_V_lt hd hV).1
      exact e6_none1 (by omega) y2 (zYt n00 (body (fun _ => y1)))
  · exact e7_refuse 2 (by decide) (by decide) (e8_isRack (fun _ => zNf n10 (e8_in2 (fun z => absurd z qu) (fun _ => zNt n00 (RQ.no8 h 2 (by decide) (by decide) (by decide))))) (fun z => absurd q z))
  · exact e7_refuse 1 (by decide) (by decide) (e8_isRack (fun z => absurd z q) (fun _ => zNt n00 (RQ.no8 h 1 (by decide) (by decide) (by decide))))
theorem R_racked (h : Rel σ τ) (v w u : Int32) : zq7_racked v w u τ (fun a τ' => zq8_racked v w u σ (fun b σ' => RQ τ' a b σ')) := by
  obtain ⟨_, _, _, hK, _⟩ := id h
  unfold zq7_racked zq8_racked zq7_racked_22 zq2_lackAt zq2_isEmptyAt
  refine e7_isRack (fun q => zNf n10 (zn_le (n := 1) (by decide) (fun qu => ⟨q, ?_⟩) (fun qu => ?_))) (fun q => zNt n00 ?_)
  · obtain ⟨l, hl, rfl, cl⟩ := z3 q
    obtain ⟨hsz, _, hit⟩ := hK l hl
    rw [cl]
    obtain ⟨a1, a2⟩ | ⟨n, hn, a1, a2⟩ := hsz
    · rw [a2, a1]
      exact e7_lackM (zYf (by decide) (e8_isRack (fun _ => zNf n10 (e8_in2 (fun _ => zNf n10 ⟨q, zYf (by decide) ⟨rfl, h⟩⟩) (fun z => absurd qu z))) (fun z => absurd q z)))
    · rw [a2, a1]
      have p0 : 0 ≤ nI n := nI_pos' (by omega)
      refine e7_lackN (by omega) (fun q2 => zYt (by decide) ?_) (fun q2 => zYf (by decide) (e8_isRack (fun _ => zNf n10 (e8_in2 (fun _ => zNf n10 ⟨q, zYt p0 ⟨q, e8_inN (by omega) (fun z => absurd z q2) (fun _ => zNt n00 ⟨rfl, h⟩)⟩⟩) (fun z => absurd qu z))) (fun z => absurd q z)))
      obtain ⟨i, hi, rfl⟩ := vp_in_of q2 (by omega)
      have ci : (nI i).toNatClampNeg = i := nI_clamp (by omega)
      obtain ⟨e9, c9, v9⟩ := zi9 (l := l) (i := i) hl (by omega)
      have vi9 : vp_in (nI i) 9 := vp_in_nI (by omega) (by decide)
      obtain ⟨f1, f2⟩ := hit i (by omega)
      have M : ∀ a, (0 ≤ σ.2.1 40 (9 * l + i) → ¬ u = 0 → a = σ.2.1 41 (9 * l + i)) → (0 ≤ σ.2.1 40 (9 * l + i) → u = 0 → a = σ.2.1 40 (9 * l + i)) → (¬ 0 ≤ σ.2.1 40 (9 * l + i) → a = -9) → zq8_isRack (nI l) (fun r15 => ((¬ r15 = 0) → zq8_in (u.toInt64) (0 : Int64) (1 : Int64) (fun r17 => ((¬ r17 = 0) → vp_in (nI l) 3 ∧ ((0 ≤ nI n) → vp_in (nI l) 3 ∧ zq8_in ((nI i).toInt64) (0 : Int64) ((nI n - (1 : Int32)).toInt64) (fun r20 => ((¬ r20 = 0) → ∀ x22 : Int32, x22 = ((9 : Int32) * nI l) + nI i → vp_in x22 27 ∧ ((0 ≤ ((σ).2.1 40 x22.toNatClampNeg)) → ((¬ u = 0) → vp_in x22 27 ∧ RQ τ a ((σ).2.1 41 x22.toNatClampNeg) σ) ∧ (u = 0 → vp_in x22 27 ∧ RQ τ a ((σ).2.1 40 x22.toNatClampNeg) σ)) ∧ (¬ (0 ≤ ((σ).2.1 40 x22.toNatClampNeg)) → RQ τ a (-9 : Int32) σ)) ∧ (r20 = 0 → RQ τ a (-13 : Int32) σ))) ∧ (¬ (0 ≤ nI n) → RQ τ a (-11 : Int32) σ)) ∧ (r17 = 0 → zq8_no (-2 : Int32) σ (fun r25 g26 => RQ τ a r25 g26)))) ∧ (r15 = 0 → zq8_no (-1 : Int32) σ (fun r27 g28 => RQ τ a r27 g28))) := by
        intro a m1 m2 m3
        refine e8_isRack (fun _ => zNf n10 (e8_in2 (fun _ => zNf n10 ⟨q, zYt p0 ⟨q, e8_inN (by omega) (fun _ => zNf n10 (fun x22 e22 => ?_)) (fun z => absurd q2 z)⟩⟩) (fun z => absurd qu z))) (fun z => absurd q z)
        rw [e9] at e22
        subst e22
        rw [c9]
        exact ⟨v9, fun z => ⟨fun y => ⟨v9, m1 z y, h⟩, fun y => ⟨v9, m2 z y, h⟩⟩, fun z => ⟨m3 z, h⟩⟩
      have iff1 : 0 ≤ σ.2.1 40 (9 * l + i) ↔ ¬ τ.2.1 (37 + l) i = -1 := by
        rw [← f1]
        constructor
        · intro z y; rw [y] at z; exact absurd z (by decide)
        · intro z; exact (f2.resolve_left z).1
      rw [ci]
      refine ⟨vi9, fun z => zYt n00 ⟨fun y => ⟨vi9, M _ (fun a _ => ?_) (fun _ b => absurd b y) (fun a => absurd (iff1.mpr z) a)⟩, fun y => ⟨vi9, M _ (fun _ b => absurd y b) (fun _ _ => f1.symm) (fun a => absurd (iff1.mpr z) a)⟩⟩, fun z => zYf n10 (M _ (fun a _ => absurd z (iff1.mp a)) (fun a _ => absurd z (iff1.mp a)) (fun _ => rfl))⟩
      exact (f2.resolve_left (fun y => by rw [y] at a; exact absurd a (by decide))).2.symm
  · exact e7_refuse 2 (by decide) (by decide) (e8_isRack (fun _ => zNf n10 (e8_in2 (fun z => absurd z qu) (fun _ => zNt n00 (RQ.no8 h 2 (by decide) (by decide) (by decide))))) (fun z => absurd q z))
  · exact e7_refuse 1 (by decide) (by decide) (e8_isRack (fun z => absurd z q) (fun _ => zNt n00 (RQ.no8 h 1 (by decide) (by decide) (by decide))))
theorem zcp0 {f g : Nat → Int32} {N : Nat} (M : Int32) (hM : M.toNatClampNeg = N) (j : Nat) : va_cpy f g (0 : Int32).toNatClampNeg (0 : Int32).toNatClampNeg M.toNatClampNeg j = if j < N then f j else g j := by
  rw [zt_0, hM]
  by_cases z : j < N
  · rw [if_pos z, pk_cpy_in (Nat.zero_le _) (by omega), Nat.zero_add, Nat.sub_zero]
  · rw [if_neg z, pk_cpy_out (by omega)]
theorem R_like (h : Rel σ τ) (v w : Int32) : zq7_like v w τ (fun a τ' => zq8_like v w σ (fun b σ' => RQ τ' a b σ')) := by
  obtain ⟨_, _, _, hK, _⟩ := id h
  unfold zq7_like zq8_like zq7_like_14 zq8_like_14
  refine e7_isRack (fun q => zYf n10 (e7_isRack (fun qw => zNf n10 ?_) (fun qw => zNt n00 ?_))) (fun q => zYt n00 ?_)
  · obtain ⟨l, hl, rfl, cl⟩ := z3 q
    obtain ⟨o, ho, rfl, co⟩ := z3 qw
    obtain ⟨hsz, ⟨j, hj, hj1, hj2⟩, hit⟩ := hK o ho
    unfold zq2_isMissing
    rw [cl, co]
    obtain ⟨a1, a2⟩ | ⟨n, hn, a1, a2⟩ := hsz
    · rw [a2, a1]
      exact ⟨qw, zYf (by decide) (zYf n10 (e8_isRack (fun _ => zYf n10 (e8_isRack (fun _ => zNf n10 ⟨qw, zYf (by decide) ⟨rfl, h⟩⟩) (fun z => absurd qw z))) (fun z => absurd q z)))⟩
    · have p0 : 0 ≤ nI n := nI_pos' (by omega)
      refine ⟨qw, zYt (by rw [a2]; exact p0) (zYt n00 ⟨q, qw, ?_⟩)⟩
      unfold zq2_copyFrom
      refine ⟨by decide, by decide, by decide, by decide, by decide, fun g5 h5 => ⟨by decide, by decide, by decide, by decide, by decide, fun g6 h6 g7 h7 g8 h8 => ⟨q, ?_⟩⟩⟩
      refine e8_isRack (fun _ => zYf n10 (e8_isRack (fun _ => zNf n10 ⟨qw, zYt (by rw [a1]; exact p0) ⟨qw, q, fun g23 h23 => ⟨qw, q, fun g24 h24 => ?_⟩⟩⟩) (fun z => absurd qw z))) (fun z => absurd q z)
      have y5 : zx τ g5 [] [37 + l] := by rw [h5]; exact zx.A (37 + l) _ List.mem_cons_self
      have y6 : zx g5 g6 [] [40 + l] := by rw [h6]; exact zx.A (40 + l) _ List.mem_cons_self
      have y7 : zx g6 g7 [25 + l] [] := by rw [h7]; exact zx.I (25 + l) _ List.mem_cons_self
      have y8 : zx g7 g8 [28 + l] [] := by rw [h8]; exact zx.I (28 + l) _ List.mem_cons_self
      have y23 : zx σ g23 [] [38] := by rw [h23]; exact zx.A 38 _ (by decide)
      have y24 : zx g23 g24 [] [39] := by rw [h24]; exact zx.A 39 _ (by decide)
      obtain ⟨m1, m2, m3, m4⟩ := zm3 hl
      have s1 : ∀ {a : Nat} {L : List Nat}, a ∈ L → ∀ k ∈ [a], k ∈ L := fun ha k hk => by rw [List.mem_singleton.mp hk]; exact ha
      have yy : zy τ g8 [25, 26, 27, 28, 29, 30] [37, 38, 39, 40, 41, 42] := ((((y5.mono (by decide) (s1 m3)).tr (y6.mono (by decide) (s1 m4))).tr (y7.mono (s1 m1) (by decide))).tr (y8.mono (s1 m2) (by decide))).y
      have e38 : g24.2.1 38 = upd (σ.2.1 38) l (nI n) := by rw [y24.2.1 38 (by decide), h23, zz_A2, if_pos rfl, a1]
      have e39 : g24.2.1 39 = upd (σ.2.1 39) l (nI j) := by rw [h24, zz_A2, if_pos rfl, y23.2.1 39 (by decide), hj1]
      have e40 : g24.2.1 40 = σ.2.1 40 := by rw [y24.2.1 40 (by decide), y23.2.1 40 (by decide)]
      have e41 : g24.2.1 41 = σ.2.1 41 := by rw [y24.2.1 41 (by decide), y23.2.1 41 (by decide)]
      have sz : g8.1 (28 + l) = nI n := by
        rw [h8, zz_I1, if_pos rfl, y7.1 _ (by simp only [List.mem_singleton]; omega), y6.1 _ List.not_mem_nil, y5.1 _ List.not_mem_nil, a2]
      unfold zq8_like_58
      refine ⟨fun v σ2 => ∃ i, i ≤ 9 ∧ v = nI i ∧ (zx g24 σ2 [] [40, 41] ∧ (∀ t, σ2.2.1 40 t = if 9 * l ≤ t ∧ t < 9 * l + i then σ.2.1 40 (9 * o + (t - 9 * l)) else σ.2.1 40 t) ∧ ∀ t, σ2.2.1 41 t = if 9 * l ≤ t ∧ t < 9 * l + i then σ.2.1 41 (9 * o + (t - 9 * l)) else σ.2.1 41 t), fun v _ => 9 - v.toNatClampNeg, ⟨0, Nat.zero_le _, rfl, zx.rf, fun t => by rw [if_neg (by omega), e40], fun t => by rw [if_neg (by omega), e41]⟩, ?_⟩
      rintro v σ2 ⟨i, hi, rfl, hx, p40, p41⟩
      refine ⟨fun z => ⟨q, ?_⟩, fun z => ?_⟩
      · have := zl_end (N := 9) hi (by decide) z
        subst this
        rw [cl]
        refine ⟨?_, ?_⟩
        · rw [sz, hx.2.1 38 (by decide), e38, pk_us]
        · refine h.rk (((y23.mono (by decide) (by decide)).tr (y24.mono (by decide) (by decide))).tr (hx.mono (by decide) (by decide))).y yy (fun l' hl' => ?_)
          obtain ⟨b1, b2, b3⟩ := hK l' hl'
          have f25 : g8.1 (25 + l') = if l' = l then nI j else τ.1 (25 + l') := by
            rw [y8.1 _ (by simp only [List.mem_singleton]; omega), h7, zz_I1, y6.1 _ List.not_mem_nil, y5.1 _ List.not_mem_nil, y6.1 _ List.not_mem_nil, y5.1 _ List.not_mem_nil, hj2]
            by_cases z : l' = l
            · rw [if_pos (by omega), if_pos z]
            · rw [if_neg (by omega), if_neg z]
          have f28 : g8.1 (28 + l') = if l' = l then nI n else τ.1 (28 + l') := by
            by_cases z : l' = l
            · rw [z, sz, if_pos rfl]
            · rw [y8.1 _ (by simp only [List.mem_singleton]; omega), y7.1 _ (by simp only [List.mem_singleton]; omega), y6.1 _ List.not_mem_nil, y5.1 _ List.not_mem_nil, if_neg z]
          have f37 : ∀ t, t < 9 → g8.2.1 (37 + l') t = if l' = l then τ.2.1 (37 + o) t else τ.2.1 (37 + l') t := by
            intro t ht
            rw [y8.2.1 _ List.not_mem_nil, y7.2.1 _ List.not_mem_nil, y6.2.1 _ (by simp only [List.mem_singleton]; omega), h5, zz_A2]
            by_cases z : l' = l
            · rw [if_pos (by omega), if_pos z, zcp0 (N := 9) 9 (by decide), if_pos ht]
            · rw [if_neg (by omega), if_neg z]
          have f40 : ∀ t, t < 9 → g8.2.1 (40 + l') t = if l' = l then τ.2.1 (40 + o) t else τ.2.1 (40 + l') t := by
            intro t ht
            rw [y8.2.1 _ List.not_mem_nil, y7.2.1 _ List.not_mem_nil, h6, zz_A2]
            by_cases z : l' = l
            · rw [if_pos (by omega), if_pos z, zcp0 (N := 9) 9 (by decide), if_pos ht, y5.2.1 _ (by simp only [List.mem_singleton]; omega)]
            · rw [if_neg (by omega), if_neg z, y5.2.1 _ (by simp only [List.mem_singleton]; omega)]
          rw [hx.2.1 38 (by decide), hx.2.1 39 (by decide), e38, e39, f25, f28]
          by_cases z : l' = l
          · subst z
            rw [if_pos rfl, if_pos rfl, pk_us, pk_us]
            refine ⟨Or.inr ⟨n, hn, rfl, rfl⟩, ⟨j, hj, rfl, rfl⟩, fun i hi => ?_⟩
            rw [p40, p41, if_pos (by omega), if_pos (by omega), f37 i hi, f40 i hi, if_pos rfl, if_pos rfl, show 9 * o + (9 * l' + i - 9 * l') = 9 * o + i from by omega]
            exact hit i hi
          · rw [if_neg z, if_neg z, pk_un z, pk_un z]
            refine ⟨b1, b2, fun i hi => ?_⟩
            rw [p40, p41, if_neg (by omega), if_neg (by omega), f37 i hi, f40 i hi, if_neg z, if_neg z]
            exact b3 i hi
      · have hlt := zl_go (N := 9) hi (by decide) z
        obtain ⟨e9, c9, v9⟩ := zi9 (l := l) (i := i) hl hlt
        obtain ⟨o9, d9, w9⟩ := zi9 (l := o) (i := i) ho hlt
        rw [e9, o9, c9, d9]
        refine ⟨w9, v9, fun g16 h16 => ⟨w9, v9, fun g17 h17 => ?_⟩⟩
        have x16 : zx σ2 g16 [] [40] := by rw [h16]; exact zx.A 40 _ (by decide)
        have x17 : zx g16 g17 [] [41] := by rw [h17]; exact zx.A 41 _ (by decide)
        refine zl_leaf (J := fun i σ2 => zx g24 σ2 [] [40, 41] ∧ (∀ t, σ2.2.1 40 t = if 9 * l ≤ t ∧ t < 9 * l + i then σ.2.1 40 (9 * o + (t - 9 * l)) else σ.2.1 40 t) ∧ ∀ t, σ2.2.1 41 t = if 9 * l ≤ t ∧ t < 9 * l + i then σ.2.1 41 (9 * o + (t - 9 * l)) else σ.2.1 41 t) (N := 9) hlt (by decide) ⟨(hx.tr (x16.mono (by decide) (by decide))).tr (x17.mono (by decide) (by decide)), fun t => ?_, fun t => ?_⟩
        · rw [x17.2.1 40 (by decide), h16, zz_A2, if_pos rfl]
          by_cases z2 : t = 9 * l + i
          · rw [z2, pk_us, p40, if_neg (by omega), if_pos (by omega), Nat.add_sub_cancel_left]
          · rw [pk_un z2, p40]
            by_cases z3 : 9 * l ≤ t ∧ t < 9 * l + i
            · rw [if_pos z3, if_pos (by omega)]
            · rw [if_neg z3, if_neg (by omega)]
        · rw [h17, zz_A2, if_pos rfl, x16.2.1 41 (by decide)]
          by_cases z2 : t = 9 * l + i
          · rw [z2, pk_us, p41, if_neg (by omega), if_pos (by omega), Nat.add_sub_cancel_left]
          · rw [pk_un z2, p41]
            by_cases z3 : 9 * l ≤ t ∧ t < 9 * l + i
            · rw [if_pos z3, if_pos (by omega)]
            · rw [if_neg z3, if_neg (by omega)]
  · exact e7_refuse 1 (by decide) (by decide) (e8_isRack (fun _ => zYf n10 (e8_isRack (fun z => absurd z qw) (fun _ => zNt n00 (RQ.no8 h 1 (by decide) (by decide) (by decide))))) (fun z => absurd q z))
  · exact e7_refuse 1 (by decide) (by decide) (e8_isRack (fun z => absurd z q) (fun _ => zYt n00 (RQ.no8 h 1 (by decide) (by decide) (by decide))))
end CC
