/-! likely: sums -/
def zsm (f : Nat → Nat) : Nat → Nat
  | 0 => 0
  | n + 1 => zsm f n + f n
theorem zsm_s (f : Nat → Nat) (n : Nat) : zsm f (n + 1) = zsm f n + f n := rfl
theorem zsm_congr {f g : Nat → Nat} : ∀ n, (∀ i, i < n → f i = g i) → zsm f n = zsm g n := by
  intro n
  induction n with
  | zero => intro _; rfl
  | succ n ih =>
    intro h
    rw [zsm_s, zsm_s, ih (fun i hi => h i (by omega)), h n (Nat.lt_succ_self n)]
theorem zsm_0 {f : Nat → Nat} : ∀ n, (∀ i, i < n → f i = 0) → zsm f n = 0 := by
  intro n
  induction n with
  | zero => intro _; rfl
  | succ n ih =>
    intro h
    rw [zsm_s, ih (fun i hi => h i (by omega)), h n (Nat.lt_succ_self n)]
theorem zsm_le {f g : Nat → Nat} : ∀ n, (∀ i, i < n → f i ≤ g i) → zsm f n ≤ zsm g n := by
  intro n
  induction n with
  | zero => intro _; exact Nat.le_refl _
  | succ n ih =>
    intro h
    rw [zsm_s, zsm_s]
    exact Nat.add_le_add (ih (fun i hi => h i (by omega))) (h n (Nat.lt_succ_self n))
theorem zsm_add2 {f g : Nat → Nat} : ∀ n, zsm (fun i => f i + g i) n = zsm f n + zsm g n := by
  intro n
  induction n with
  | zero => rfl
  | succ n ih => rw [zsm_s, zsm_s, zsm_s, ih]; omega
theorem zsm_swap {g : Nat → Nat → Nat} (M : Nat) : ∀ Y, zsm (fun y => zsm (g y) M) Y = zsm (fun m => zsm (fun y => g y m) Y) M := by
  intro Y
  induction Y with
  | zero => exact (zsm_0 M (fun _ _ => rfl)).symm
  | succ Y ih =>
    rw [zsm_s, ih, ← zsm_add2]
    exact zsm_congr M (fun _ _ => rfl)
theorem zsm_one {a v : Nat} : ∀ Y, zsm (fun y => if y = a then v else 0) Y = if a < Y then v else 0 := by
  intro Y
  induction Y with
  | zero => rfl
  | succ Y ih =>
    rw [zsm_s, ih]
    rcases Nat.lt_trichotomy a Y with h | h | h
    · rw [if_pos h, if_neg (by omega), if_pos (by omega), Nat.add_zero]
    · rw [if_neg (by omega), if_pos h.symm, if_pos (by omega), Nat.zero_add]
    · rw [if_neg (by omega), if_neg (by omega), if_neg (by omega)]
theorem zsm_4 {f : Nat → Nat} : ∀ n, zsm f (4 * n) = zsm (fun x => f (4 * x) + f (4 * x + 1) + f (4 * x + 2) + f (4 * x + 3)) n := by
  intro n
  induction n with
  | zero => rfl
  | succ n ih =>
    rw [show 4 * (n + 1) = 4 * n + 3 + 1 from by omega, zsm_s, show 4 * n + 3 = 4 * n + 2 + 1 from rfl, zsm_s, show 4 * n + 2 = 4 * n + 1 + 1 from rfl, zsm_s, zsm_s, ih, zsm_s]
    show _ = zsm (fun x => f (4 * x) + f (4 * x + 1) + f (4 * x + 2) + f (4 * x + 3)) n + (f (4 * n) + f (4 * n + 1) + f (4 * n + 2) + f (4 * n + 3))
    show zsm (fun x => f (4 * x) + f (4 * x + 1) + f (4 * x + 2) + f (4 * x + 3)) n + f (4 * n) + f (4 * n + 1) + f (4 * n + 2) + f (4 * n + 3) = _
    omega
theorem zsm_app {f : Nat → Nat} (a : Nat) : ∀ b, zsm f (a + b) = zsm f a + zsm (fun i => f (a + i)) b := by
  intro b
  induction b with
  | zero => rfl
  | succ b ih => rw [show a + (b + 1) = a + b + 1 from rfl, zsm_s, zsm_s, ih]; omega
theorem zsm_get {f : Nat → Nat} {i : Nat} : ∀ n, i < n → f i ≤ zsm f n := by
  intro n
  induction n with
  | zero => intro h; omega
  | succ n ih =>
    intro h
    rw [zsm_s]
    rcases Nat.lt_succ_iff_lt_or_eq.mp h with z | z
    · have := ih z; omega
    · rw [z]; omega
/-- a sum over all codes is one over the list -/
theorem zsm_list {f cd : Nat → Nat} {N X : Nat} (hinj : ∀ i j, i < N → j < N → cd i = cd j → i = j) (hlt : ∀ i, i < N → cd i < X) (hf : ∀ x, (¬ ∃ i, i < N ∧ cd i = x) → f x = 0) : zsm f X = zsm (fun i => f (cd i)) N := by
  have h1 : zsm f X = zsm (fun x => zsm (fun i => if x = cd i then f x else 0) N) X := by
    refine zsm_congr X (fun x hx => ?_)
    by_cases h : ∃ i, i < N ∧ cd i = x
    · obtain ⟨i0, h0, e0⟩ := h
      have : zsm (fun i => if x = cd i then f x else 0) N = zsm (fun i => if i = i0 then f x else 0) N := by
        refine zsm_congr N (fun i hi => ?_)
        by_cases z : i = i0
        · rw [if_pos z, if_pos (by rw [z, e0])]
        · rw [if_neg z, if_neg (fun y => z (hinj i i0 hi h0 (by rw [← y, e0])))]
      rw [this, zsm_one, if_pos h0]
    · rw [hf x h]
      exact (zsm_0 N (fun i _ => by split <;> rfl)).symm
  rw [h1, zsm_swap]
  refine zsm_congr N (fun i hi => ?_)
  have : zsm (fun x => if x = cd i then f x else 0) X = zsm (fun x => if x = cd i then f (cd i) else 0) X := by
    refine zsm_congr X (fun x _ => ?_)
    by_cases z : x = cd i
    · rw [z]
    · rw [if_neg z, if_neg z]
  rw [this, zsm_one, if_pos (hlt i hi)]
/-- where small step m leads, by codes -/
def tgc (st : Nat → Nat → Option Nat) (m : Nat) : Nat := match st (m / 4) (m % 4) with
  | some y => y
  | none => m / 4
theorem tgc_s {st : Nat → Nat → Option Nat} {m y : Nat} (h : st (m / 4) (m % 4) = some y) : tgc st m = y := by unfold tgc; rw [h]
theorem tgc_n {st : Nat → Nat → Option Nat} {m : Nat} (h : st (m / 4) (m % 4) = none) : tgc st m = m / 4 := by unfold tgc; rw [h]
/-- how many ways of n lots lead to the code y -/
def zC (st : Nat → Nat → Option Nat) (x0 X : Nat) : Nat → Nat → Nat
  | 0, y => if y = x0 then 1 else 0
  | n + 1, y => zsm (fun m => if y = tgc st m then zC st x0 X n (m / 4) else 0) (4 * X)
/-- how many lead to the j-th state -/
def zI (ti : Nat → Nat) (N : Nat) : Nat → Nat → Nat
  | 0, j => if j = 0 then 1 else 0
  | n + 1, j => zsm (fun m => if j = ti m then zI ti N n (m / 4) else 0) (4 * N)
def TI (st : Nat → Nat → Option Nat) (cd ti : Nat → Nat) (N : Nat) : Prop := ∀ i, i < N → ∀ w, w < 4 → (st (cd i) w = none ∧ ti (4 * i + w) = i) ∨ (∃ y, st (cd i) w = some y ∧ ti (4 * i + w) < N ∧ cd (ti (4 * i + w)) = y)
theorem TI.lt {st : Nat → Nat → Option Nat} {cd ti : Nat → Nat} {N : Nat} (h : TI st cd ti N) {i w : Nat} (hi : i < N) (hw : w < 4) : ti (4 * i + w) < N ∧ tgc st (4 * cd i + w) = cd (ti (4 * i + w)) := by
  have hdiv : (4 * cd i + w) / 4 = cd i := by omega
  have hmod : (4 * cd i + w) % 4 = w := by omega
  rcases h i hi w hw with ⟨a, b⟩ | ⟨y, a, b, c⟩
  · refine ⟨by omega, ?_⟩
    rw [tgc_n (by rw [hdiv, hmod]; exact a), hdiv, b]
  · refine ⟨b, ?_⟩
    rw [tgc_s (by rw [hdiv, hmod]; exact a), c]
theorem zC_zI {st : Nat → Nat → Option Nat} {cd ti : Nat → Nat} {N X x0 : Nat} (hinj : ∀ i j, i < N → j < N → cd i = cd j → i = j) (hlt : ∀ i, i < N → cd i < X) (h0 : cd 0 = x0) (hN : 0 < N) (hT : TI st cd ti N) : ∀ n, (∀ j, j < N → zC st x0 X n (cd j) = zI ti N n j) ∧ ∀ y, (¬ ∃ i, i < N ∧ cd i = y) → zC st x0 X n y = 0 := by
  intro n
  induction n with
  | zero =>
    refine ⟨fun j hj => ?_, fun y hy => ?_⟩
    · show (if cd j = x0 then 1 else 0) = (if j = 0 then 1 else 0)
      by_cases z : j = 0
      · rw [if_pos z, if_pos (by rw [z, h0])]
      · rw [if_neg z, if_neg (fun y => z (hinj j 0 hj hN (by rw [y, h0])))]
    · show (if y = x0 then 1 else 0) = 0
      rw [if_neg (fun z => hy ⟨0, hN, by rw [h0, z]⟩)]
  | succ n ih =>
    obtain ⟨ih1, ih2⟩ := ih
    have key : ∀ y, zC st x0 X (n + 1) y = zsm (fun i => (if y = cd (ti (4 * i)) then zI ti N n i else 0) + (if y = cd (ti (4 * i + 1)) then zI ti N n i else 0) + (if y = cd (ti (4 * i + 2)) then zI ti N n i else 0) + (if y = cd (ti (4 * i + 3)) then zI ti N n i else 0)) N := by
      intro y
      show zsm (fun m => if y = tgc st m then zC st x0 X n (m / 4) else 0) (4 * X) = _
      rw [zsm_4, zsm_list (cd := cd) (N := N) hinj hlt (fun x hx => ?_)]
      · refine zsm_congr N (fun i hi => ?_)
        have t0 := (hT.lt hi (w := 0) (by decide)).2
        have t1 := (hT.lt hi (w := 1) (by decide)).2
        have t2 := (hT.lt hi (w := 2) (by decide)).2
        have t3 := (hT.lt hi (w := 3) (by decide)).2
        rw [Nat.add_zero, Nat.add_zero] at t0
        rw [t0, t1, t2, t3, show 4 * cd i / 4 = cd i from by omega, show (4 * cd i + 1) / 4 = cd i from by omega, show (4 * cd i + 2) / 4 = cd i from by omega, show (4 * cd i + 3) / 4 = cd i from by omega, ih1 i hi]
      · rw [show 4 * x / 4 = x from by omega, show (4 * x + 1) / 4 = x from by omega, show (4 * x + 2) / 4 = x from by omega, show (4 * x + 3) / 4 = x from by omega, ih2 x hx]
        split <;> split <;> split <;> split <;> rfl
    refine ⟨fun j hj => ?_, fun y hy => ?_⟩
    · rw [key (cd j)]
      show _ = zsm (fun m => if j = ti m then zI ti N n (m / 4) else 0) (4 * N)
      rw [zsm_4]
      refine zsm_congr N (fun i hi => ?_)
      have e : ∀ w, w < 4 → (if cd j = cd (ti (4 * i + w)) then zI ti N n i else 0) = (if j = ti (4 * i + w) then zI ti N n i else 0) := by
        intro w hw
        have hl := (hT.lt hi hw).1
        by_cases z : j = ti (4 * i + w)
        · rw [if_pos z, if_pos (by rw [← z])]
        · rw [if_neg z, if_neg (fun u => z (hinj _ _ hj hl u))]
      have e0 := e 0 (by decide)
      rw [Nat.add_zero] at e0
      rw [e0, e 1 (by decide), e 2 (by decide), e 3 (by decide), show 4 * i / 4 = i from by omega, show (4 * i + 1) / 4 = i from by omega, show (4 * i + 2) / 4 = i from by omega, show (4 * i + 3) / 4 = i from by omega]
    · rw [key y]
      refine zsm_0 N (fun i hi => ?_)
      have e : ∀ w, w < 4 → ¬ y = cd (ti (4 * i + w)) := fun w hw u => hy ⟨_, (hT.lt hi hw).1, u.symm⟩
      have e0 := e 0 (by decide)
      rw [Nat.add_zero] at e0
      rw [if_neg e0, if_neg (e 1 (by decide)), if_neg (e 2 (by decide)), if_neg (e 3 (by decide))]
theorem zC_sum {st : Nat → Nat → Option Nat} {X x0 : Nat} : ∀ n, zsm (zC st x0 X n) X ≤ 4 ^ n := by
  intro n
  induction n with
  | zero =>
    show zsm (fun y => if y = x0 then 1 else 0) X ≤ 1
    rw [zsm_one]
    split <;> omega
  | succ n ih =>
    show zsm (fun y => zsm (fun m => if y = tgc st m then zC st x0 X n (m / 4) else 0) (4 * X)) X ≤ 4 ^ (n + 1)
    rw [zsm_swap]
    have h1 : zsm (fun m => zsm (fun y => if y = tgc st m then zC st x0 X n (m / 4) else 0) X) (4 * X) ≤ zsm (fun m => zC st x0 X n (m / 4)) (4 * X) := by
      refine zsm_le _ (fun m _ => ?_)
      rw [zsm_one]
      split <;> omega
    have h2 : zsm (fun m => zC st x0 X n (m / 4)) (4 * X) = zsm (zC st x0 X n) X + zsm (zC st x0 X n) X + zsm (zC st x0 X n) X + zsm (zC st x0 X n) X := by
      rw [zsm_4, ← zsm_add2, ← zsm_add2, ← zsm_add2]
      refine zsm_congr X (fun x _ => ?_)
      rw [show 4 * x / 4 = x from by omega, show (4 * x + 1) / 4 = x from by omega, show (4 * x + 2) / 4 = x from by omega, show (4 * x + 3) / 4 = x from by omega]
    rw [Nat.pow_succ]
    omega
theorem zC_le {st : Nat → Nat → Option Nat} {X x0 n y : Nat} (hy : y < X) : zC st x0 X n y ≤ 4 ^ n := Nat.le_trans (zsm_get X hy) (zC_sum n)
/-- where one ends at a place -/
theorem zE_eq {st : Nat → Nat → Option Nat} {cd ti : Nat → Nat} {N x0 p n : Nat} (hinj : ∀ i j, i < N → j < N → cd i = cd j → i = j) (hlt : ∀ i, i < N → cd i < 1728) (h0 : cd 0 = x0) (hN : 0 < N) (hT : TI st cd ti N) (hp : p < 72) :
    zsm (fun s => zC st x0 1728 n (24 * p + s)) 24 = zsm (fun i => if cd i / 24 = p then zI ti N n i else 0) N ∧ zsm (fun s => zC st x0 1728 n (24 * p + s)) 24 ≤ 4 ^ n := by
  have hz := zC_zI hinj hlt h0 hN hT n
  have hs := zC_sum (st := st) (X := 1728) (x0 := x0) n
  generalize hX : (1728 : Nat) = X at *
  have e1 : zsm (fun x => if x / 24 = p then zC st x0 X n x else 0) X = zsm (fun s => zC st x0 X n (24 * p + s)) 24 := by
    obtain ⟨r, hr⟩ : ∃ r, X = 24 * p + (24 + r) := ⟨X - 24 * p - 24, by omega⟩
    rw [hr, zsm_app, zsm_app, ← hr, zsm_0 (24 * p) (fun i hi => if_neg (by omega)), zsm_0 r (fun i _ => if_neg (by omega)), Nat.zero_add, Nat.add_zero]
    exact zsm_congr 24 (fun s hs => if_pos (by omega))
  refine ⟨?_, ?_⟩
  · rw [← e1, zsm_list (cd := cd) (N := N) hinj hlt (fun x hx => ?_)]
    · refine zsm_congr N (fun i hi => ?_)
      rw [hz.1 i hi]
    · rw [hz.2 x hx]
      split <;> rfl
  · rw [← e1]
    refine Nat.le_trans (zsm_le X (fun x _ => ?_)) hs
    split <;> omega
/-- halves are what both sides share -/
theorem zg_odd {b : Nat} (hb : b % 2 = 1) : ∀ m, Nat.gcd b (2 ^ m) = 1 := by
  intro m
  have h2 : Nat.Coprime b 2 := by
    show Nat.gcd b 2 = 1
    rw [Nat.gcd_comm, Nat.gcd_rec, hb, Nat.gcd_one_left]
  exact Nat.Coprime.pow_right m h2
theorem zg_gcd {a b i M : Nat} (ha : a = 2 ^ i * b) (hi : i ≤ M) (hb : i = M ∨ b % 2 = 1) : Nat.gcd a (2 ^ M) = 2 ^ i := by
  have e : 2 ^ M = 2 ^ i * 2 ^ (M - i) := by rw [← Nat.pow_add]; congr 1; omega
  rw [ha, e, Nat.gcd_mul_left]
  rcases hb with z | z
  · rw [z, Nat.sub_self, Nat.pow_zero, Nat.gcd_one_right, Nat.mul_one]
  · rw [zg_odd z, Nat.mul_one]
