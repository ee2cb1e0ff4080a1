def zq8_in (v0 : Int64) (v2 : Int64) (v4 : Int64) (Qp : Int32 → Prop) : Prop :=
(((lg_cmp v0 v2) < 0) →
  Qp (0 : Int32) ) ∧ (¬ ((lg_cmp v0 v2) < 0) →
  ((0 < (lg_cmp v0 v4)) →
    Qp (0 : Int32) ) ∧ (¬ (0 < (lg_cmp v0 v4)) →
    Qp (1 : Int32) ))
def zq8_no (v1 : Int32) (σ : zz_St) (Qp : Int32 → zz_St → Prop) : Prop :=
((v1 < (-6 : Int32)) →
  Qp v1 σ) ∧ (¬ (v1 < (-6 : Int32)) →
  vp_in (-v1) 7 ∧
  vp_in (-v1) 7 ∧
  ∀ g4 : zz_St, g4 = zz_A σ 1 (upd ((σ).2.1 1) (-v1).toNatClampNeg (((σ).2.1 1 (-v1).toNatClampNeg) + (1 : Int32))) →
  Qp v1 g4)
def zq8_longNo (v1 : Int32) (σ : zz_St) (Qp : Int64 → zz_St → Prop) : Prop :=
zq8_no v1 σ (fun r3 g4 =>
  Qp ((4000000000000000000 : Int64) - (r3.toInt64)) g4)
def zq8_tileMany  (σ : zz_St) (Qp : Int32 → Prop) : Prop :=
Qp (((σ).1 2) * ((σ).1 3)) 
def zq8_isTile (v1 : Int32) (σ : zz_St) (Qp : Int32 → Prop) : Prop :=
zq8_tileMany  σ (fun r3 =>
  zq8_in (v1.toInt64) (0 : Int64) ((r3 - (1 : Int32)).toInt64) (fun r4 =>
    (r4 = 0 ∨ r4 = 1) ∧
    Qp r4 ))
def zq8_isTetra  (σ : zz_St) (Qp : Int32 → Prop) : Prop :=
((((σ).1 7) < (4 : Int32)) →
  Qp (0 : Int32) ) ∧ (¬ (((σ).1 7) < (4 : Int32)) →
  Qp (1 : Int32) )
def zq8_isBlock  (σ : zz_St) (Qp : Int32 → Prop) : Prop :=
((((σ).1 7) = (2 : Int32)) →
  Qp (1 : Int32) ) ∧ (¬ (((σ).1 7) = (2 : Int32)) →
  ((¬ ((σ).1 7) = (3 : Int32)) →
    Qp (0 : Int32) ) ∧ (((σ).1 7) = (3 : Int32) →
    Qp (1 : Int32) ))
def zq8_isPlace_15 (s0 : Int32) (s1 : Int64) (s2 : Int64) (σ : zz_St) (Qp : Int32 → Prop) : Prop :=
zq8_tileMany  σ (fun r5 =>
  zq8_in s2 s1 (((s0 * r5) - (1 : Int32)).toInt64) (fun r6 =>
    (r6 = 0 ∨ r6 = 1) ∧
    Qp r6 ))
def zq8_isPlace (v1 : Int32) (σ : zz_St) (Qp : Int32 → Prop) : Prop :=
zq8_isTetra  σ (fun r7 =>
  ((r7 = 0) →
    zq8_isPlace_15 (1 : Int32) (0 : Int64) (v1.toInt64) σ Qp) ∧ (¬ (r7 = 0) →
    zq8_isPlace_15 (2 : Int32) (0 : Int64) (v1.toInt64) σ Qp))
def zq8_isFace_19 (s0 : Int64) (s1 : Int64) (s2 : Int64) (σ : zz_St) (Qp : Int32 → Prop) : Prop :=
zq8_in s2 s1 s0 (fun r4 =>
  (r4 = 0 ∨ r4 = 1) ∧
  Qp r4 )
def zq8_isFace (v1 : Int32) (σ : zz_St) (Qp : Int32 → Prop) : Prop :=
zq8_isTetra  σ (fun r5 =>
  ((r5 = 0) →
    zq8_isFace_19 (5 : Int64) (0 : Int64) (v1.toInt64) σ Qp) ∧ (¬ (r5 = 0) →
    zq8_isFace_19 (3 : Int64) (0 : Int64) (v1.toInt64) σ Qp))
def zq8_below  (σ : zz_St) (Qp : Int32 → Prop) : Prop :=
zq8_isTetra  σ (fun r3 =>
  ((r3 = 0) →
    vp_in (1 : Int32) 6 ∧
    Qp ((σ).2.1 10 (1 : Int32).toNatClampNeg) ) ∧ (¬ (r3 = 0) →
    vp_in (0 : Int32) 6 ∧
    Qp ((σ).2.1 10 (0 : Int32).toNatClampNeg) ))
def zq8_lying  (σ : zz_St) (Qp : Int32 → Prop) : Prop :=
vp_in (0 : Int32) 6 ∧
((((σ).2.1 10 (0 : Int32).toNatClampNeg) < (2 : Int32)) →
  Qp (0 : Int32) ) ∧ (¬ (((σ).2.1 10 (0 : Int32).toNatClampNeg) < (2 : Int32)) →
  vp_in (1 : Int32) 6 ∧
  (((2 : Int32) ≤ ((σ).2.1 10 (1 : Int32).toNatClampNeg)) →
    vp_in (3 : Int32) 6 ∧
    ((((σ).2.1 10 (3 : Int32).toNatClampNeg) < (2 : Int32)) →
      Qp (1 : Int32) ) ∧ (¬ (((σ).2.1 10 (3 : Int32).toNatClampNeg) < (2 : Int32)) →
      vp_in (5 : Int32) 6 ∧
      (((2 : Int32) ≤ ((σ).2.1 10 (5 : Int32).toNatClampNeg)) →
        Qp (2 : Int32) ) ∧ (¬ ((2 : Int32) ≤ ((σ).2.1 10 (5 : Int32).toNatClampNeg)) →
        Qp (1 : Int32) ))) ∧ (¬ ((2 : Int32) ≤ ((σ).2.1 10 (1 : Int32).toNatClampNeg)) →
    Qp (0 : Int32) ))
def zq8_tellsUnder_116 (v1 : Int32) (s0 : Int32) (s1 : Int32) (σ : zz_St) (Qp : Int32 → zz_St → Prop) : Prop :=
vp_in s1 2 ∧
∀ g20 : zz_St, g20 = zz_A σ 11 (upd ((σ).2.1 11) s1.toNatClampNeg s0) →
∀ g21 : zz_St, g21 = zz_I g20 12 (2 : Int32) →
((¬ v1 = (1 : Int32)) →
  (¬ (g21.1 3) = 0) ∧
  ((((g21.1 2) - (1 : Int32)) ≤ ((g21.1 8) / (g21.1 3))) →
    Qp (0 : Int32) g21) ∧ (¬ (((g21.1 2) - (1 : Int32)) ≤ ((g21.1 8) / (g21.1 3))) →
    Qp (1 : Int32) g21)) ∧ (v1 = (1 : Int32) →
  (¬ (g21.1 3) = 0) ∧
  ((((g21.1 3) - (1 : Int32)) ≤ ((g21.1 8) - (g21.1 8) / (g21.1 3) * (g21.1 3))) →
    Qp (0 : Int32) g21) ∧ (¬ (((g21.1 3) - (1 : Int32)) ≤ ((g21.1 8) - (g21.1 8) / (g21.1 3) * (g21.1 3))) →
    Qp (1 : Int32) g21))
def zq8_tellsUnder_81 (s0 : Int32) (σ : zz_St) (Qp : Int32 → zz_St → Prop) : Prop :=
((¬ s0 = 0) →
  ((¬ s0 = (1 : Int32)) →
    zq8_tellsUnder_116 s0 (((σ).1 8) + ((σ).1 3)) (1 : Int32) σ Qp) ∧ (s0 = (1 : Int32) →
    zq8_tellsUnder_116 s0 (((σ).1 8) + (1 : Int32)) (1 : Int32) σ Qp)) ∧ (s0 = 0 →
  Qp (1 : Int32) σ)
def zq8_tellsUnder  (σ : zz_St) (Qp : Int32 → zz_St → Prop) : Prop :=
∀ g27 : zz_St, g27 = zz_I σ 12 (1 : Int32) →
zq8_isTetra  g27 (fun r28 =>
  ((r28 = 0) →
    vp_in (0 : Int32) 2 ∧
    ∀ g30 : zz_St, g30 = zz_A g27 11 (upd (g27.2.1 11) (0 : Int32).toNatClampNeg (g27.1 8)) →
    zq8_isTile (g30.1 8) g30 (fun r31 =>
      ((¬ r31 = 0) →
        zq8_isBlock  g30 (fun r33 =>
          ((r33 = 0) →
            zq8_tellsUnder_81 (0 : Int32) g30 Qp) ∧ (¬ (r33 = 0) →
            zq8_lying  g30 (fun r35 =>
              zq8_tellsUnder_81 r35 g30 Qp)))) ∧ (r31 = 0 →
        Qp (0 : Int32) g30))) ∧ (¬ (r28 = 0) →
    vp_in (0 : Int32) 2 ∧
    ∀ g36 : zz_St, g36 = zz_A g27 11 (upd (g27.2.1 11) (0 : Int32).toNatClampNeg ((g27.1 8) / (2 : Int32))) →
    zq8_tileMany  g36 (fun r37 =>
      zq8_in ((g36.1 8).toInt64) (0 : Int64) ((((2 : Int32) * r37) - (1 : Int32)).toInt64) (fun r38 =>
        (r38 = 0 ∨ r38 = 1) ∧
        Qp r38 g36))))
def zq8_mayLie_76 (v1 : Int32) (v2 : Int32) (σ : zz_St) (Qp : Int32 → zz_St → Prop) (B40 : Int32 → Prop) : Prop :=
B40 (v2 + (1 : Int32))
def zq8_mayLie_40 (v1 : Int32) (v2 : Int32) (σ : zz_St) (Qp : Int32 → zz_St → Prop) : Prop :=
 ∃ (I40 : Int32 → Prop) (M40 : Int32 → Nat), I40 v2 ∧ ∀ (v2 : Int32), I40 v2 →
((((σ).1 12) ≤ v2) →
  Qp (1 : Int32) σ) ∧ (¬ (((σ).1 12) ≤ v2) →
  vp_in v2 2 ∧
  vp_in ((σ).2.1 11 v2.toNatClampNeg) 36 ∧
  ∀ x14 : Int32, x14 = (σ).2.1 4 ((σ).2.1 11 v2.toNatClampNeg).toNatClampNeg →
  ((x14 = (1 : Int32)) →
    Qp (0 : Int32) σ) ∧ (¬ (x14 = (1 : Int32)) →
    ((¬ x14 = (2 : Int32)) →
      zq8_mayLie_76 v1 v2 σ Qp (fun v2' => I40 v2' ∧ M40 v2' < M40 v2)) ∧ (x14 = (2 : Int32) →
      ((v1 = 0) →
        zq8_mayLie_76 v1 v2 σ Qp (fun v2' => I40 v2' ∧ M40 v2' < M40 v2)) ∧ (¬ (v1 = 0) →
        Qp (0 : Int32) σ))))
def zq8_mayLie_37 (s0 : Int32) (σ : zz_St) (Qp : Int32 → zz_St → Prop) : Prop :=
zq8_mayLie_40 s0 (0 : Int32) σ Qp
def zq8_mayLie_32  (σ : zz_St) (Qp : Int32 → zz_St → Prop) : Prop :=
zq8_mayLie_37 (1 : Int32) σ Qp
def zq8_mayLie_36  (σ : zz_St) (Qp : Int32 → zz_St → Prop) : Prop :=
zq8_mayLie_37 (0 : Int32) σ Qp
def zq8_mayLie  (σ : zz_St) (Qp : Int32 → zz_St → Prop) : Prop :=
zq8_tellsUnder  σ (fun r18 g19 =>
  ((¬ r18 = 0) →
    (((g19.1 7) = (1 : Int32)) →
      zq8_mayLie_32 g19 Qp) ∧ (¬ ((g19.1 7) = (1 : Int32)) →
      ((¬ (g19.1 7) = (3 : Int32)) →
        zq8_mayLie_36 g19 Qp) ∧ ((g19.1 7) = (3 : Int32) →
        zq8_lying  g19 (fun r23 =>
          ((r23 = 0) →
            zq8_mayLie_36 g19 Qp) ∧ (¬ (r23 = 0) →
            zq8_mayLie_32 g19 Qp))))) ∧ (r18 = 0 →
    Qp (0 : Int32) g19))
def zq8_turns (v1 : Int32) (v2 : Int32) (v3 : Int32) (v4 : Int32) (σ : zz_St) (Qp : zz_St → Prop) : Prop :=
vp_in v1 6 ∧
∀ x6 : Int32, x6 = (σ).2.1 10 v1.toNatClampNeg →
vp_in v2 6 ∧
vp_in v1 6 ∧
∀ g7 : zz_St, g7 = zz_A σ 10 (upd ((σ).2.1 10) v1.toNatClampNeg ((σ).2.1 10 v2.toNatClampNeg)) →
vp_in v3 6 ∧
vp_in v2 6 ∧
∀ g8 : zz_St, g8 = zz_A g7 10 (upd (g7.2.1 10) v2.toNatClampNeg (g7.2.1 10 v3.toNatClampNeg)) →
vp_in v4 6 ∧
vp_in v3 6 ∧
∀ g9 : zz_St, g9 = zz_A g8 10 (upd (g8.2.1 10) v3.toNatClampNeg (g8.2.1 10 v4.toNatClampNeg)) →
vp_in v4 6 ∧
∀ g10 : zz_St, g10 = zz_A g9 10 (upd (g9.2.1 10) v4.toNatClampNeg x6) →
Qp g10
def zq8_turnsCube (v1 : Int32) (σ : zz_St) (Qp : zz_St → Prop) : Prop :=
(v1 = (0 : Int32) →
  zq8_turns (1 : Int32) (2 : Int32) (0 : Int32) (4 : Int32) σ (fun g5 =>
    Qp g5)) ∧ (¬ v1 = (0 : Int32) →
(v1 = (1 : Int32) →
  zq8_turns (1 : Int32) (3 : Int32) (0 : Int32) (5 : Int32) σ (fun g6 =>
    Qp g6)) ∧ (¬ v1 = (1 : Int32) →
(v1 = (2 : Int32) →
  zq8_turns (1 : Int32) (4 : Int32) (0 : Int32) (2 : Int32) σ (fun g7 =>
    Qp g7)) ∧ (¬ v1 = (2 : Int32) →
  zq8_turns (1 : Int32) (5 : Int32) (0 : Int32) (3 : Int32) σ (fun g8 =>
    Qp g8))))
def zq8_turnsTetra (v1 : Int32) (σ : zz_St) (Qp : zz_St → Prop) : Prop :=
((¬ v1 = (1 : Int32)) →
  ((¬ v1 = (3 : Int32)) →
    vp_in (0 : Int32) 6 ∧
    ∀ x10 : Int32, x10 = (σ).2.1 10 (0 : Int32).toNatClampNeg →
    vp_in (3 : Int32) 6 ∧
    vp_in (0 : Int32) 6 ∧
    ∀ g11 : zz_St, g11 = zz_A σ 10 (upd ((σ).2.1 10) (0 : Int32).toNatClampNeg ((σ).2.1 10 (3 : Int32).toNatClampNeg)) →
    vp_in (3 : Int32) 6 ∧
    ∀ g12 : zz_St, g12 = zz_A g11 10 (upd (g11.2.1 10) (3 : Int32).toNatClampNeg x10) →
    Qp g12) ∧ (v1 = (3 : Int32) →
    zq8_turns (0 : Int32) (1 : Int32) (3 : Int32) (2 : Int32) σ (fun g13 =>
      Qp g13))) ∧ (v1 = (1 : Int32) →
  zq8_turns (0 : Int32) (2 : Int32) (3 : Int32) (1 : Int32) σ (fun g14 =>
    Qp g14))
def zq8_goesTetra_101 (v1 : Int32) (v2 : Int32) (v3 : Int32) (s0 : Int32) (s1 : Int32) (σ : zz_St) (Qp : Int32 → zz_St → Prop) : Prop :=
∀ x23 : Int32, x23 = s1 + s0 →
zq8_in (v3.toInt64) (0 : Int64) ((((σ).1 2) - (1 : Int32)).toInt64) (fun r24 =>
  ((r24 = 0) →
    Qp (0 : Int32) σ) ∧ (¬ (r24 = 0) →
    zq8_in (x23.toInt64) (0 : Int64) ((v2 - (1 : Int32)).toInt64) (fun r26 =>
      ((¬ r26 = 0) →
        ∀ g28 : zz_St, g28 = zz_I σ 8 ((v2 * v3) + x23) →
        zq8_turnsTetra v1 g28 (fun g29 =>
          ((¬ (g29.1 7) = (5 : Int32)) →
            Qp (1 : Int32) g29) ∧ ((g29.1 7) = (5 : Int32) →
            vp_in ((g29.1 8) / (2 : Int32)) 36 ∧
            ((0 ≤ (g29.2.1 5 ((g29.1 8) / (2 : Int32)).toNatClampNeg)) →
              Qp (0 : Int32) g29) ∧ (¬ (0 ≤ (g29.2.1 5 ((g29.1 8) / (2 : Int32)).toNatClampNeg)) →
              Qp (1 : Int32) g29)))) ∧ (r26 = 0 →
        Qp (0 : Int32) σ))))
def zq8_goesTetra_78 (v1 : Int32) (v2 : Int32) (v4 : Int32) (s0 : Int32) (s1 : Int32) (σ : zz_St) (Qp : Int32 → zz_St → Prop) : Prop :=
∀ x32 : Int32, x32 = s1 + s0 →
((¬ v1 = (1 : Int32)) →
  ((¬ v1 = (3 : Int32)) →
    zq8_goesTetra_101 v1 v2 x32 (0 : Int32) v4 σ Qp) ∧ (v1 = (3 : Int32) →
    zq8_goesTetra_101 v1 v2 x32 (-1 : Int32) v4 σ Qp)) ∧ (v1 = (1 : Int32) →
  zq8_goesTetra_101 v1 v2 x32 (1 : Int32) v4 σ Qp)
def zq8_goesTetra_59 (v1 : Int32) (v2 : Int32) (v3 : Int32) (v4 : Int32) (σ : zz_St) (Qp : Int32 → zz_St → Prop) : Prop :=
((¬ v1 = 0) →
  ((¬ v1 = (2 : Int32)) →
    zq8_goesTetra_78 v1 v2 v4 (0 : Int32) v3 σ Qp) ∧ (v1 = (2 : Int32) →
    zq8_goesTetra_78 v1 v2 v4 (1 : Int32) v3 σ Qp)) ∧ (v1 = 0 →
  zq8_goesTetra_78 v1 v2 v4 (-1 : Int32) v3 σ Qp)
def zq8_goesTetra_47 (v1 : Int32) (v2 : Int32) (v3 : Int32) (v4 : Int32) (v5 : Int32) (σ : zz_St) (Qp : Int32 → zz_St → Prop) : Prop :=
((¬ v1 = (2 : Int32)) →
  zq8_goesTetra_59 v1 v2 v3 v4 σ Qp) ∧ (v1 = (2 : Int32) →
  ((¬ v5 = 0) →
    zq8_goesTetra_59 v1 v2 v3 v4 σ Qp) ∧ (v5 = 0 →
    Qp (0 : Int32) σ))
def zq8_goesTetra_36 (v1 : Int32) (v2 : Int32) (v3 : Int32) (v4 : Int32) (s0 : Int32) (σ : zz_St) (Qp : Int32 → zz_St → Prop) : Prop :=
((¬ v1 = 0) →
  zq8_goesTetra_47 v1 v2 v3 v4 s0 σ Qp) ∧ (v1 = 0 →
  ((¬ s0 = 0) →
    Qp (0 : Int32) σ) ∧ (s0 = 0 →
    zq8_goesTetra_47 v1 v2 v3 v4 s0 σ Qp))
def zq8_goesTetra (v1 : Int32) (σ : zz_St) (Qp : Int32 → zz_St → Prop) : Prop :=
∀ x41 : Int32, x41 = (2 : Int32) * ((σ).1 3) →
(¬ x41 = 0) ∧
∀ x42 : Int32, x42 = ((σ).1 8) / x41 →
(¬ x41 = 0) ∧
∀ x43 : Int32, x43 = ((σ).1 8) - ((σ).1 8) / x41 * x41 →
((¬ ((x42 + x43) - (x42 + x43) / (2 : Int32) * (2 : Int32)) = 0) →
  zq8_goesTetra_36 v1 x41 x42 x43 (0 : Int32) σ Qp) ∧ (((x42 + x43) - (x42 + x43) / (2 : Int32) * (2 : Int32)) = 0 →
  zq8_goesTetra_36 v1 x41 x42 x43 (1 : Int32) σ Qp)
def zq8_goesSquare_112 (v1 : Int32) (v2 : Int32) (v3 : Int32) (σ : zz_St) (Qp : Int32 → zz_St → Prop) : Prop :=
zq8_in (v2.toInt64) (0 : Int64) ((((σ).1 2) - (1 : Int32)).toInt64) (fun r23 =>
  ((r23 = 0) →
    Qp (0 : Int32) σ) ∧ (¬ (r23 = 0) →
    zq8_in (v3.toInt64) (0 : Int64) ((((σ).1 3) - (1 : Int32)).toInt64) (fun r25 =>
      ((¬ r25 = 0) →
        ∀ g27 : zz_St, g27 = zz_I σ 8 ((((σ).1 3) * v2) + v3) →
        zq8_turnsCube v1 g27 (fun g28 =>
          Qp (1 : Int32) g28)) ∧ (r25 = 0 →
        Qp (0 : Int32) σ))))
def zq8_goesSquare_102 (v1 : Int32) (v2 : Int32) (v3 : Int32) (v6 : Int32) (σ : zz_St) (Qp : Int32 → zz_St → Prop) : Prop :=
((¬ v1 = (3 : Int32)) →
  zq8_goesSquare_112 v1 v2 v3 σ Qp) ∧ (v1 = (3 : Int32) →
  ∀ x30 : Int32, x30 = v3 - v6 →
  zq8_goesSquare_112 v1 v2 x30 σ Qp)
def zq8_goesSquare_92 (v1 : Int32) (v2 : Int32) (v3 : Int32) (v5 : Int32) (v6 : Int32) (σ : zz_St) (Qp : Int32 → zz_St → Prop) : Prop :=
((¬ v1 = (2 : Int32)) →
  zq8_goesSquare_102 v1 v2 v3 v6 σ Qp) ∧ (v1 = (2 : Int32) →
  ∀ x32 : Int32, x32 = v2 + v5 →
  zq8_goesSquare_102 v1 x32 v3 v6 σ Qp)
def zq8_goesSquare_82 (v1 : Int32) (v2 : Int32) (v3 : Int32) (v5 : Int32) (v6 : Int32) (σ : zz_St) (Qp : Int32 → zz_St → Prop) : Prop :=
((¬ v1 = (1 : Int32)) →
  zq8_goesSquare_92 v1 v2 v3 v5 v6 σ Qp) ∧ (v1 = (1 : Int32) →
  ∀ x34 : Int32, x34 = v3 + v5 →
  zq8_goesSquare_92 v1 v2 x34 v5 v6 σ Qp)
def zq8_goesSquare_71 (v1 : Int32) (v2 : Int32) (v3 : Int32) (v5 : Int32) (s0 : Int32) (σ : zz_St) (Qp : Int32 → zz_St → Prop) : Prop :=
((¬ v1 = 0) →
  zq8_goesSquare_82 v1 v2 v3 v5 s0 σ Qp) ∧ (v1 = 0 →
  ∀ x36 : Int32, x36 = v2 - s0 →
  zq8_goesSquare_82 v1 x36 v3 v5 s0 σ Qp)
def zq8_goesSquare_59 (v1 : Int32) (v2 : Int32) (v3 : Int32) (v4 : Int32) (s0 : Int32) (σ : zz_St) (Qp : Int32 → zz_St → Prop) : Prop :=
((¬ v4 = 0) →
  zq8_goesSquare_71 v1 v2 v3 s0 (1 : Int32) σ Qp) ∧ (v4 = 0 →
  zq8_goesSquare_71 v1 v2 v3 s0 (2 : Int32) σ Qp)
def zq8_goesSquare_51 (v1 : Int32) (v2 : Int32) (v3 : Int32) (v4 : Int32) (s0 : Int32) (s1 : Int32) (σ : zz_St) (Qp : Int32 → zz_St → Prop) : Prop :=
((¬ s1 = s0) →
  zq8_goesSquare_59 v1 v2 v3 v4 (1 : Int32) σ Qp) ∧ (s1 = s0 →
  zq8_goesSquare_59 v1 v2 v3 v4 (2 : Int32) σ Qp)
def zq8_goesSquare_35 (v1 : Int32) (v2 : Int32) (v3 : Int32) (s0 : Int32) (σ : zz_St) (Qp : Int32 → zz_St → Prop) : Prop :=
((¬ (v1 - v1 / (2 : Int32) * (2 : Int32)) = (1 : Int32)) →
  zq8_goesSquare_51 v1 v2 v3 s0 (2 : Int32) s0 σ Qp) ∧ ((v1 - v1 / (2 : Int32) * (2 : Int32)) = (1 : Int32) →
  zq8_goesSquare_51 v1 v2 v3 s0 (1 : Int32) s0 σ Qp)
def zq8_goesSquare (v1 : Int32) (σ : zz_St) (Qp : Int32 → zz_St → Prop) : Prop :=
(¬ ((σ).1 3) = 0) ∧
∀ x40 : Int32, x40 = ((σ).1 8) / ((σ).1 3) →
(¬ ((σ).1 3) = 0) ∧
∀ x41 : Int32, x41 = ((σ).1 8) - ((σ).1 8) / ((σ).1 3) * ((σ).1 3) →
zq8_isBlock  σ (fun r42 =>
  ((r42 = 0) →
    zq8_goesSquare_35 v1 x40 x41 (3 : Int32) σ Qp) ∧ (¬ (r42 = 0) →
    zq8_lying  σ (fun r44 =>
      zq8_goesSquare_35 v1 x40 x41 r44 σ Qp)))
def zq8_rolls_82 (v3 : Int32) (v4 : Int32) (σ : zz_St) (Qp : Int32 → zz_St → Prop) : Prop :=
 ∃ (I82 : Int32 → zz_St → Prop) (M82 : Int32 → zz_St → Nat), I82 v4 σ ∧ ∀ (v4 : Int32) (σ : zz_St), I82 v4 σ →
(((6 : Int32) ≤ v4) →
  (v3 = 0 ∨ v3 = 1) ∧
  Qp v3 σ) ∧ (¬ ((6 : Int32) ≤ v4) →
  vp_in v4 6 ∧
  vp_in v4 6 ∧
  ∀ g20 : zz_St, g20 = zz_A σ 10 (upd ((σ).2.1 10) v4.toNatClampNeg ((σ).2.1 13 v4.toNatClampNeg)) →
  I82 (v4 + (1 : Int32)) g20 ∧ M82 (v4 + (1 : Int32)) g20 < M82 v4 σ)
def zq8_rolls_69 (v2 : Int32) (s0 : Int32) (σ : zz_St) (Qp : Int32 → zz_St → Prop) : Prop :=
((¬ s0 = 0) →
  (s0 = 0 ∨ s0 = 1) ∧
  Qp s0 σ) ∧ (s0 = 0 →
  ∀ g22 : zz_St, g22 = zz_I σ 8 v2 →
  zq8_rolls_82 s0 (0 : Int32) g22 Qp)
def zq8_rolls_68 (v2 : Int32) (σ : zz_St) (Qp : Int32 → zz_St → Prop) : Prop :=
zq8_rolls_69 v2 (0 : Int32) σ Qp
def zq8_rolls_57 (v2 : Int32) (σ : zz_St) (Qp : Int32 → zz_St → Prop) : Prop :=
zq8_mayLie  σ (fun r23 g24 =>
  ((r23 = 0) →
    zq8_rolls_68 v2 g24 Qp) ∧ (¬ (r23 = 0) →
    zq8_rolls_69 v2 (1 : Int32) g24 Qp))
def zq8_rolls_7 (v1 : Int32) (v2 : Int32) (v3 : Int32) (σ : zz_St) (Qp : Int32 → zz_St → Prop) : Prop :=
 ∃ (I7 : Int32 → zz_St → Prop) (M7 : Int32 → zz_St → Nat), I7 v3 σ ∧ ∀ (v3 : Int32) (σ : zz_St), I7 v3 σ →
(((6 : Int32) ≤ v3) →
  zq8_isTetra  σ (fun r27 =>
    ((r27 = 0) →
      zq8_goesSquare v1 σ (fun r29 g30 =>
        ((r29 = 0) →
          zq8_rolls_68 v2 g30 Qp) ∧ (¬ (r29 = 0) →
          zq8_rolls_57 v2 g30 Qp))) ∧ (¬ (r27 = 0) →
      zq8_goesTetra v1 σ (fun r32 g33 =>
        ((r32 = 0) →
          zq8_rolls_68 v2 g33 Qp) ∧ (¬ (r32 = 0) →
          zq8_rolls_57 v2 g33 Qp))))) ∧ (¬ ((6 : Int32) ≤ v3) →
  vp_in v3 6 ∧
  vp_in v3 6 ∧
  ∀ g35 : zz_St, g35 = zz_A σ 13 (upd ((σ).2.1 13) v3.toNatClampNeg ((σ).2.1 10 v3.toNatClampNeg)) →
  I7 (v3 + (1 : Int32)) g35 ∧ M7 (v3 + (1 : Int32)) g35 < M7 v3 σ)
def zq8_rolls (v1 : Int32) (σ : zz_St) (Qp : Int32 → zz_St → Prop) : Prop :=
∀ x36 : Int32, x36 = (σ).1 8 →
zq8_rolls_7 v1 x36 (0 : Int32) σ Qp
def zq8_letter_27  (σ : zz_St) (Qp : Int32 → zz_St → Prop) : Prop :=
zq8_no (-6 : Int32) σ (fun r10 g11 =>
  Qp r10 g11)
def zq8_letter (v1 : Int32) (σ : zz_St) (Qp : Int32 → zz_St → Prop) : Prop :=
((0 ≤ v1) →
  (((255 : Int32) < v1) →
    zq8_letter_27 σ Qp) ∧ (¬ ((255 : Int32) < v1) →
    ((¬ ((σ).1 15) = (72 : Int32)) →
      vp_in ((σ).1 15) 72 ∧
      ∀ g15 : zz_St, g15 = zz_A σ 14 (upd ((σ).2.1 14) ((σ).1 15).toNatClampNeg v1) →
      ∀ g16 : zz_St, g16 = zz_I g15 15 ((g15.1 15) + (1 : Int32)) →
      Qp (g16.1 15) g16) ∧ (((σ).1 15) = (72 : Int32) →
      zq8_letter_27 σ Qp))) ∧ (¬ (0 ≤ v1) →
  zq8_no (-4 : Int32) σ (fun r17 g18 =>
    Qp r17 g18))
def zq8_signOf (v0 : Int32) (Qp : Int32 → Prop) : Prop :=
((¬ v0 = (46 : Int32)) →
  ((¬ v0 = (35 : Int32)) →
    ((¬ v0 = (126 : Int32)) →
      Qp (-1 : Int32) ) ∧ (v0 = (126 : Int32) →
      Qp (2 : Int32) )) ∧ (v0 = (35 : Int32) →
    Qp (1 : Int32) )) ∧ (v0 = (46 : Int32) →
  Qp (0 : Int32) )
def zq8_boardFault_117 (v1 : Int32) (v2 : Int32) (σ : zz_St) (Qp : Int32 → zz_St → Prop) (B14 : Int32 → Int32 → zz_St → Prop) : Prop :=
B14 v1 (v2 + (1 : Int32)) σ
def zq8_boardFault_56 (v1 : Int32) (v2 : Int32) (σ : zz_St) (Qp : Int32 → zz_St → Prop) (B14 : Int32 → Int32 → zz_St → Prop) : Prop :=
∀ g18 : zz_St, g18 = zz_I σ 17 v1 →
∀ g19 : zz_St, g19 = zz_I g18 16 ((g18.1 16) + (1 : Int32)) →
zq8_boardFault_117 (0 : Int32) v2 g19 Qp B14
def zq8_boardFault_109 (v1 : Int32) (v2 : Int32) (s0 : Int32) (s1 : Int32) (σ : zz_St) (Qp : Int32 → zz_St → Prop) (B14 : Int32 → Int32 → zz_St → Prop) : Prop :=
((¬ s1 = s0) →
  zq8_boardFault_117 (v1 + (1 : Int32)) v2 σ Qp B14) ∧ (s1 = s0 →
  Qp v2 σ)
def zq8_boardFault_14 (v1 : Int32) (v2 : Int32) (σ : zz_St) (Qp : Int32 → zz_St → Prop) : Prop :=
 ∃ (I14 : Int32 → Int32 → zz_St → Prop) (M14 : Int32 → Int32 → zz_St → Nat), I14 v1 v2 σ ∧ ∀ (v1 : Int32) (v2 : Int32) (σ : zz_St), I14 v1 v2 σ →
((((σ).1 15) ≤ v2) →
  ((((σ).1 16) = 0) →
    Qp ((σ).1 15) σ) ∧ (¬ (((σ).1 16) = 0) →
    ((v1 ≤ 0) →
      Qp (-1 : Int32) σ) ∧ (¬ (v1 ≤ 0) →
      Qp ((σ).1 15) σ))) ∧ (¬ (((σ).1 15) ≤ v2) →
  vp_in v2 72 ∧
  ∀ x24 : Int32, x24 = (σ).2.1 14 v2.toNatClampNeg →
  ((¬ x24 = (59 : Int32)) →
    zq8_signOf x24 (fun r26 =>
      ((r26 < 0) →
        Qp v2 σ) ∧ (¬ (r26 < 0) →
        ((((σ).1 16) = (6 : Int32)) →
          Qp v2 σ) ∧ (¬ (((σ).1 16) = (6 : Int32)) →
          ((¬ ((σ).1 16) = 0) →
            zq8_boardFault_109 v1 v2 ((σ).1 17) v1 σ Qp (fun v1' v2' σ' => I14 v1' v2' σ' ∧ M14 v1' v2' σ' < M14 v1 v2 σ)) ∧ (((σ).1 16) = 0 →
            zq8_boardFault_109 v1 v2 (6 : Int32) v1 σ Qp (fun v1' v2' σ' => I14 v1' v2' σ' ∧ M14 v1' v2' σ' < M14 v1 v2 σ)))))) ∧ (x24 = (59 : Int32) →
    ((v1 = 0) →
      Qp v2 σ) ∧ (¬ (v1 = 0) →
      ((((σ).1 16) ≤ 0) →
        zq8_boardFault_56 v1 v2 σ Qp (fun v1' v2' σ' => I14 v1' v2' σ' ∧ M14 v1' v2' σ' < M14 v1 v2 σ)) ∧ (¬ (((σ).1 16) ≤ 0) →
        ((v1 = ((σ).1 17)) →
          zq8_boardFault_56 v1 v2 σ Qp (fun v1' v2' σ' => I14 v1' v2' σ' ∧ M14 v1' v2' σ' < M14 v1 v2 σ)) ∧ (¬ (v1 = ((σ).1 17)) →
          Qp v2 σ)))))
def zq8_boardFault  (σ : zz_St) (Qp : Int32 → zz_St → Prop) : Prop :=
∀ g33 : zz_St, g33 = zz_I σ 16 (0 : Int32) →
∀ g34 : zz_St, g34 = zz_I g33 17 (0 : Int32) →
zq8_boardFault_14 (0 : Int32) (0 : Int32) g34 Qp
def zq8_placesAt_7 (v2 : Int32) (σ : zz_St) (Qp : zz_St → Prop) : Prop :=
 ∃ (I7 : Int32 → zz_St → Prop) (M7 : Int32 → zz_St → Nat), I7 v2 σ ∧ ∀ (v2 : Int32) (σ : zz_St), I7 v2 σ →
(((6 : Int32) ≤ v2) →
  Qp σ) ∧ (¬ ((6 : Int32) ≤ v2) →
  vp_in v2 6 ∧
  ∀ g5 : zz_St, g5 = zz_A σ 10 (upd ((σ).2.1 10) v2.toNatClampNeg v2) →
  I7 (v2 + (1 : Int32)) g5 ∧ M7 (v2 + (1 : Int32)) g5 < M7 v2 σ)
def zq8_placesAt (v1 : Int32) (σ : zz_St) (Qp : zz_St → Prop) : Prop :=
∀ g6 : zz_St, g6 = zz_I σ 8 v1 →
zq8_placesAt_7 (0 : Int32) g6 Qp
def zq8_board_80 (v2 : Int32) (v3 : Int32) (σ : zz_St) (Qp : Int32 → zz_St → Prop) (B40 : Int32 → Int32 → zz_St → Prop) : Prop :=
B40 v2 (v3 + (1 : Int32)) σ
def zq8_board_88 (v3 : Int32) (σ : zz_St) (Qp : Int32 → zz_St → Prop) : Prop :=
 ∃ (I88 : Int32 → zz_St → Prop) (M88 : Int32 → zz_St → Nat), I88 v3 σ ∧ ∀ (v3 : Int32) (σ : zz_St), I88 v3 σ →
(((36 : Int32) ≤ v3) →
  ∀ g21 : zz_St, g21 = zz_I σ 15 (0 : Int32) →
  ∀ g22 : zz_St, g22 = zz_I g21 19 (0 : Int32) →
  zq8_placesAt (0 : Int32) g22 (fun g23 =>
    zq8_mayLie  g23 (fun r24 g25 =>
      (r24 = 0 ∨ r24 = 1) ∧
      ∀ g26 : zz_St, g26 = zz_I g25 9 r24 →
      zq8_tileMany  g26 (fun r27 =>
        Qp r27 g26)))) ∧ (¬ ((36 : Int32) ≤ v3) →
  vp_in v3 36 ∧
  ∀ g28 : zz_St, g28 = zz_A σ 5 (upd ((σ).2.1 5) v3.toNatClampNeg (-1 : Int32)) →
  I88 (v3 + (1 : Int32)) g28 ∧ M88 (v3 + (1 : Int32)) g28 < M88 v3 σ)
def zq8_board_40 (v2 : Int32) (v3 : Int32) (σ : zz_St) (Qp : Int32 → zz_St → Prop) : Prop :=
 ∃ (I40 : Int32 → Int32 → zz_St → Prop) (M40 : Int32 → Int32 → zz_St → Nat), I40 v2 v3 σ ∧ ∀ (v2 : Int32) (v3 : Int32) (σ : zz_St), I40 v2 v3 σ →
((((σ).1 15) ≤ v3) →
  zq8_board_88 (0 : Int32) σ Qp) ∧ (¬ (((σ).1 15) ≤ v3) →
  vp_in v3 72 ∧
  ((¬ ((σ).2.1 14 v3.toNatClampNeg) = (59 : Int32)) →
    vp_in v3 72 ∧
    zq8_signOf ((σ).2.1 14 v3.toNatClampNeg) (fun r31 =>
      vp_in v2 36 ∧
      ∀ g32 : zz_St, g32 = zz_A σ 4 (upd ((σ).2.1 4) v2.toNatClampNeg r31) →
      zq8_board_80 (v2 + (1 : Int32)) v3 g32 Qp (fun v2' v3' σ' => I40 v2' v3' σ' ∧ M40 v2' v3' σ' < M40 v2 v3 σ))) ∧ (((σ).2.1 14 v3.toNatClampNeg) = (59 : Int32) →
    zq8_board_80 v2 v3 σ Qp (fun v2' v3' σ' => I40 v2' v3' σ' ∧ M40 v2' v3' σ' < M40 v2 v3 σ)))
def zq8_board  (σ : zz_St) (Qp : Int32 → zz_St → Prop) : Prop :=
zq8_boardFault  σ (fun r33 g34 =>
  ((r33 < 0) →
    ∀ g36 : zz_St, g36 = zz_I g34 2 (g34.1 16) →
    ∀ g37 : zz_St, g37 = zz_I g36 3 (g36.1 17) →
    zq8_board_40 (0 : Int32) (0 : Int32) g37 Qp) ∧ (¬ (r33 < 0) →
    ∀ g38 : zz_St, g38 = zz_I g34 15 (0 : Int32) →
    Qp ((-1000 : Int32) - r33) g38))
def zq8_isUnder_22 (v1 : Int32) (s0 : Int32) (σ : zz_St) (Qp : Int32 → zz_St → Prop) : Prop :=
((¬ s0 = 0) →
  Qp (1 : Int32) σ) ∧ (s0 = 0 →
  ((¬ ((σ).1 12) = (2 : Int32)) →
    Qp (0 : Int32) σ) ∧ (((σ).1 12) = (2 : Int32) →
    vp_in (1 : Int32) 2 ∧
    ((¬ ((σ).2.1 11 (1 : Int32).toNatClampNeg) = v1) →
      Qp (0 : Int32) σ) ∧ (((σ).2.1 11 (1 : Int32).toNatClampNeg) = v1 →
      Qp (1 : Int32) σ)))
def zq8_isUnder_21 (v1 : Int32) (σ : zz_St) (Qp : Int32 → zz_St → Prop) : Prop :=
zq8_isUnder_22 v1 (0 : Int32) σ Qp
def zq8_isUnder (v1 : Int32) (σ : zz_St) (Qp : Int32 → zz_St → Prop) : Prop :=
zq8_tellsUnder  σ (fun r11 g12 =>
  ((r11 = 0) →
    zq8_isUnder_21 v1 g12 Qp) ∧ (¬ (r11 = 0) →
    vp_in (0 : Int32) 2 ∧
    ((¬ (g12.2.1 11 (0 : Int32).toNatClampNeg) = v1) →
      zq8_isUnder_21 v1 g12 Qp) ∧ ((g12.2.1 11 (0 : Int32).toNatClampNeg) = v1 →
      zq8_isUnder_22 v1 (1 : Int32) g12 Qp)))
def zq8_tile_95 (v1 : Int32) (v3 : Int32) (σ : zz_St) (Qp : Int32 → zz_St → Prop) : Prop :=
vp_in v1 36 ∧
∀ g24 : zz_St, g24 = zz_A σ 4 (upd ((σ).2.1 4) v1.toNatClampNeg v3) →
zq8_no (-3 : Int32) g24 (fun r25 g26 =>
  Qp r25 g26)
def zq8_tile (v1 : Int32) (v2 : Int32) (σ : zz_St) (Qp : Int32 → zz_St → Prop) : Prop :=
zq8_isTile v1 σ (fun r27 =>
  ((¬ r27 = 0) →
    zq8_in (v2.toInt64) (0 : Int64) (2 : Int64) (fun r29 =>
      ((¬ r29 = 0) →
        vp_in v1 36 ∧
        ∀ x31 : Int32, x31 = (σ).2.1 4 v1.toNatClampNeg →
        vp_in v1 36 ∧
        ∀ g32 : zz_St, g32 = zz_A σ 4 (upd ((σ).2.1 4) v1.toNatClampNeg v2) →
        (((g32.1 9) = 0) →
          Qp x31 g32) ∧ (¬ ((g32.1 9) = 0) →
          zq8_isUnder v1 g32 (fun r34 g35 =>
            ((r34 = 0) →
              Qp x31 g35) ∧ (¬ (r34 = 0) →
              ((v2 = (1 : Int32)) →
                zq8_tile_95 v1 x31 g35 Qp) ∧ (¬ (v2 = (1 : Int32)) →
                ((¬ v2 = (2 : Int32)) →
                  Qp x31 g35) ∧ (v2 = (2 : Int32) →
                  (((g35.1 7) = (1 : Int32)) →
                    zq8_tile_95 v1 x31 g35 Qp) ∧ (¬ ((g35.1 7) = (1 : Int32)) →
                    ((¬ (g35.1 7) = (3 : Int32)) →
                      Qp x31 g35) ∧ ((g35.1 7) = (3 : Int32) →
                      zq8_lying  g35 (fun r41 =>
                        ((r41 = 0) →
                          Qp x31 g35) ∧ (¬ (r41 = 0) →
                          zq8_tile_95 v1 x31 g35 Qp)))))))))) ∧ (r29 = 0 →
        zq8_no (-2 : Int32) σ (fun r43 g44 =>
          Qp r43 g44)))) ∧ (r27 = 0 →
    zq8_no (-1 : Int32) σ (fun r45 g46 =>
      Qp r45 g46)))
def zq8_of (v1 : Int32) (v2 : Int32) (σ : zz_St) (Qp : Int32 → zz_St → Prop) : Prop :=
zq8_isTile v1 σ (fun r11 =>
  ((¬ r11 = 0) →
    zq8_in (v2.toInt64) (0 : Int64) (1 : Int64) (fun r13 =>
      ((¬ r13 = 0) →
        ((¬ v2 = 0) →
          vp_in v1 36 ∧
          ((0 ≤ ((σ).2.1 5 v1.toNatClampNeg)) →
            vp_in v1 36 ∧
            Qp ((σ).2.1 5 v1.toNatClampNeg) σ) ∧ (¬ (0 ≤ ((σ).2.1 5 v1.toNatClampNeg)) →
            Qp (-9 : Int32) σ)) ∧ (v2 = 0 →
          vp_in v1 36 ∧
          Qp ((σ).2.1 4 v1.toNatClampNeg) σ)) ∧ (r13 = 0 →
        zq8_no (-2 : Int32) σ (fun r17 g18 =>
          Qp r17 g18)))) ∧ (r11 = 0 →
    zq8_no (-1 : Int32) σ (fun r19 g20 =>
      Qp r19 g20)))
def zq8_places_132 (v7 : Int32) (v8 : Int32) (σ : zz_St) (Qp : Int32 → zz_St → Prop) : Prop :=
 ∃ (I132 : Int32 → zz_St → Prop) (M132 : Int32 → zz_St → Nat), I132 v8 σ ∧ ∀ (v8 : Int32) (σ : zz_St), I132 v8 σ →
(((6 : Int32) ≤ v8) →
  zq8_no v7 σ (fun r27 g28 =>
    Qp r27 g28)) ∧ (¬ ((6 : Int32) ≤ v8) →
  vp_in v8 6 ∧
  vp_in v8 6 ∧
  ∀ g29 : zz_St, g29 = zz_A σ 10 (upd ((σ).2.1 10) v8.toNatClampNeg ((σ).2.1 13 v8.toNatClampNeg)) →
  I132 (v8 + (1 : Int32)) g29 ∧ M132 (v8 + (1 : Int32)) g29 < M132 v8 σ)
def zq8_places_113 (v3 : Int32) (v4 : Int32) (v7 : Int32) (σ : zz_St) (Qp : Int32 → zz_St → Prop) : Prop :=
((v7 = 0) →
  ∀ g31 : zz_St, g31 = zz_I σ 9 (1 : Int32) →
  ∀ g32 : zz_St, g32 = zz_I g31 19 (0 : Int32) →
  Qp (1 : Int32) g32) ∧ (¬ (v7 = 0) →
  ∀ g33 : zz_St, g33 = zz_I σ 7 v3 →
  ∀ g34 : zz_St, g34 = zz_I g33 8 v4 →
  zq8_places_132 v7 (0 : Int32) g34 Qp)
def zq8_places_111 (v3 : Int32) (v4 : Int32) (s0 : Int32) (σ : zz_St) (Qp : Int32 → zz_St → Prop) : Prop :=
zq8_places_113 v3 v4 s0 σ Qp
def zq8_places_86 (v2 : Int32) (v3 : Int32) (v4 : Int32) (v6 : Int32) (s0 : Int32) (σ : zz_St) (Qp : Int32 → zz_St → Prop) : Prop :=
((v6 = 0) →
  zq8_places_113 v3 v4 s0 σ Qp) ∧ (¬ (v6 = 0) →
  zq8_placesAt v2 σ (fun g36 =>
    zq8_mayLie  g36 (fun r37 g38 =>
      ((r37 = 0) →
        zq8_places_111 v3 v4 (-3 : Int32) g38 Qp) ∧ (¬ (r37 = 0) →
        zq8_places_111 v3 v4 (0 : Int32) g38 Qp))))
def zq8_places_39 (v1 : Int32) (v2 : Int32) (v3 : Int32) (v4 : Int32) (v6 : Int32) (σ : zz_St) (Qp : Int32 → zz_St → Prop) : Prop :=
 ∃ (I39 : Int32 → zz_St → Prop) (M39 : Int32 → zz_St → Nat), I39 v6 σ ∧ ∀ (v6 : Int32) (σ : zz_St), I39 v6 σ →
(((6 : Int32) ≤ v6) →
  ∀ g41 : zz_St, g41 = zz_I σ 7 v1 →
  zq8_isPlace v2 g41 (fun r42 =>
    ((r42 = 0) →
      zq8_places_86 v2 v3 v4 r42 (-1 : Int32) g41 Qp) ∧ (¬ (r42 = 0) →
      zq8_places_86 v2 v3 v4 r42 (0 : Int32) g41 Qp))) ∧ (¬ ((6 : Int32) ≤ v6) →
  vp_in v6 6 ∧
  vp_in v6 6 ∧
  ∀ g44 : zz_St, g44 = zz_A σ 13 (upd ((σ).2.1 13) v6.toNatClampNeg ((σ).2.1 10 v6.toNatClampNeg)) →
  I39 (v6 + (1 : Int32)) g44 ∧ M39 (v6 + (1 : Int32)) g44 < M39 v6 σ)
def zq8_places (v1 : Int32) (v2 : Int32) (σ : zz_St) (Qp : Int32 → zz_St → Prop) : Prop :=
zq8_in (v1.toInt64) (0 : Int64) (5 : Int64) (fun r45 =>
  ((¬ r45 = 0) →
    ∀ x47 : Int32, x47 = (σ).1 7 →
    ∀ x48 : Int32, x48 = (σ).1 8 →
    zq8_places_39 v1 v2 x47 x48 (0 : Int32) σ Qp) ∧ (r45 = 0 →
    zq8_no (-2 : Int32) σ (fun r49 g50 =>
      Qp r49 g50)))
def zq8_ink (v1 : Int32) (σ : zz_St) (Qp : Int32 → zz_St → Prop) : Prop :=
zq8_in (v1.toInt64) (0 : Int64) (1 : Int64) (fun r7 =>
  ((¬ r7 = 0) →
    ∀ x9 : Int32, x9 = (σ).1 6 →
    ∀ g10 : zz_St, g10 = zz_I σ 6 v1 →
    Qp x9 g10) ∧ (r7 = 0 →
    zq8_no (-2 : Int32) σ (fun r11 g12 =>
      Qp r11 g12)))
def zq8_printed_27 (v2 : Int32) (s0 : Int32) (s1 : Int32) (σ : zz_St) (Qp : Int32 → Prop) (B4 : Int32 → Int32 → Prop) : Prop :=
∀ x5 : Int32, x5 = s1 + s0 →
B4 x5 (v2 + (1 : Int32))
def zq8_printed_4 (v1 : Int32) (v2 : Int32) (σ : zz_St) (Qp : Int32 → Prop) : Prop :=
 ∃ (I4 : Int32 → Int32 → Prop) (M4 : Int32 → Int32 → Nat), I4 v1 v2 ∧ ∀ (v1 : Int32) (v2 : Int32), I4 v1 v2 →
zq8_tileMany  σ (fun r6 =>
  ((r6 ≤ v2) →
    Qp v1 ) ∧ (¬ (r6 ≤ v2) →
    vp_in v2 36 ∧
    ((((σ).2.1 5 v2.toNatClampNeg) < 0) →
      zq8_printed_27 v2 (0 : Int32) v1 σ Qp (fun v1' v2' => I4 v1' v2' ∧ M4 v1' v2' < M4 v1 v2)) ∧ (¬ (((σ).2.1 5 v2.toNatClampNeg) < 0) →
      zq8_printed_27 v2 (1 : Int32) v1 σ Qp (fun v1' v2' => I4 v1' v2' ∧ M4 v1' v2' < M4 v1 v2))))
def zq8_printed  (σ : zz_St) (Qp : Int32 → Prop) : Prop :=
zq8_printed_4 (0 : Int32) (0 : Int32) σ Qp
def zq8_wipes_7 (v1 : Int32) (v2 : Int32) (σ : zz_St) (Qp : Int32 → zz_St → Prop) : Prop :=
 ∃ (I7 : Int32 → zz_St → Prop) (M7 : Int32 → zz_St → Nat), I7 v2 σ ∧ ∀ (v2 : Int32) (σ : zz_St), I7 v2 σ →
(((36 : Int32) ≤ v2) →
  Qp v1 σ) ∧ (¬ ((36 : Int32) ≤ v2) →
  vp_in v2 36 ∧
  ∀ g5 : zz_St, g5 = zz_A σ 5 (upd ((σ).2.1 5) v2.toNatClampNeg (-1 : Int32)) →
  I7 (v2 + (1 : Int32)) g5 ∧ M7 (v2 + (1 : Int32)) g5 < M7 v2 σ)
def zq8_wipes  (σ : zz_St) (Qp : Int32 → zz_St → Prop) : Prop :=
zq8_printed  σ (fun r6 =>
  zq8_wipes_7 r6 (0 : Int32) σ Qp)
def zq8_whereFace_2 (v1 : Int32) (v2 : Int32) (σ : zz_St) (Qp : Int32 → Prop) : Prop :=
 ∃ (I2 : Int32 → Prop) (M2 : Int32 → Nat), I2 v2 ∧ ∀ (v2 : Int32), I2 v2 →
vp_in v2 6 ∧
((((σ).2.1 10 v2.toNatClampNeg) = v1) →
  Qp v2 ) ∧ (¬ (((σ).2.1 10 v2.toNatClampNeg) = v1) →
  I2 (v2 + (1 : Int32)) ∧ M2 (v2 + (1 : Int32)) < M2 v2)
def zq8_whereFace (v1 : Int32) (σ : zz_St) (Qp : Int32 → Prop) : Prop :=
zq8_whereFace_2 v1 (0 : Int32) σ Qp
def zq8_solid_46 (v1 : Int32) (σ : zz_St) (Qp : Int32 → zz_St → Prop) : Prop :=
((¬ ((σ).1 9) = 0) →
  zq8_tellsUnder  σ (fun r24 g25 =>
    (v1 = (0 : Int32) →
      Qp (g25.1 7) g25) ∧ (¬ v1 = (0 : Int32) →
    (v1 = (1 : Int32) →
      Qp (g25.1 8) g25) ∧ (¬ v1 = (1 : Int32) →
    (v1 = (2 : Int32) →
      zq8_below  g25 (fun r26 =>
        Qp r26 g25)) ∧ (¬ v1 = (2 : Int32) →
    (v1 = (3 : Int32) →
      Qp (g25.1 12) g25) ∧ (¬ v1 = (3 : Int32) →
    (v1 = (4 : Int32) →
      zq8_isBlock  g25 (fun r27 =>
        ((r27 = 0) →
          Qp (0 : Int32) g25) ∧ (¬ (r27 = 0) →
          zq8_lying  g25 (fun r29 =>
            ((¬ r29 = 0) →
              Qp (0 : Int32) g25) ∧ (r29 = 0 →
              Qp (1 : Int32) g25))))) ∧ (¬ v1 = (4 : Int32) →
    (v1 = (5 : Int32) →
      zq8_isTetra  g25 (fun r31 =>
        ((r31 = 0) →
          Qp (0 : Int32) g25) ∧ (¬ (r31 = 0) →
          (¬ ((2 : Int32) * (g25.1 3)) = 0) ∧
          (¬ ((2 : Int32) * (g25.1 3)) = 0) ∧
          ((¬ ((((g25.1 8) / ((2 : Int32) * (g25.1 3))) + ((g25.1 8) - (g25.1 8) / ((2 : Int32) * (g25.1 3)) * ((2 : Int32) * (g25.1 3)))) - (((g25.1 8) / ((2 : Int32) * (g25.1 3))) + ((g25.1 8) - (g25.1 8) / ((2 : Int32) * (g25.1 3)) * ((2 : Int32) * (g25.1 3)))) / (2 : Int32) * (2 : Int32)) = 0) →
            Qp (0 : Int32) g25) ∧ (((((g25.1 8) / ((2 : Int32) * (g25.1 3))) + ((g25.1 8) - (g25.1 8) / ((2 : Int32) * (g25.1 3)) * ((2 : Int32) * (g25.1 3)))) - (((g25.1 8) / ((2 : Int32) * (g25.1 3))) + ((g25.1 8) - (g25.1 8) / ((2 : Int32) * (g25.1 3)) * ((2 : Int32) * (g25.1 3)))) / (2 : Int32) * (2 : Int32)) = 0 →
            Qp (1 : Int32) g25)))) ∧ (¬ v1 = (5 : Int32) →
      zq8_whereFace (v1 - (10 : Int32)) g25 (fun r34 =>
        Qp r34 g25))))))))) ∧ (((σ).1 9) = 0 →
  zq8_no (-3 : Int32) σ (fun r41 g42 =>
    Qp r41 g42))
def zq8_solid_33 (v1 : Int32) (s0 : Int64) (s1 : Int64) (s2 : Int64) (σ : zz_St) (Qp : Int32 → zz_St → Prop) : Prop :=
zq8_in s2 s1 s0 (fun r43 =>
  ((¬ r43 = 0) →
    zq8_solid_46 v1 σ Qp) ∧ (r43 = 0 →
    zq8_no (-2 : Int32) σ (fun r45 g46 =>
      Qp r45 g46)))
def zq8_solid (v1 : Int32) (σ : zz_St) (Qp : Int32 → zz_St → Prop) : Prop :=
zq8_in (v1.toInt64) (0 : Int64) (5 : Int64) (fun r47 =>
  ((¬ r47 = 0) →
    zq8_solid_46 v1 σ Qp) ∧ (r47 = 0 →
    zq8_isTetra  σ (fun r49 =>
      ((r49 = 0) →
        zq8_solid_33 v1 (15 : Int64) (10 : Int64) (v1.toInt64) σ Qp) ∧ (¬ (r49 = 0) →
        zq8_solid_33 v1 (13 : Int64) (10 : Int64) (v1.toInt64) σ Qp))))
def zq8_keeps_100 (v1 : Int32) (v2 : Int32) (σ : zz_St) (Qp : zz_St → Prop) : Prop :=
 ∃ (I100 : Int32 → zz_St → Prop) (M100 : Int32 → zz_St → Nat), I100 v2 σ ∧ ∀ (v2 : Int32) (σ : zz_St), I100 v2 σ →
(((36 : Int32) ≤ v2) →
  ∀ g13 : zz_St, g13 = zz_I σ 19 (((σ).1 19) + (1 : Int32)) →
  Qp g13) ∧ (¬ ((36 : Int32) ≤ v2) →
  vp_in v2 36 ∧
  vp_in ((v1 + (7 : Int32)) + v2) 1280 ∧
  ∀ g14 : zz_St, g14 = zz_A σ 18 (upd ((σ).2.1 18) ((v1 + (7 : Int32)) + v2).toNatClampNeg ((σ).2.1 5 v2.toNatClampNeg)) →
  I100 (v2 + (1 : Int32)) g14 ∧ M100 (v2 + (1 : Int32)) g14 < M100 v2 σ)
def zq8_keeps_70 (v1 : Int32) (v2 : Int32) (σ : zz_St) (Qp : zz_St → Prop) : Prop :=
 ∃ (I70 : Int32 → zz_St → Prop) (M70 : Int32 → zz_St → Nat), I70 v2 σ ∧ ∀ (v2 : Int32) (σ : zz_St), I70 v2 σ →
(((6 : Int32) ≤ v2) →
  zq8_keeps_100 v1 (0 : Int32) σ Qp) ∧ (¬ ((6 : Int32) ≤ v2) →
  vp_in v2 6 ∧
  vp_in ((v1 + (1 : Int32)) + v2) 1280 ∧
  ∀ g16 : zz_St, g16 = zz_A σ 18 (upd ((σ).2.1 18) ((v1 + (1 : Int32)) + v2).toNatClampNeg ((σ).2.1 10 v2.toNatClampNeg)) →
  I70 (v2 + (1 : Int32)) g16 ∧ M70 (v2 + (1 : Int32)) g16 < M70 v2 σ)
def zq8_keeps_50  (σ : zz_St) (Qp : zz_St → Prop) : Prop :=
∀ x17 : Int32, x17 = (64 : Int32) * ((σ).1 19) →
vp_in x17 1280 ∧
∀ g18 : zz_St, g18 = zz_A σ 18 (upd ((σ).2.1 18) x17.toNatClampNeg ((σ).1 8)) →
zq8_keeps_70 x17 (0 : Int32) g18 Qp
def zq8_keeps_12 (v1 : Int32) (σ : zz_St) (Qp : zz_St → Prop) : Prop :=
 ∃ (I12 : Int32 → zz_St → Prop) (M12 : Int32 → zz_St → Nat), I12 v1 σ ∧ ∀ (v1 : Int32) (σ : zz_St), I12 v1 σ →
(((1280 : Int32) ≤ v1) →
  ∀ g20 : zz_St, g20 = zz_I σ 19 (((σ).1 19) - (1 : Int32)) →
  zq8_keeps_50 g20 Qp) ∧ (¬ ((1280 : Int32) ≤ v1) →
  vp_in v1 1280 ∧
  vp_in (v1 - (64 : Int32)) 1280 ∧
  ∀ g21 : zz_St, g21 = zz_A σ 18 (upd ((σ).2.1 18) (v1 - (64 : Int32)).toNatClampNeg ((σ).2.1 18 v1.toNatClampNeg)) →
  I12 (v1 + (1 : Int32)) g21 ∧ M12 (v1 + (1 : Int32)) g21 < M12 v1 σ)
def zq8_keeps  (σ : zz_St) (Qp : zz_St → Prop) : Prop :=
((¬ ((σ).1 19) = (20 : Int32)) →
  zq8_keeps_50 σ Qp) ∧ (((σ).1 19) = (20 : Int32) →
  zq8_keeps_12 (64 : Int32) σ Qp)
def zq8_keeps1_10 (v1 : Int32) (σ : zz_St) (Qp : zz_St → Prop) : Prop :=
 ∃ (I10 : Int32 → zz_St → Prop) (M10 : Int32 → zz_St → Nat), I10 v1 σ ∧ ∀ (v1 : Int32) (σ : zz_St), I10 v1 σ →
(((6 : Int32) ≤ v1) →
  Qp σ) ∧ (¬ ((6 : Int32) ≤ v1) →
  vp_in v1 6 ∧
  vp_in v1 6 ∧
  ∀ g5 : zz_St, g5 = zz_A σ 21 (upd ((σ).2.1 21) v1.toNatClampNeg ((σ).2.1 10 v1.toNatClampNeg)) →
  I10 (v1 + (1 : Int32)) g5 ∧ M10 (v1 + (1 : Int32)) g5 < M10 v1 σ)
def zq8_keeps1  (σ : zz_St) (Qp : zz_St → Prop) : Prop :=
∀ g6 : zz_St, g6 = zz_I σ 20 ((σ).1 8) →
zq8_keeps1_10 (0 : Int32) g6 Qp
def zq8_rollsTruly_122 (v4 : Int32) (σ : zz_St) (Qp : Int32 → zz_St → Prop) : Prop :=
 ∃ (I122 : Int32 → zz_St → Prop) (M122 : Int32 → zz_St → Nat), I122 v4 σ ∧ ∀ (v4 : Int32) (σ : zz_St), I122 v4 σ →
((((σ).1 12) ≤ v4) →
  Qp (1 : Int32) σ) ∧ (¬ (((σ).1 12) ≤ v4) →
  ((¬ ((σ).1 6) = (1 : Int32)) →
    Qp (1 : Int32) σ) ∧ (((σ).1 6) = (1 : Int32) →
    vp_in v4 2 ∧
    zq8_below  σ (fun r23 =>
      vp_in ((σ).2.1 11 v4.toNatClampNeg) 36 ∧
      ∀ g24 : zz_St, g24 = zz_A σ 5 (upd ((σ).2.1 5) ((σ).2.1 11 v4.toNatClampNeg).toNatClampNeg r23) →
      I122 (v4 + (1 : Int32)) g24 ∧ M122 (v4 + (1 : Int32)) g24 < M122 v4 σ)))
def zq8_rollsTruly_90 (v3 : Int32) (σ : zz_St) (Qp : Int32 → zz_St → Prop) : Prop :=
 ∃ (I90 : Int32 → zz_St → Prop) (M90 : Int32 → zz_St → Nat), I90 v3 σ ∧ ∀ (v3 : Int32) (σ : zz_St), I90 v3 σ →
(((6 : Int32) ≤ v3) →
  zq8_tellsUnder  σ (fun r26 g27 =>
    zq8_rollsTruly_122 (0 : Int32) g27 Qp)) ∧ (¬ ((6 : Int32) ≤ v3) →
  vp_in v3 6 ∧
  vp_in v3 6 ∧
  ∀ g28 : zz_St, g28 = zz_A σ 10 (upd ((σ).2.1 10) v3.toNatClampNeg ((σ).2.1 13 v3.toNatClampNeg)) →
  I90 (v3 + (1 : Int32)) g28 ∧ M90 (v3 + (1 : Int32)) g28 < M90 v3 σ)
def zq8_rollsTruly_55 (v2 : Int32) (v3 : Int32) (σ : zz_St) (Qp : Int32 → zz_St → Prop) : Prop :=
 ∃ (I55 : Int32 → zz_St → Prop) (M55 : Int32 → zz_St → Nat), I55 v3 σ ∧ ∀ (v3 : Int32) (σ : zz_St), I55 v3 σ →
(((6 : Int32) ≤ v3) →
  zq8_keeps  σ (fun g30 =>
    ∀ g31 : zz_St, g31 = zz_I g30 8 v2 →
    zq8_rollsTruly_90 (0 : Int32) g31 Qp)) ∧ (¬ ((6 : Int32) ≤ v3) →
  vp_in v3 6 ∧
  vp_in v3 6 ∧
  ∀ g32 : zz_St, g32 = zz_A σ 10 (upd ((σ).2.1 10) v3.toNatClampNeg ((σ).2.1 21 v3.toNatClampNeg)) →
  I55 (v3 + (1 : Int32)) g32 ∧ M55 (v3 + (1 : Int32)) g32 < M55 v3 σ)
def zq8_rollsTruly_21 (v2 : Int32) (v3 : Int32) (σ : zz_St) (Qp : Int32 → zz_St → Prop) : Prop :=
 ∃ (I21 : Int32 → zz_St → Prop) (M21 : Int32 → zz_St → Nat), I21 v3 σ ∧ ∀ (v3 : Int32) (σ : zz_St), I21 v3 σ →
(((6 : Int32) ≤ v3) →
  ∀ g34 : zz_St, g34 = zz_I σ 8 ((σ).1 20) →
  zq8_rollsTruly_55 v2 (0 : Int32) g34 Qp) ∧ (¬ ((6 : Int32) ≤ v3) →
  vp_in v3 6 ∧
  vp_in v3 6 ∧
  ∀ g35 : zz_St, g35 = zz_A σ 13 (upd ((σ).2.1 13) v3.toNatClampNeg ((σ).2.1 10 v3.toNatClampNeg)) →
  I21 (v3 + (1 : Int32)) g35 ∧ M21 (v3 + (1 : Int32)) g35 < M21 v3 σ)
def zq8_rollsTruly (v1 : Int32) (σ : zz_St) (Qp : Int32 → zz_St → Prop) : Prop :=
zq8_keeps1  σ (fun g36 =>
  zq8_rolls v1 g36 (fun r37 g38 =>
    ((¬ r37 = 0) →
      ∀ x40 : Int32, x40 = g38.1 8 →
      zq8_rollsTruly_21 x40 (0 : Int32) g38 Qp) ∧ (r37 = 0 →
      Qp (0 : Int32) g38)))
def zq8_lays1_10 (v1 : Int32) (σ : zz_St) (Qp : zz_St → Prop) : Prop :=
 ∃ (I10 : Int32 → zz_St → Prop) (M10 : Int32 → zz_St → Nat), I10 v1 σ ∧ ∀ (v1 : Int32) (σ : zz_St), I10 v1 σ →
(((6 : Int32) ≤ v1) →
  Qp σ) ∧ (¬ ((6 : Int32) ≤ v1) →
  vp_in v1 6 ∧
  vp_in v1 6 ∧
  ∀ g5 : zz_St, g5 = zz_A σ 10 (upd ((σ).2.1 10) v1.toNatClampNeg ((σ).2.1 21 v1.toNatClampNeg)) →
  I10 (v1 + (1 : Int32)) g5 ∧ M10 (v1 + (1 : Int32)) g5 < M10 v1 σ)
def zq8_lays1  (σ : zz_St) (Qp : zz_St → Prop) : Prop :=
∀ g6 : zz_St, g6 = zz_I σ 8 ((σ).1 20) →
zq8_lays1_10 (0 : Int32) g6 Qp
def zq8_roll_34  (σ : zz_St) (Qp : Int32 → zz_St → Prop) : Prop :=
zq8_no (-3 : Int32) σ (fun r12 g13 =>
  Qp r12 g13)
def zq8_roll (v1 : Int32) (σ : zz_St) (Qp : Int32 → zz_St → Prop) : Prop :=
zq8_in (v1.toInt64) (0 : Int64) (3 : Int64) (fun r14 =>
  ((¬ r14 = 0) →
    ((((σ).1 9) = 0) →
      zq8_roll_34 σ Qp) ∧ (¬ (((σ).1 9) = 0) →
      zq8_rollsTruly v1 σ (fun r17 g18 =>
        ((¬ r17 = 0) →
          zq8_below  g18 (fun r20 =>
            Qp r20 g18)) ∧ (r17 = 0 →
          zq8_roll_34 g18 Qp)))) ∧ (r14 = 0 →
    zq8_no (-2 : Int32) σ (fun r21 g22 =>
      Qp r21 g22)))
def zq8_ways_45 (v1 : Int32) (v2 : Int32) (σ : zz_St) (Qp : Int32 → zz_St → Prop) (B22 : Int32 → Int32 → zz_St → Prop) : Prop :=
B22 v1 (v2 + (1 : Int32)) σ
def zq8_ways_22 (v1 : Int32) (v2 : Int32) (σ : zz_St) (Qp : Int32 → zz_St → Prop) : Prop :=
 ∃ (I22 : Int32 → Int32 → zz_St → Prop) (M22 : Int32 → Int32 → zz_St → Nat), I22 v1 v2 σ ∧ ∀ (v1 : Int32) (v2 : Int32) (σ : zz_St), I22 v1 v2 σ →
(((4 : Int32) ≤ v2) →
  Qp v1 σ) ∧ (¬ ((4 : Int32) ≤ v2) →
  zq8_rolls v2 σ (fun r12 g13 =>
    ((r12 = 0) →
      zq8_ways_45 v1 v2 g13 Qp (fun v1' v2' σ' => I22 v1' v2' σ' ∧ M22 v1' v2' σ' < M22 v1 v2 σ)) ∧ (¬ (r12 = 0) →
      ∀ x15 : Int32, x15 = v1 ||| ((1 : Int32) <<< (v2 &&& 31)) →
      zq8_lays1  g13 (fun g16 =>
        zq8_ways_45 x15 v2 g16 Qp (fun v1' v2' σ' => I22 v1' v2' σ' ∧ M22 v1' v2' σ' < M22 v1 v2 σ)))))
def zq8_ways  (σ : zz_St) (Qp : Int32 → zz_St → Prop) : Prop :=
((¬ ((σ).1 9) = 0) →
  zq8_keeps1  σ (fun g18 =>
    zq8_ways_22 (0 : Int32) (0 : Int32) g18 Qp)) ∧ (((σ).1 9) = 0 →
  zq8_no (-3 : Int32) σ (fun r19 g20 =>
    Qp r19 g20))
def zq8_wayOf (v0 : Int32) (Qp : Int32 → Prop) : Prop :=
((¬ v0 = (117 : Int32)) →
  ((¬ v0 = (114 : Int32)) →
    ((¬ v0 = (100 : Int32)) →
      ((¬ v0 = (108 : Int32)) →
        Qp (-1 : Int32) ) ∧ (v0 = (108 : Int32) →
        Qp (3 : Int32) )) ∧ (v0 = (100 : Int32) →
      Qp (2 : Int32) )) ∧ (v0 = (114 : Int32) →
    Qp (1 : Int32) )) ∧ (v0 = (117 : Int32) →
  Qp (0 : Int32) )
def zq8_walks_16 (v1 : Int32) (σ : zz_St) (Qp : Int32 → zz_St → Prop) : Prop :=
 ∃ (I16 : Int32 → zz_St → Prop) (M16 : Int32 → zz_St → Nat), I16 v1 σ ∧ ∀ (v1 : Int32) (σ : zz_St), I16 v1 σ →
((((σ).1 15) ≤ v1) →
  ∀ g15 : zz_St, g15 = zz_I σ 15 (0 : Int32) →
  Qp v1 g15) ∧ (¬ (((σ).1 15) ≤ v1) →
  vp_in v1 72 ∧
  zq8_wayOf ((σ).2.1 14 v1.toNatClampNeg) (fun r16 =>
    ((r16 < 0) →
      ∀ g18 : zz_St, g18 = zz_I σ 15 (0 : Int32) →
      Qp v1 g18) ∧ (¬ (r16 < 0) →
      vp_in v1 72 ∧
      zq8_wayOf ((σ).2.1 14 v1.toNatClampNeg) (fun r19 =>
        zq8_rollsTruly r19 σ (fun r20 g21 =>
          ((r20 = 0) →
            ∀ g23 : zz_St, g23 = zz_I g21 15 (0 : Int32) →
            Qp v1 g23) ∧ (¬ (r20 = 0) →
            I16 (v1 + (1 : Int32)) g21 ∧ M16 (v1 + (1 : Int32)) g21 < M16 v1 σ))))))
def zq8_walks  (σ : zz_St) (Qp : Int32 → zz_St → Prop) : Prop :=
((¬ ((σ).1 9) = 0) →
  zq8_walks_16 (0 : Int32) σ Qp) ∧ (((σ).1 9) = 0 →
  zq8_no (-3 : Int32) σ (fun r25 g26 =>
    Qp r25 g26))
def zq8_judge_67 (v2 : Int32) (σ : zz_St) (Qp : Int32 → zz_St → Prop) : Prop :=
zq8_lays1  σ (fun g15 =>
  (((g15.1 15) ≤ v2) →
    Qp (-9 : Int32) g15) ∧ (¬ ((g15.1 15) ≤ v2) →
    Qp v2 g15))
def zq8_judge_25 (v2 : Int32) (σ : zz_St) (Qp : Int32 → zz_St → Prop) : Prop :=
 ∃ (I25 : Int32 → zz_St → Prop) (M25 : Int32 → zz_St → Nat), I25 v2 σ ∧ ∀ (v2 : Int32) (σ : zz_St), I25 v2 σ →
((((σ).1 15) ≤ v2) →
  zq8_judge_67 v2 σ Qp) ∧ (¬ (((σ).1 15) ≤ v2) →
  vp_in v2 72 ∧
  zq8_wayOf ((σ).2.1 14 v2.toNatClampNeg) (fun r18 =>
    ((r18 < 0) →
      zq8_judge_67 v2 σ Qp) ∧ (¬ (r18 < 0) →
      vp_in v2 72 ∧
      zq8_wayOf ((σ).2.1 14 v2.toNatClampNeg) (fun r20 =>
        zq8_rolls r20 σ (fun r21 g22 =>
          ((r21 = 0) →
            zq8_judge_67 v2 g22 Qp) ∧ (¬ (r21 = 0) →
            I25 (v2 + (1 : Int32)) g22 ∧ M25 (v2 + (1 : Int32)) g22 < M25 v2 σ))))))
def zq8_judge  (σ : zz_St) (Qp : Int32 → zz_St → Prop) : Prop :=
((¬ ((σ).1 9) = 0) →
  zq8_keeps1  σ (fun g25 =>
    ∀ x26 : Int32, x26 = g25.1 8 →
    zq8_judge_25 (0 : Int32) g25 Qp)) ∧ (((σ).1 9) = 0 →
  zq8_no (-3 : Int32) σ (fun r27 g28 =>
    Qp r27 g28))
def zq8_undo_74 (v1 : Int32) (v2 : Int32) (σ : zz_St) (Qp : Int32 → zz_St → Prop) : Prop :=
 ∃ (I74 : Int32 → zz_St → Prop) (M74 : Int32 → zz_St → Nat), I74 v2 σ ∧ ∀ (v2 : Int32) (σ : zz_St), I74 v2 σ →
(((36 : Int32) ≤ v2) →
  Qp ((σ).1 19) σ) ∧ (¬ ((36 : Int32) ≤ v2) →
  vp_in ((v1 + (7 : Int32)) + v2) 1280 ∧
  vp_in v2 36 ∧
  ∀ g12 : zz_St, g12 = zz_A σ 5 (upd ((σ).2.1 5) v2.toNatClampNeg ((σ).2.1 18 ((v1 + (7 : Int32)) + v2).toNatClampNeg)) →
  I74 (v2 + (1 : Int32)) g12 ∧ M74 (v2 + (1 : Int32)) g12 < M74 v2 σ)
def zq8_undo_44 (v1 : Int32) (v2 : Int32) (σ : zz_St) (Qp : Int32 → zz_St → Prop) : Prop :=
 ∃ (I44 : Int32 → zz_St → Prop) (M44 : Int32 → zz_St → Nat), I44 v2 σ ∧ ∀ (v2 : Int32) (σ : zz_St), I44 v2 σ →
(((6 : Int32) ≤ v2) →
  zq8_undo_74 v1 (0 : Int32) σ Qp) ∧ (¬ ((6 : Int32) ≤ v2) →
  vp_in ((v1 + (1 : Int32)) + v2) 1280 ∧
  vp_in v2 6 ∧
  ∀ g14 : zz_St, g14 = zz_A σ 10 (upd ((σ).2.1 10) v2.toNatClampNeg ((σ).2.1 18 ((v1 + (1 : Int32)) + v2).toNatClampNeg)) →
  I44 (v2 + (1 : Int32)) g14 ∧ M44 (v2 + (1 : Int32)) g14 < M44 v2 σ)
def zq8_undo  (σ : zz_St) (Qp : Int32 → zz_St → Prop) : Prop :=
((¬ ((σ).1 19) = 0) →
  ∀ g16 : zz_St, g16 = zz_I σ 19 (((σ).1 19) - (1 : Int32)) →
  ∀ x17 : Int32, x17 = (64 : Int32) * (g16.1 19) →
  vp_in x17 1280 ∧
  ∀ g18 : zz_St, g18 = zz_I g16 8 (g16.2.1 18 x17.toNatClampNeg) →
  zq8_undo_44 x17 (0 : Int32) g18 Qp) ∧ (((σ).1 19) = 0 →
  zq8_no (-3 : Int32) σ (fun r19 g20 =>
    Qp r19 g20))
def zq8_key  (σ : zz_St) (Qp : Int32 → Prop) : Prop :=
zq8_isTetra  σ (fun r3 =>
  ((r3 = 0) →
    vp_in (1 : Int32) 6 ∧
    vp_in (3 : Int32) 6 ∧
    Qp (((64 : Int32) * ((σ).1 8)) + (((6 : Int32) * ((σ).2.1 10 (1 : Int32).toNatClampNeg)) + ((σ).2.1 10 (3 : Int32).toNatClampNeg))) ) ∧ (¬ (r3 = 0) →
    vp_in (0 : Int32) 6 ∧
    vp_in (1 : Int32) 6 ∧
    vp_in (2 : Int32) 6 ∧
    Qp (((64 : Int32) * ((σ).1 8)) + ((((16 : Int32) * ((σ).2.1 10 (0 : Int32).toNatClampNeg)) + ((4 : Int32) * ((σ).2.1 10 (1 : Int32).toNatClampNeg))) + ((σ).2.1 10 (2 : Int32).toNatClampNeg))) ))
def zq8_loads_12 (v1 : Int32) (v2 : Int32) (σ : zz_St) (Qp : zz_St → Prop) : Prop :=
 ∃ (I12 : Int32 → zz_St → Prop) (M12 : Int32 → zz_St → Nat), I12 v2 σ ∧ ∀ (v2 : Int32) (σ : zz_St), I12 v2 σ →
(((6 : Int32) ≤ v2) →
  Qp σ) ∧ (¬ ((6 : Int32) ≤ v2) →
  vp_in (((6 : Int32) * v1) + v2) 5400 ∧
  vp_in v2 6 ∧
  ∀ g5 : zz_St, g5 = zz_A σ 10 (upd ((σ).2.1 10) v2.toNatClampNeg ((σ).2.1 24 (((6 : Int32) * v1) + v2).toNatClampNeg)) →
  I12 (v2 + (1 : Int32)) g5 ∧ M12 (v2 + (1 : Int32)) g5 < M12 v2 σ)
def zq8_loads (v1 : Int32) (σ : zz_St) (Qp : zz_St → Prop) : Prop :=
vp_in v1 900 ∧
∀ g6 : zz_St, g6 = zz_I σ 8 ((σ).2.1 23 v1.toNatClampNeg) →
zq8_loads_12 v1 (0 : Int32) g6 Qp
def zq8_found_39 (v1 : Int32) (v2 : Int32) (v3 : Int32) (σ : zz_St) (Qp : Int32 → zz_St → Prop) : Prop :=
 ∃ (I39 : Int32 → zz_St → Prop) (M39 : Int32 → zz_St → Nat), I39 v3 σ ∧ ∀ (v3 : Int32) (σ : zz_St), I39 v3 σ →
(((6 : Int32) ≤ v3) →
  vp_in ((σ).1 27) 900 ∧
  ∀ g10 : zz_St, g10 = zz_A σ 25 (upd ((σ).2.1 25) ((σ).1 27).toNatClampNeg v1) →
  ∀ g11 : zz_St, g11 = zz_I g10 27 ((g10.1 27) + (1 : Int32)) →
  vp_in v2 4608 ∧
  Qp (g11.2.1 22 v2.toNatClampNeg) g11) ∧ (¬ ((6 : Int32) ≤ v3) →
  vp_in v3 6 ∧
  vp_in (((6 : Int32) * ((σ).1 27)) + v3) 5400 ∧
  ∀ g12 : zz_St, g12 = zz_A σ 24 (upd ((σ).2.1 24) (((6 : Int32) * ((σ).1 27)) + v3).toNatClampNeg ((σ).2.1 10 v3.toNatClampNeg)) →
  I39 (v3 + (1 : Int32)) g12 ∧ M39 (v3 + (1 : Int32)) g12 < M39 v3 σ)
def zq8_found (v1 : Int32) (σ : zz_St) (Qp : Int32 → zz_St → Prop) : Prop :=
zq8_key  σ (fun r13 =>
  vp_in r13 4608 ∧
  ((0 ≤ ((σ).2.1 22 r13.toNatClampNeg)) →
    vp_in r13 4608 ∧
    Qp ((σ).2.1 22 r13.toNatClampNeg) σ) ∧ (¬ (0 ≤ ((σ).2.1 22 r13.toNatClampNeg)) →
    vp_in r13 4608 ∧
    ∀ g15 : zz_St, g15 = zz_A σ 22 (upd ((σ).2.1 22) r13.toNatClampNeg ((σ).1 27)) →
    vp_in (g15.1 27) 900 ∧
    ∀ g16 : zz_St, g16 = zz_A g15 23 (upd (g15.2.1 23) (g15.1 27).toNatClampNeg (g15.1 8)) →
    zq8_found_39 v1 r13 (0 : Int32) g16 Qp))
def zq8_goesThrough_132 (v1 : Int32) (v2 : Int32) (v3 : Int32) (σ : zz_St) (Qp : zz_St → Prop) (B44 : Int32 → zz_St → Prop) (B54 : Int32 → zz_St → Prop) : Prop :=
B54 (v3 + (1 : Int32)) σ
def zq8_goesThrough_97 (v1 : Int32) (v2 : Int32) (v3 : Int32) (s0 : Int32) (s1 : Int32) (σ : zz_St) (Qp : zz_St → Prop) (B44 : Int32 → zz_St → Prop) (B54 : Int32 → zz_St → Prop) : Prop :=
vp_in s1 3600 ∧
∀ g21 : zz_St, g21 = zz_A σ 26 (upd ((σ).2.1 26) s1.toNatClampNeg s0) →
vp_in (((4 : Int32) * v2) + v3) 3600 ∧
((¬ (g21.2.1 26 (((4 : Int32) * v2) + v3).toNatClampNeg) = v1) →
  zq8_goesThrough_132 v1 v2 v3 g21 Qp B44 B54) ∧ ((g21.2.1 26 (((4 : Int32) * v2) + v3).toNatClampNeg) = v1 →
  ((¬ (g21.1 28) = (-1 : Int32)) →
    zq8_goesThrough_132 v1 v2 v3 g21 Qp B44 B54) ∧ ((g21.1 28) = (-1 : Int32) →
    vp_in v2 900 ∧
    ∀ g24 : zz_St, g24 = zz_I g21 28 ((g21.2.1 25 v2.toNatClampNeg) + (1 : Int32)) →
    zq8_goesThrough_132 v1 v2 v3 g24 Qp B44 B54))
def zq8_goesThrough_54 (v1 : Int32) (v2 : Int32) (v3 : Int32) (σ : zz_St) (Qp : zz_St → Prop) (B44 : Int32 → zz_St → Prop) : Prop :=
 ∃ (I54 : Int32 → zz_St → Prop) (M54 : Int32 → zz_St → Nat), I54 v3 σ ∧ ∀ (v3 : Int32) (σ : zz_St), I54 v3 σ →
(((4 : Int32) ≤ v3) →
  B44 (v2 + (1 : Int32)) σ) ∧ (¬ ((4 : Int32) ≤ v3) →
  zq8_loads v2 σ (fun g26 =>
    zq8_rolls v3 g26 (fun r27 g28 =>
      ((r27 = 0) →
        zq8_goesThrough_97 v1 v2 v3 (-1 : Int32) (((4 : Int32) * v2) + v3) g28 Qp B44 (fun v3' σ' => I54 v3' σ' ∧ M54 v3' σ' < M54 v3 σ)) ∧ (¬ (r27 = 0) →
        vp_in v2 900 ∧
        zq8_found ((g28.2.1 25 v2.toNatClampNeg) + (1 : Int32)) g28 (fun r30 g31 =>
          zq8_goesThrough_97 v1 v2 v3 r30 (((4 : Int32) * v2) + v3) g31 Qp B44 (fun v3' σ' => I54 v3' σ' ∧ M54 v3' σ' < M54 v3 σ))))))
def zq8_goesThrough_44 (v1 : Int32) (v2 : Int32) (σ : zz_St) (Qp : zz_St → Prop) : Prop :=
 ∃ (I44 : Int32 → zz_St → Prop) (M44 : Int32 → zz_St → Nat), I44 v2 σ ∧ ∀ (v2 : Int32) (σ : zz_St), I44 v2 σ →
((((σ).1 27) ≤ v2) →
  zq8_lays1  σ (fun g33 =>
    Qp g33)) ∧ (¬ (((σ).1 27) ≤ v2) →
  zq8_goesThrough_54 v1 v2 (0 : Int32) σ Qp (fun v2' σ' => I44 v2' σ' ∧ M44 v2' σ' < M44 v2 σ))
def zq8_goesThrough_6 (v1 : Int32) (σ : zz_St) (Qp : zz_St → Prop) : Prop :=
 ∃ (I6 : Int32 → zz_St → Prop) (M6 : Int32 → zz_St → Nat), I6 v1 σ ∧ ∀ (v1 : Int32) (σ : zz_St), I6 v1 σ →
(((4608 : Int32) ≤ v1) →
  ∀ g35 : zz_St, g35 = zz_I σ 27 (0 : Int32) →
  ∀ g36 : zz_St, g36 = zz_I g35 28 (-1 : Int32) →
  zq8_found (0 : Int32) g36 (fun r37 g38 =>
    zq8_goesThrough_44 r37 (0 : Int32) g38 Qp)) ∧ (¬ ((4608 : Int32) ≤ v1) →
  vp_in v1 4608 ∧
  ∀ g39 : zz_St, g39 = zz_A σ 22 (upd ((σ).2.1 22) v1.toNatClampNeg (-1 : Int32)) →
  I6 (v1 + (1 : Int32)) g39 ∧ M6 (v1 + (1 : Int32)) g39 < M6 v1 σ)
def zq8_goesThrough  (σ : zz_St) (Qp : zz_St → Prop) : Prop :=
zq8_keeps1  σ (fun g40 =>
  zq8_goesThrough_6 (0 : Int32) g40 Qp)
def zq8_placesReached_50 (v1 : Int32) (v2 : Int32) (σ : zz_St) (Qp : Int32 → zz_St → Prop) (B25 : Int32 → Int32 → zz_St → Prop) : Prop :=
vp_in v2 900 ∧
vp_in ((σ).2.1 23 v2.toNatClampNeg) 72 ∧
∀ g6 : zz_St, g6 = zz_A σ 29 (upd ((σ).2.1 29) ((σ).2.1 23 v2.toNatClampNeg).toNatClampNeg (vp_nar .boolean (1 : Int32))) →
B25 v1 (v2 + (1 : Int32)) g6
def zq8_placesReached_25 (v1 : Int32) (v2 : Int32) (σ : zz_St) (Qp : Int32 → zz_St → Prop) : Prop :=
 ∃ (I25 : Int32 → Int32 → zz_St → Prop) (M25 : Int32 → Int32 → zz_St → Nat), I25 v1 v2 σ ∧ ∀ (v1 : Int32) (v2 : Int32) (σ : zz_St), I25 v1 v2 σ →
((((σ).1 27) ≤ v2) →
  Qp v1 σ) ∧ (¬ (((σ).1 27) ≤ v2) →
  vp_in v2 900 ∧
  vp_in ((σ).2.1 23 v2.toNatClampNeg) 72 ∧
  ((¬ ((σ).2.1 29 ((σ).2.1 23 v2.toNatClampNeg).toNatClampNeg) = 0) →
    zq8_placesReached_50 v1 v2 σ Qp (fun v1' v2' σ' => I25 v1' v2' σ' ∧ M25 v1' v2' σ' < M25 v1 v2 σ)) ∧ (((σ).2.1 29 ((σ).2.1 23 v2.toNatClampNeg).toNatClampNeg) = 0 →
    zq8_placesReached_50 (v1 + (1 : Int32)) v2 σ Qp (fun v1' v2' σ' => I25 v1' v2' σ' ∧ M25 v1' v2' σ' < M25 v1 v2 σ)))
def zq8_placesReached_2 (v1 : Int32) (σ : zz_St) (Qp : Int32 → zz_St → Prop) : Prop :=
 ∃ (I2 : Int32 → zz_St → Prop) (M2 : Int32 → zz_St → Nat), I2 v1 σ ∧ ∀ (v1 : Int32) (σ : zz_St), I2 v1 σ →
(((72 : Int32) ≤ v1) →
  zq8_placesReached_25 (0 : Int32) (0 : Int32) σ Qp) ∧ (¬ ((72 : Int32) ≤ v1) →
  vp_in v1 72 ∧
  ∀ g10 : zz_St, g10 = zz_A σ 29 (upd ((σ).2.1 29) v1.toNatClampNeg (vp_nar .boolean (0 : Int32))) →
  I2 (v1 + (1 : Int32)) g10 ∧ M2 (v1 + (1 : Int32)) g10 < M2 v1 σ)
def zq8_placesReached  (σ : zz_St) (Qp : Int32 → zz_St → Prop) : Prop :=
zq8_placesReached_2 (0 : Int32) σ Qp
def zq8_isEven_24 (v1 : Int32) (s0 : Int32) (s1 : Int32) (σ : zz_St) (Qp : Int32 → zz_St → Prop) (B2 : Int32 → zz_St → Prop) : Prop :=
vp_in s1 900 ∧
∀ g14 : zz_St, g14 = zz_A σ 30 (upd ((σ).2.1 30) s1.toNatClampNeg s0) →
B2 (v1 + (1 : Int32)) g14
def zq8_isEven_128 (v1 : Int32) (v2 : Int32) (v3 : Int32) (v4 : Int32) (σ : zz_St) (Qp : Int32 → zz_St → Prop) (B33 : Int32 → zz_St → Prop) (B41 : Int32 → Int32 → zz_St → Prop) (B72 : Int32 → Int32 → zz_St → Prop) : Prop :=
B72 v1 (v4 + (1 : Int32)) σ
def zq8_isEven_72 (v1 : Int32) (v2 : Int32) (v3 : Int32) (v4 : Int32) (σ : zz_St) (Qp : Int32 → zz_St → Prop) (B33 : Int32 → zz_St → Prop) (B41 : Int32 → Int32 → zz_St → Prop) : Prop :=
 ∃ (I72 : Int32 → Int32 → zz_St → Prop) (M72 : Int32 → Int32 → zz_St → Nat), I72 v1 v4 σ ∧ ∀ (v1 : Int32) (v4 : Int32) (σ : zz_St), I72 v1 v4 σ →
(((4 : Int32) ≤ v4) →
  B41 v1 (v2 + (1 : Int32)) σ) ∧ (¬ ((4 : Int32) ≤ v4) →
  vp_in (((4 : Int32) * v2) + v4) 3600 ∧
  ∀ x16 : Int32, x16 = (σ).2.1 26 (((4 : Int32) * v2) + v4).toNatClampNeg →
  ((x16 < 0) →
    zq8_isEven_128 v1 v2 v3 v4 σ Qp B33 B41 (fun v1' v4' σ' => I72 v1' v4' σ' ∧ M72 v1' v4' σ' < M72 v1 v4 σ)) ∧ (¬ (x16 < 0) →
    vp_in x16 900 ∧
    vp_in x16 900 ∧
    (((((σ).2.1 30 x16.toNatClampNeg) ||| v3) = ((σ).2.1 30 x16.toNatClampNeg)) →
      zq8_isEven_128 v1 v2 v3 v4 σ Qp B33 B41 (fun v1' v4' σ' => I72 v1' v4' σ' ∧ M72 v1' v4' σ' < M72 v1 v4 σ)) ∧ (¬ ((((σ).2.1 30 x16.toNatClampNeg) ||| v3) = ((σ).2.1 30 x16.toNatClampNeg)) →
      vp_in x16 900 ∧
      vp_in x16 900 ∧
      ∀ g19 : zz_St, g19 = zz_A σ 30 (upd ((σ).2.1 30) x16.toNatClampNeg (((σ).2.1 30 x16.toNatClampNeg) ||| v3)) →
      zq8_isEven_128 (1 : Int32) v2 v3 v4 g19 Qp B33 B41 (fun v1' v4' σ' => I72 v1' v4' σ' ∧ M72 v1' v4' σ' < M72 v1 v4 σ))))
def zq8_isEven_41 (v1 : Int32) (v2 : Int32) (σ : zz_St) (Qp : Int32 → zz_St → Prop) (B33 : Int32 → zz_St → Prop) : Prop :=
 ∃ (I41 : Int32 → Int32 → zz_St → Prop) (M41 : Int32 → Int32 → zz_St → Nat), I41 v1 v2 σ ∧ ∀ (v1 : Int32) (v2 : Int32) (σ : zz_St), I41 v1 v2 σ →
((((σ).1 27) ≤ v2) →
  B33 v1 σ) ∧ (¬ (((σ).1 27) ≤ v2) →
  vp_in v2 900 ∧
  vp_in v2 900 ∧
  ∀ x21 : Int32, x21 = ((((σ).2.1 30 v2.toNatClampNeg) &&& (1 : Int32)) <<< ((1 : Int32) &&& 31)) ||| (((σ).2.1 30 v2.toNatClampNeg) >>> ((1 : Int32) &&& 31)) →
  zq8_isEven_72 v1 v2 x21 (0 : Int32) σ Qp B33 (fun v1' v2' σ' => I41 v1' v2' σ' ∧ M41 v1' v2' σ' < M41 v1 v2 σ))
def zq8_isEven_145 (v2 : Int32) (σ : zz_St) (Qp : Int32 → zz_St → Prop) : Prop :=
 ∃ (I145 : Int32 → Prop) (M145 : Int32 → Nat), I145 v2 ∧ ∀ (v2 : Int32), I145 v2 →
((((σ).1 27) ≤ v2) →
  Qp (0 : Int32) σ) ∧ (¬ (((σ).1 27) ≤ v2) →
  vp_in v2 900 ∧
  ((¬ ((σ).2.1 30 v2.toNatClampNeg) = (3 : Int32)) →
    I145 (v2 + (1 : Int32)) ∧ M145 (v2 + (1 : Int32)) < M145 v2) ∧ (((σ).2.1 30 v2.toNatClampNeg) = (3 : Int32) →
    Qp (1 : Int32) σ))
def zq8_isEven_33 (v1 : Int32) (σ : zz_St) (Qp : Int32 → zz_St → Prop) : Prop :=
 ∃ (I33 : Int32 → zz_St → Prop) (M33 : Int32 → zz_St → Nat), I33 v1 σ ∧ ∀ (v1 : Int32) (σ : zz_St), I33 v1 σ →
((v1 = 0) →
  zq8_isEven_145 (0 : Int32) σ Qp) ∧ (¬ (v1 = 0) →
  zq8_isEven_41 (0 : Int32) (0 : Int32) σ Qp (fun v1' σ' => I33 v1' σ' ∧ M33 v1' σ' < M33 v1 σ))
def zq8_isEven_2 (v1 : Int32) (σ : zz_St) (Qp : Int32 → zz_St → Prop) : Prop :=
 ∃ (I2 : Int32 → zz_St → Prop) (M2 : Int32 → zz_St → Nat), I2 v1 σ ∧ ∀ (v1 : Int32) (σ : zz_St), I2 v1 σ →
((((σ).1 27) ≤ v1) →
  zq8_isEven_33 (1 : Int32) σ Qp) ∧ (¬ (((σ).1 27) ≤ v1) →
  ((¬ v1 = 0) →
    zq8_isEven_24 v1 (0 : Int32) v1 σ Qp (fun v1' σ' => I2 v1' σ' ∧ M2 v1' σ' < M2 v1 σ)) ∧ (v1 = 0 →
    zq8_isEven_24 v1 (1 : Int32) v1 σ Qp (fun v1' σ' => I2 v1' σ' ∧ M2 v1' σ' < M2 v1 σ)))
def zq8_isEven  (σ : zz_St) (Qp : Int32 → zz_St → Prop) : Prop :=
zq8_isEven_2 (0 : Int32) σ Qp
def zq8_reached (v1 : Int32) (σ : zz_St) (Qp : Int32 → zz_St → Prop) : Prop :=
zq8_in (v1.toInt64) (0 : Int64) (3 : Int64) (fun r17 =>
  ((¬ r17 = 0) →
    ((¬ ((σ).1 9) = 0) →
      zq8_goesThrough  σ (fun g20 =>
        ((¬ v1 = 0) →
          ((¬ v1 = (1 : Int32)) →
            ((¬ v1 = (2 : Int32)) →
              vp_in ((g20.1 27) - (1 : Int32)) 900 ∧
              Qp (g20.2.1 25 ((g20.1 27) - (1 : Int32)).toNatClampNeg) g20) ∧ (v1 = (2 : Int32) →
              zq8_isEven  g20 (fun r24 g25 =>
                ((r24 = 0) →
                  Qp (0 : Int32) g25) ∧ (¬ (r24 = 0) →
                  Qp (1 : Int32) g25)))) ∧ (v1 = (1 : Int32) →
            zq8_placesReached  g20 (fun r27 g28 =>
              Qp r27 g28))) ∧ (v1 = 0 →
          Qp (g20.1 27) g20))) ∧ (((σ).1 9) = 0 →
      zq8_no (-3 : Int32) σ (fun r29 g30 =>
        Qp r29 g30))) ∧ (r17 = 0 →
    zq8_no (-2 : Int32) σ (fun r31 g32 =>
      Qp r31 g32)))
def zq8_keeps2_10 (v1 : Int32) (σ : zz_St) (Qp : zz_St → Prop) : Prop :=
 ∃ (I10 : Int32 → zz_St → Prop) (M10 : Int32 → zz_St → Nat), I10 v1 σ ∧ ∀ (v1 : Int32) (σ : zz_St), I10 v1 σ →
(((6 : Int32) ≤ v1) →
  Qp σ) ∧ (¬ ((6 : Int32) ≤ v1) →
  vp_in v1 6 ∧
  vp_in v1 6 ∧
  ∀ g5 : zz_St, g5 = zz_A σ 32 (upd ((σ).2.1 32) v1.toNatClampNeg ((σ).2.1 10 v1.toNatClampNeg)) →
  I10 (v1 + (1 : Int32)) g5 ∧ M10 (v1 + (1 : Int32)) g5 < M10 v1 σ)
def zq8_keeps2  (σ : zz_St) (Qp : zz_St → Prop) : Prop :=
∀ g6 : zz_St, g6 = zz_I σ 31 ((σ).1 8) →
zq8_keeps2_10 (0 : Int32) g6 Qp
def zq8_lays2_10 (v1 : Int32) (σ : zz_St) (Qp : zz_St → Prop) : Prop :=
 ∃ (I10 : Int32 → zz_St → Prop) (M10 : Int32 → zz_St → Nat), I10 v1 σ ∧ ∀ (v1 : Int32) (σ : zz_St), I10 v1 σ →
(((6 : Int32) ≤ v1) →
  Qp σ) ∧ (¬ ((6 : Int32) ≤ v1) →
  vp_in v1 6 ∧
  vp_in v1 6 ∧
  ∀ g5 : zz_St, g5 = zz_A σ 10 (upd ((σ).2.1 10) v1.toNatClampNeg ((σ).2.1 32 v1.toNatClampNeg)) →
  I10 (v1 + (1 : Int32)) g5 ∧ M10 (v1 + (1 : Int32)) g5 < M10 v1 σ)
def zq8_lays2  (σ : zz_St) (Qp : zz_St → Prop) : Prop :=
∀ g6 : zz_St, g6 = zz_I σ 8 ((σ).1 31) →
zq8_lays2_10 (0 : Int32) g6 Qp
def zq8_isGoal_52 (s0 : Int32) (σ : zz_St) (Qp : Int32 → zz_St → Prop) : Prop :=
zq8_lays2  σ (fun g12 =>
  (s0 = 0 ∨ s0 = 1) ∧
  Qp s0 g12)
def zq8_isGoal_47  (σ : zz_St) (Qp : Int32 → zz_St → Prop) : Prop :=
zq8_isGoal_52 (1 : Int32) σ Qp
def zq8_isGoal_51  (σ : zz_St) (Qp : Int32 → zz_St → Prop) : Prop :=
zq8_isGoal_52 (0 : Int32) σ Qp
def zq8_isGoal_33  (σ : zz_St) (Qp : Int32 → zz_St → Prop) : Prop :=
zq8_isBlock  σ (fun r13 =>
  ((r13 = 0) →
    zq8_isGoal_47 σ Qp) ∧ (¬ (r13 = 0) →
    zq8_lying  σ (fun r15 =>
      ((¬ r15 = 0) →
        zq8_isGoal_51 σ Qp) ∧ (r15 = 0 →
        zq8_isGoal_47 σ Qp))))
def zq8_isGoal (v1 : Int32) (v2 : Int32) (v3 : Int32) (σ : zz_St) (Qp : Int32 → zz_St → Prop) : Prop :=
vp_in v1 900 ∧
((((σ).2.1 23 v1.toNatClampNeg) = v2) →
  zq8_keeps2  σ (fun g18 =>
    zq8_loads v1 g18 (fun g19 =>
      ((v3 < 0) →
        zq8_isGoal_33 g19 Qp) ∧ (¬ (v3 < 0) →
        zq8_below  g19 (fun r21 =>
          ((¬ r21 = v3) →
            zq8_isGoal_51 g19 Qp) ∧ (r21 = v3 →
            zq8_isGoal_33 g19 Qp)))))) ∧ (¬ (((σ).2.1 23 v1.toNatClampNeg) = v2) →
  Qp (0 : Int32) σ)
def zq8_soonestTo_2 (v1 : Int32) (v2 : Int32) (v3 : Int32) (σ : zz_St) (Qp : Int32 → zz_St → Prop) : Prop :=
 ∃ (I2 : Int32 → zz_St → Prop) (M2 : Int32 → zz_St → Nat), I2 v3 σ ∧ ∀ (v3 : Int32) (σ : zz_St), I2 v3 σ →
((((σ).1 27) ≤ v3) →
  Qp (-9 : Int32) σ) ∧ (¬ (((σ).1 27) ≤ v3) →
  zq8_isGoal v3 v1 v2 σ (fun r6 g7 =>
    ((r6 = 0) →
      I2 (v3 + (1 : Int32)) g7 ∧ M2 (v3 + (1 : Int32)) g7 < M2 v3 σ) ∧ (¬ (r6 = 0) →
      vp_in v3 900 ∧
      Qp (g7.2.1 25 v3.toNatClampNeg) g7)))
def zq8_soonestTo (v1 : Int32) (v2 : Int32) (σ : zz_St) (Qp : Int32 → zz_St → Prop) : Prop :=
zq8_soonestTo_2 v1 v2 (0 : Int32) σ Qp
def zq8_areAsked (v1 : Int32) (v2 : Int32) (σ : zz_St) (Qp : Int32 → Prop) : Prop :=
zq8_isPlace v1 σ (fun r6 =>
  ((r6 = 0) →
    Qp (0 : Int32) ) ∧ (¬ (r6 = 0) →
    ((v2 = (-1 : Int32)) →
      Qp (1 : Int32) ) ∧ (¬ (v2 = (-1 : Int32)) →
      zq8_isFace v2 σ (fun r9 =>
        ((r9 = 0) →
          Qp (0 : Int32) ) ∧ (¬ (r9 = 0) →
          Qp (1 : Int32) )))))
def zq8_soonest (v1 : Int32) (v2 : Int32) (σ : zz_St) (Qp : Int32 → zz_St → Prop) : Prop :=
zq8_areAsked v1 v2 σ (fun r11 =>
  ((¬ r11 = 0) →
    ((¬ ((σ).1 9) = 0) →
      zq8_goesThrough  σ (fun g14 =>
        zq8_soonestTo v1 v2 g14 (fun r15 g16 =>
          Qp r15 g16))) ∧ (((σ).1 9) = 0 →
      zq8_no (-3 : Int32) σ (fun r17 g18 =>
        Qp r17 g18))) ∧ (r11 = 0 →
    zq8_no (-1 : Int32) σ (fun r19 g20 =>
      Qp r19 g20)))
def zq8_wayAt_166 (v1 : Int32) (v2 : Int32) (v3 : Int32) (v4 : Int32) (v5 : Int32) (v6 : Int32) (s0 : Int32) (s1 : Int32) (σ : zz_St) (Qp : Int32 → zz_St → Prop) (B36 : Int32 → zz_St → Prop) (B79 : Int32 → zz_St → Prop) : Prop :=
vp_in s1 900 ∧
∀ g26 : zz_St, g26 = zz_A σ 33 (upd ((σ).2.1 33) s1.toNatClampNeg (vp_nar .boolean s0)) →
B79 (v6 + (1 : Int32)) g26
def zq8_wayAt_165 (v1 : Int32) (v2 : Int32) (v3 : Int32) (v4 : Int32) (v5 : Int32) (v6 : Int32) (s0 : Int32) (σ : zz_St) (Qp : Int32 → zz_St → Prop) (B36 : Int32 → zz_St → Prop) (B79 : Int32 → zz_St → Prop) : Prop :=
zq8_wayAt_166 v1 v2 v3 v4 v5 v6 (0 : Int32) s0 σ Qp B36 B79
def zq8_wayAt_173 (v1 : Int32) (v2 : Int32) (v3 : Int32) (v4 : Int32) (v5 : Int32) (σ : zz_St) (Qp : Int32 → zz_St → Prop) (B36 : Int32 → zz_St → Prop) : Prop :=
B36 (v5 + (-1 : Int32)) σ
def zq8_wayAt_79 (v1 : Int32) (v2 : Int32) (v3 : Int32) (v4 : Int32) (v5 : Int32) (v6 : Int32) (σ : zz_St) (Qp : Int32 → zz_St → Prop) (B36 : Int32 → zz_St → Prop) : Prop :=
 ∃ (I79 : Int32 → zz_St → Prop) (M79 : Int32 → zz_St → Nat), I79 v6 σ ∧ ∀ (v6 : Int32) (σ : zz_St), I79 v6 σ →
(((4 : Int32) ≤ v6) →
  zq8_wayAt_173 v1 v2 v3 v4 v5 σ Qp B36) ∧ (¬ ((4 : Int32) ≤ v6) →
  vp_in v5 900 ∧
  ((¬ ((σ).2.1 33 v5.toNatClampNeg) = 0) →
    zq8_wayAt_173 v1 v2 v3 v4 v5 σ Qp B36) ∧ (((σ).2.1 33 v5.toNatClampNeg) = 0 →
    vp_in v5 900 ∧
    ((v4 ≤ ((σ).2.1 25 v5.toNatClampNeg)) →
      zq8_wayAt_173 v1 v2 v3 v4 v5 σ Qp B36) ∧ (¬ (v4 ≤ ((σ).2.1 25 v5.toNatClampNeg)) →
      vp_in (((4 : Int32) * v5) + v6) 3600 ∧
      ∀ x30 : Int32, x30 = (σ).2.1 26 (((4 : Int32) * v5) + v6).toNatClampNeg →
      ((x30 < 0) →
        zq8_wayAt_165 v1 v2 v3 v4 v5 v6 v5 σ Qp B36 (fun v6' σ' => I79 v6' σ' ∧ M79 v6' σ' < M79 v6 σ)) ∧ (¬ (x30 < 0) →
        vp_in x30 900 ∧
        vp_in v5 900 ∧
        ((¬ ((σ).2.1 25 x30.toNatClampNeg) = (((σ).2.1 25 v5.toNatClampNeg) + (1 : Int32))) →
          zq8_wayAt_165 v1 v2 v3 v4 v5 v6 v5 σ Qp B36 (fun v6' σ' => I79 v6' σ' ∧ M79 v6' σ' < M79 v6 σ)) ∧ (((σ).2.1 25 x30.toNatClampNeg) = (((σ).2.1 25 v5.toNatClampNeg) + (1 : Int32)) →
          vp_in x30 900 ∧
          ((((σ).2.1 33 x30.toNatClampNeg) = 0) →
            zq8_wayAt_165 v1 v2 v3 v4 v5 v6 v5 σ Qp B36 (fun v6' σ' => I79 v6' σ' ∧ M79 v6' σ' < M79 v6 σ)) ∧ (¬ (((σ).2.1 33 x30.toNatClampNeg) = 0) →
            zq8_wayAt_166 v1 v2 v3 v4 v5 v6 (1 : Int32) v5 σ Qp B36 (fun v6' σ' => I79 v6' σ' ∧ M79 v6' σ' < M79 v6 σ)))))))
def zq8_wayAt_75 (v1 : Int32) (v2 : Int32) (v3 : Int32) (v4 : Int32) (v5 : Int32) (s0 : Int32) (s1 : Int32) (σ : zz_St) (Qp : Int32 → zz_St → Prop) (B36 : Int32 → zz_St → Prop) : Prop :=
vp_in s1 900 ∧
∀ g34 : zz_St, g34 = zz_A σ 33 (upd ((σ).2.1 33) s1.toNatClampNeg (vp_nar .boolean s0)) →
zq8_wayAt_79 v1 v2 v3 v4 v5 (0 : Int32) g34 Qp B36
def zq8_wayAt_74 (v1 : Int32) (v2 : Int32) (v3 : Int32) (v4 : Int32) (v5 : Int32) (s0 : Int32) (σ : zz_St) (Qp : Int32 → zz_St → Prop) (B36 : Int32 → zz_St → Prop) : Prop :=
zq8_wayAt_75 v1 v2 v3 v4 v5 (0 : Int32) s0 σ Qp B36
def zq8_wayAt_261 (v3 : Int32) (v5 : Int32) (v6 : Int32) (v7 : Int32) (σ : zz_St) (Qp : Int32 → zz_St → Prop) (B188 : Int32 → Int32 → Int32 → Prop) (B197 : Int32 → Prop) : Prop :=
B197 (v6 + (1 : Int32))
def zq8_wayAt_197 (v3 : Int32) (v5 : Int32) (v6 : Int32) (v7 : Int32) (σ : zz_St) (Qp : Int32 → zz_St → Prop) (B188 : Int32 → Int32 → Int32 → Prop) : Prop :=
 ∃ (I197 : Int32 → Prop) (M197 : Int32 → Nat), I197 v6 ∧ ∀ (v6 : Int32), I197 v6 →
vp_in (((4 : Int32) * v5) + v6) 3600 ∧
((((σ).2.1 26 (((4 : Int32) * v5) + v6).toNatClampNeg) < 0) →
  zq8_wayAt_261 v3 v5 v6 v7 σ Qp B188 (fun v6' => I197 v6' ∧ M197 v6' < M197 v6)) ∧ (¬ (((σ).2.1 26 (((4 : Int32) * v5) + v6).toNatClampNeg) < 0) →
  vp_in (((4 : Int32) * v5) + v6) 3600 ∧
  vp_in ((σ).2.1 26 (((4 : Int32) * v5) + v6).toNatClampNeg) 900 ∧
  vp_in v5 900 ∧
  ((¬ ((σ).2.1 25 ((σ).2.1 26 (((4 : Int32) * v5) + v6).toNatClampNeg).toNatClampNeg) = (((σ).2.1 25 v5.toNatClampNeg) + (1 : Int32))) →
    zq8_wayAt_261 v3 v5 v6 v7 σ Qp B188 (fun v6' => I197 v6' ∧ M197 v6' < M197 v6)) ∧ (((σ).2.1 25 ((σ).2.1 26 (((4 : Int32) * v5) + v6).toNatClampNeg).toNatClampNeg) = (((σ).2.1 25 v5.toNatClampNeg) + (1 : Int32)) →
    vp_in (((4 : Int32) * v5) + v6) 3600 ∧
    vp_in ((σ).2.1 26 (((4 : Int32) * v5) + v6).toNatClampNeg) 900 ∧
    ((¬ ((σ).2.1 33 ((σ).2.1 26 (((4 : Int32) * v5) + v6).toNatClampNeg).toNatClampNeg) = 0) →
      vp_in (((4 : Int32) * v5) + v6) 3600 ∧
      ∀ x38 : Int32, x38 = (σ).2.1 26 (((4 : Int32) * v5) + v6).toNatClampNeg →
      B188 x38 v6 (v7 + (1 : Int32))) ∧ (((σ).2.1 33 ((σ).2.1 26 (((4 : Int32) * v5) + v6).toNatClampNeg).toNatClampNeg) = 0 →
      zq8_wayAt_261 v3 v5 v6 v7 σ Qp B188 (fun v6' => I197 v6' ∧ M197 v6' < M197 v6))))
def zq8_wayAt_188 (v3 : Int32) (v5 : Int32) (v6 : Int32) (v7 : Int32) (σ : zz_St) (Qp : Int32 → zz_St → Prop) : Prop :=
 ∃ (I188 : Int32 → Int32 → Int32 → Prop) (M188 : Int32 → Int32 → Int32 → Nat), I188 v5 v6 v7 ∧ ∀ (v5 : Int32) (v6 : Int32) (v7 : Int32), I188 v5 v6 v7 →
((v3 < v7) →
  Qp v6 σ) ∧ (¬ (v3 < v7) →
  zq8_wayAt_197 v3 v5 (0 : Int32) v7 σ Qp (fun v5' v6' v7' => I188 v5' v6' v7' ∧ M188 v5' v6' v7' < M188 v5 v6 v7))
def zq8_wayAt_36 (v1 : Int32) (v2 : Int32) (v3 : Int32) (v4 : Int32) (v5 : Int32) (σ : zz_St) (Qp : Int32 → zz_St → Prop) : Prop :=
 ∃ (I36 : Int32 → zz_St → Prop) (M36 : Int32 → zz_St → Nat), I36 v5 σ ∧ ∀ (v5 : Int32) (σ : zz_St), I36 v5 σ →
((v5 < 0) →
  zq8_wayAt_188 v3 (0 : Int32) (0 : Int32) (0 : Int32) σ Qp) ∧ (¬ (v5 < 0) →
  vp_in v5 900 ∧
  ((¬ ((σ).2.1 25 v5.toNatClampNeg) = v4) →
    zq8_wayAt_74 v1 v2 v3 v4 v5 v5 σ Qp (fun v5' σ' => I36 v5' σ' ∧ M36 v5' σ' < M36 v5 σ)) ∧ (((σ).2.1 25 v5.toNatClampNeg) = v4 →
    zq8_isGoal v5 v1 v2 σ (fun r42 g43 =>
      ((r42 = 0) →
        zq8_wayAt_74 v1 v2 v3 v4 v5 v5 g43 Qp (fun v5' σ' => I36 v5' σ' ∧ M36 v5' σ' < M36 v5 σ)) ∧ (¬ (r42 = 0) →
        zq8_wayAt_75 v1 v2 v3 v4 v5 (1 : Int32) v5 g43 Qp (fun v5' σ' => I36 v5' σ' ∧ M36 v5' σ' < M36 v5 σ)))))
def zq8_wayAt (v1 : Int32) (v2 : Int32) (v3 : Int32) (σ : zz_St) (Qp : Int32 → zz_St → Prop) : Prop :=
zq8_goesThrough  σ (fun g45 =>
  zq8_soonestTo v1 v2 g45 (fun r46 g47 =>
    ((r46 = (-9 : Int32)) →
      Qp (-9 : Int32) g47) ∧ (¬ (r46 = (-9 : Int32)) →
      ((v3 < r46) →
        ∀ x50 : Int32, x50 = (g47.1 27) - (1 : Int32) →
        zq8_wayAt_36 v1 v2 v3 r46 x50 g47 Qp) ∧ (¬ (v3 < r46) →
        Qp (-9 : Int32) g47))))
def zq8_walk (v1 : Int32) (v2 : Int32) (v3 : Int32) (σ : zz_St) (Qp : Int32 → zz_St → Prop) : Prop :=
zq8_areAsked v1 v2 σ (fun r13 =>
  ((¬ r13 = 0) →
    ((0 ≤ v3) →
      ((¬ ((σ).1 9) = 0) →
        zq8_wayAt v1 v2 v3 σ (fun r17 g18 =>
          Qp r17 g18)) ∧ (((σ).1 9) = 0 →
        zq8_no (-3 : Int32) σ (fun r19 g20 =>
          Qp r19 g20))) ∧ (¬ (0 ≤ v3) →
      zq8_no (-4 : Int32) σ (fun r21 g22 =>
        Qp r21 g22))) ∧ (r13 = 0 →
    zq8_no (-1 : Int32) σ (fun r23 g24 =>
      Qp r23 g24)))
def zq8_belowOf (v1 : Int32) (σ : zz_St) (Qp : Int32 → Prop) : Prop :=
zq8_isTetra  σ (fun r3 =>
  ((r3 = 0) →
    vp_in (((6 : Int32) * v1) + (1 : Int32)) 5400 ∧
    Qp ((σ).2.1 24 (((6 : Int32) * v1) + (1 : Int32)).toNatClampNeg) ) ∧ (¬ (r3 = 0) →
    vp_in (((6 : Int32) * v1) + (0 : Int32)) 5400 ∧
    Qp ((σ).2.1 24 (((6 : Int32) * v1) + (0 : Int32)).toNatClampNeg) ))
def zq8_faces_66 (v1 : Int32) (v3 : Int32) (s0 : Int32) (s1 : Int32) (σ : zz_St) (Qp : Int32 → zz_St → Prop) (B36 : Int32 → Int32 → Prop) : Prop :=
∀ x13 : Int32, x13 = s1 ||| s0 →
B36 x13 (v3 + (1 : Int32))
def zq8_faces_36 (v1 : Int32) (v2 : Int32) (v3 : Int32) (σ : zz_St) (Qp : Int32 → zz_St → Prop) : Prop :=
 ∃ (I36 : Int32 → Int32 → Prop) (M36 : Int32 → Int32 → Nat), I36 v2 v3 ∧ ∀ (v2 : Int32) (v3 : Int32), I36 v2 v3 →
((((σ).1 27) ≤ v3) →
  Qp v2 σ) ∧ (¬ (((σ).1 27) ≤ v3) →
  vp_in v3 900 ∧
  ((¬ ((σ).2.1 23 v3.toNatClampNeg) = v1) →
    zq8_faces_66 v1 v3 (0 : Int32) v2 σ Qp (fun v2' v3' => I36 v2' v3' ∧ M36 v2' v3' < M36 v2 v3)) ∧ (((σ).2.1 23 v3.toNatClampNeg) = v1 →
    zq8_belowOf v3 σ (fun r16 =>
      zq8_faces_66 v1 v3 ((1 : Int32) <<< (r16 &&& 31)) v2 σ Qp (fun v2' v3' => I36 v2' v3' ∧ M36 v2' v3' < M36 v2 v3))))
def zq8_faces (v1 : Int32) (σ : zz_St) (Qp : Int32 → zz_St → Prop) : Prop :=
zq8_isPlace v1 σ (fun r17 =>
  ((¬ r17 = 0) →
    ((¬ ((σ).1 9) = 0) →
      zq8_goesThrough  σ (fun g20 =>
        zq8_faces_36 v1 (0 : Int32) (0 : Int32) g20 Qp)) ∧ (((σ).1 9) = 0 →
      zq8_no (-3 : Int32) σ (fun r21 g22 =>
        Qp r21 g22))) ∧ (r17 = 0 →
    zq8_no (-1 : Int32) σ (fun r23 g24 =>
      Qp r23 g24)))
def zq8_fill_105 (v1 : Int32) (v2 : Int32) (v3 : Int32) (v4 : Int32) (σ : zz_St) (Qp : Int32 → zz_St → Prop) (B46 : Int32 → Int32 → Int32 → zz_St → Prop) : Prop :=
B46 v2 v3 (v4 + (1 : Int32)) σ
def zq8_fill_46 (v1 : Int32) (v2 : Int32) (v3 : Int32) (v4 : Int32) (σ : zz_St) (Qp : Int32 → zz_St → Prop) : Prop :=
 ∃ (I46 : Int32 → Int32 → Int32 → zz_St → Prop) (M46 : Int32 → Int32 → Int32 → zz_St → Nat), I46 v2 v3 v4 σ ∧ ∀ (v2 : Int32) (v3 : Int32) (v4 : Int32) (σ : zz_St), I46 v2 v3 v4 σ →
zq8_tileMany  σ (fun r20 =>
  ((r20 ≤ v4) →
    ((v1 = 0) →
      Qp v3 σ) ∧ (¬ (v1 = 0) →
      ((¬ v3 = (-9 : Int32)) →
        Qp v2 σ) ∧ (v3 = (-9 : Int32) →
        Qp v3 σ))) ∧ (¬ (r20 ≤ v4) →
    vp_in v4 36 ∧
    ((((σ).2.1 4 v4.toNatClampNeg) = (1 : Int32)) →
      vp_in v4 36 ∧
      ∀ g25 : zz_St, g25 = zz_A σ 4 (upd ((σ).2.1 4) v4.toNatClampNeg (0 : Int32)) →
      zq8_goesThrough  g25 (fun g26 =>
        vp_in v4 36 ∧
        ∀ g27 : zz_St, g27 = zz_A g26 4 (upd (g26.2.1 4) v4.toNatClampNeg (1 : Int32)) →
        (((g27.1 27) ≤ v2) →
          zq8_fill_105 v1 v2 v3 v4 g27 Qp (fun v2' v3' v4' σ' => I46 v2' v3' v4' σ' ∧ M46 v2' v3' v4' σ' < M46 v2 v3 v4 σ)) ∧ (¬ ((g27.1 27) ≤ v2) →
          ∀ x29 : Int32, x29 = g27.1 27 →
          zq8_fill_105 v1 x29 v4 v4 g27 Qp (fun v2' v3' v4' σ' => I46 v2' v3' v4' σ' ∧ M46 v2' v3' v4' σ' < M46 v2 v3 v4 σ)))) ∧ (¬ (((σ).2.1 4 v4.toNatClampNeg) = (1 : Int32)) →
      zq8_fill_105 v1 v2 v3 v4 σ Qp (fun v2' v3' v4' σ' => I46 v2' v3' v4' σ' ∧ M46 v2' v3' v4' σ' < M46 v2 v3 v4 σ))))
def zq8_fill (v1 : Int32) (σ : zz_St) (Qp : Int32 → zz_St → Prop) : Prop :=
zq8_in (v1.toInt64) (0 : Int64) (1 : Int64) (fun r30 =>
  ((¬ r30 = 0) →
    ((¬ ((σ).1 9) = 0) →
      zq8_goesThrough  σ (fun g33 =>
        ∀ x34 : Int32, x34 = g33.1 27 →
        zq8_fill_46 v1 x34 (-9 : Int32) (0 : Int32) g33 Qp)) ∧ (((σ).1 9) = 0 →
      zq8_no (-3 : Int32) σ (fun r35 g36 =>
        Qp r35 g36))) ∧ (r30 = 0 →
    zq8_no (-2 : Int32) σ (fun r37 g38 =>
      Qp r37 g38)))
def zq8_needed_140 (v1 : Int32) (v2 : Int32) (v3 : Int64) (v5 : Int32) (σ : zz_St) (Qp : Int64 → zz_St → Prop) (B44 : Int64 → Int32 → zz_St → Prop) : Prop :=
B44 v3 (v5 + (1 : Int32)) σ
def zq8_needed_133 (v1 : Int32) (v2 : Int32) (v3 : Int64) (v5 : Int32) (σ : zz_St) (Qp : Int64 → zz_St → Prop) (B44 : Int64 → Int32 → zz_St → Prop) : Prop :=
∀ x27 : Int64, x27 = v3 ||| ((1 : Int64) <<< (v5.toInt64 &&& 63)) →
zq8_needed_140 v1 v2 x27 v5 σ Qp B44
def zq8_needed_44 (v1 : Int32) (v2 : Int32) (v3 : Int64) (v5 : Int32) (σ : zz_St) (Qp : Int64 → zz_St → Prop) : Prop :=
 ∃ (I44 : Int64 → Int32 → zz_St → Prop) (M44 : Int64 → Int32 → zz_St → Nat), I44 v3 v5 σ ∧ ∀ (v3 : Int64) (v5 : Int32) (σ : zz_St), I44 v3 v5 σ →
zq8_tileMany  σ (fun r28 =>
  ((r28 ≤ v5) →
    Qp v3 σ) ∧ (¬ (r28 ≤ v5) →
    ((v2 = (-9 : Int32)) →
      Qp v3 σ) ∧ (¬ (v2 = (-9 : Int32)) →
      zq8_isUnder v5 σ (fun r31 g32 =>
        ((¬ r31 = 0) →
          zq8_needed_140 v1 v2 v3 v5 g32 Qp (fun v3' v5' σ' => I44 v3' v5' σ' ∧ M44 v3' v5' σ' < M44 v3 v5 σ)) ∧ (r31 = 0 →
          vp_in v5 36 ∧
          ((¬ (g32.2.1 4 v5.toNatClampNeg) = (1 : Int32)) →
            vp_in v5 36 ∧
            ∀ x35 : Int32, x35 = g32.2.1 4 v5.toNatClampNeg →
            vp_in v5 36 ∧
            ∀ g36 : zz_St, g36 = zz_A g32 4 (upd (g32.2.1 4) v5.toNatClampNeg (1 : Int32)) →
            zq8_goesThrough  g36 (fun g37 =>
              zq8_soonestTo v1 (-1 : Int32) g37 (fun r38 g39 =>
                vp_in v5 36 ∧
                ∀ g40 : zz_St, g40 = zz_A g39 4 (upd (g39.2.1 4) v5.toNatClampNeg x35) →
                ((r38 = (-9 : Int32)) →
                  zq8_needed_133 v1 v2 v3 v5 g40 Qp (fun v3' v5' σ' => I44 v3' v5' σ' ∧ M44 v3' v5' σ' < M44 v3 v5 σ)) ∧ (¬ (r38 = (-9 : Int32)) →
                  ((r38 ≤ v2) →
                    zq8_needed_140 v1 v2 v3 v5 g40 Qp (fun v3' v5' σ' => I44 v3' v5' σ' ∧ M44 v3' v5' σ' < M44 v3 v5 σ)) ∧ (¬ (r38 ≤ v2) →
                    zq8_needed_133 v1 v2 v3 v5 g40 Qp (fun v3' v5' σ' => I44 v3' v5' σ' ∧ M44 v3' v5' σ' < M44 v3 v5 σ)))))) ∧ ((g32.2.1 4 v5.toNatClampNeg) = (1 : Int32) →
            zq8_needed_140 v1 v2 v3 v5 g32 Qp (fun v3' v5' σ' => I44 v3' v5' σ' ∧ M44 v3' v5' σ' < M44 v3 v5 σ)))))))
def zq8_needed (v1 : Int32) (σ : zz_St) (Qp : Int64 → zz_St → Prop) : Prop :=
zq8_isPlace v1 σ (fun r43 =>
  ((¬ r43 = 0) →
    ((¬ ((σ).1 9) = 0) →
      zq8_goesThrough  σ (fun g46 =>
        zq8_soonestTo v1 (-1 : Int32) g46 (fun r47 g48 =>
          zq8_needed_44 v1 r47 (0 : Int64) (0 : Int32) g48 Qp))) ∧ (((σ).1 9) = 0 →
      zq8_longNo (-3 : Int32) σ (fun r49 g50 =>
        Qp r49 g50))) ∧ (r43 = 0 →
    zq8_longNo (-1 : Int32) σ (fun r51 g52 =>
      Qp r51 g52)))
def zq8_paints (v1 : Int32) (v2 : Int32) (v3 : Int32) (σ : zz_St) (Qp : Int32 → zz_St → Prop) : Prop :=
zq8_belowOf v1 σ (fun r8 =>
  ((r8 = v3) →
    zq8_keeps2  σ (fun g10 =>
      zq8_loads v1 g10 (fun g11 =>
        zq8_isUnder v2 g11 (fun r12 g13 =>
          zq8_lays2  g13 (fun g14 =>
            (r12 = 0 ∨ r12 = 1) ∧
            Qp r12 g14))))) ∧ (¬ (r8 = v3) →
    Qp (0 : Int32) σ))
def zq8_paint_16  (σ : zz_St) (Qp : Int32 → zz_St → Prop) : Prop :=
zq8_no (-1 : Int32) σ (fun r23 g24 =>
  Qp r23 g24)
def zq8_paint_118 (v1 : Int32) (v2 : Int32) (v3 : Int32) (v4 : Int32) (σ : zz_St) (Qp : Int32 → zz_St → Prop) (B74 : Int32 → Int32 → zz_St → Prop) : Prop :=
B74 v3 (v4 + (1 : Int32)) σ
def zq8_paint_99 (v1 : Int32) (v2 : Int32) (v3 : Int32) (v4 : Int32) (σ : zz_St) (Qp : Int32 → zz_St → Prop) (B74 : Int32 → Int32 → zz_St → Prop) : Prop :=
zq8_paints v4 v1 v2 σ (fun r25 g26 =>
  ((r25 = 0) →
    zq8_paint_118 v1 v2 v3 v4 g26 Qp B74) ∧ (¬ (r25 = 0) →
    vp_in v4 900 ∧
    ∀ x28 : Int32, x28 = g26.2.1 25 v4.toNatClampNeg →
    zq8_paint_118 v1 v2 x28 v4 g26 Qp B74))
def zq8_paint_74 (v1 : Int32) (v2 : Int32) (v3 : Int32) (v4 : Int32) (σ : zz_St) (Qp : Int32 → zz_St → Prop) : Prop :=
 ∃ (I74 : Int32 → Int32 → zz_St → Prop) (M74 : Int32 → Int32 → zz_St → Nat), I74 v3 v4 σ ∧ ∀ (v3 : Int32) (v4 : Int32) (σ : zz_St), I74 v3 v4 σ →
((((σ).1 27) ≤ v4) →
  ((¬ v3 = (-1 : Int32)) →
    Qp v3 σ) ∧ (v3 = (-1 : Int32) →
    Qp (-9 : Int32) σ)) ∧ (¬ (((σ).1 27) ≤ v4) →
  ((v3 = (-1 : Int32)) →
    zq8_paint_99 v1 v2 v3 v4 σ Qp (fun v3' v4' σ' => I74 v3' v4' σ' ∧ M74 v3' v4' σ' < M74 v3 v4 σ)) ∧ (¬ (v3 = (-1 : Int32)) →
    vp_in v4 900 ∧
    ((v3 ≤ ((σ).2.1 25 v4.toNatClampNeg)) →
      zq8_paint_118 v1 v2 v3 v4 σ Qp (fun v3' v4' σ' => I74 v3' v4' σ' ∧ M74 v3' v4' σ' < M74 v3 v4 σ)) ∧ (¬ (v3 ≤ ((σ).2.1 25 v4.toNatClampNeg)) →
      zq8_paint_99 v1 v2 v3 v4 σ Qp (fun v3' v4' σ' => I74 v3' v4' σ' ∧ M74 v3' v4' σ' < M74 v3 v4 σ))))
def zq8_paint_70 (v1 : Int32) (v2 : Int32) (s0 : Int32) (σ : zz_St) (Qp : Int32 → zz_St → Prop) : Prop :=
zq8_paint_74 v1 v2 s0 (1 : Int32) σ Qp
def zq8_paint (v1 : Int32) (v2 : Int32) (σ : zz_St) (Qp : Int32 → zz_St → Prop) : Prop :=
zq8_isTile v1 σ (fun r33 =>
  ((r33 = 0) →
    zq8_paint_16 σ Qp) ∧ (¬ (r33 = 0) →
    zq8_isFace v2 σ (fun r35 =>
      ((¬ r35 = 0) →
        ((¬ ((σ).1 9) = 0) →
          vp_in v1 36 ∧
          ((¬ ((σ).2.1 5 v1.toNatClampNeg) = v2) →
            zq8_goesThrough  σ (fun g39 =>
              zq8_paints (0 : Int32) v1 v2 g39 (fun r40 g41 =>
                ((r40 = 0) →
                  zq8_paint_70 v1 v2 (-1 : Int32) g41 Qp) ∧ (¬ (r40 = 0) →
                  zq8_paint_70 v1 v2 (g41.1 28) g41 Qp)))) ∧ (((σ).2.1 5 v1.toNatClampNeg) = v2 →
            Qp (0 : Int32) σ)) ∧ (((σ).1 9) = 0 →
          zq8_no (-3 : Int32) σ (fun r43 g44 =>
            Qp r43 g44))) ∧ (r35 = 0 →
        zq8_paint_16 σ Qp))))
def zq8_likely_101 (v1 : Int32) (v2 : Int32) (v3 : Int32) (v4 : Int32) (s0 : Int64) (s1 : Int32) (σ : zz_St) (Qp : Int64 → zz_St → Prop) (B76 : Int32 → zz_St → Prop) : Prop :=
vp_in s1 900 ∧
∀ g38 : zz_St, g38 = zz_L σ 34 (vp_updL ((σ).2.2 34) s1.toNatClampNeg s0) →
B76 (v4 + (1 : Int32)) g38
def zq8_likely_203 (v1 : Int32) (v2 : Int32) (v3 : Int32) (v4 : Int64) (v6 : Int32) (v7 : Int32) (v8 : Int32) (s0 : Int32) (σ : zz_St) (Qp : Int64 → zz_St → Prop) (B114 : Int64 → Int32 → zz_St → Prop) (B149 : Int32 → zz_St → Prop) (B161 : Int32 → zz_St → Prop) : Prop :=
vp_in s0 900 ∧
vp_in v7 900 ∧
vp_in s0 900 ∧
∀ g39 : zz_St, g39 = zz_L σ 35 (vp_updL ((σ).2.2 35) s0.toNatClampNeg (((σ).2.2 35 s0.toNatClampNeg) + ((σ).2.2 34 v7.toNatClampNeg))) →
B161 (v8 + (1 : Int32)) g39
def zq8_likely_161 (v1 : Int32) (v2 : Int32) (v3 : Int32) (v4 : Int64) (v6 : Int32) (v7 : Int32) (v8 : Int32) (σ : zz_St) (Qp : Int64 → zz_St → Prop) (B114 : Int64 → Int32 → zz_St → Prop) (B149 : Int32 → zz_St → Prop) : Prop :=
 ∃ (I161 : Int32 → zz_St → Prop) (M161 : Int32 → zz_St → Nat), I161 v8 σ ∧ ∀ (v8 : Int32) (σ : zz_St), I161 v8 σ →
(((4 : Int32) ≤ v8) →
  B149 (v7 + (1 : Int32)) σ) ∧ (¬ ((4 : Int32) ≤ v8) →
  vp_in (((4 : Int32) * v7) + v8) 3600 ∧
  ((0 ≤ ((σ).2.1 26 (((4 : Int32) * v7) + v8).toNatClampNeg)) →
    vp_in (((4 : Int32) * v7) + v8) 3600 ∧
    zq8_likely_203 v1 v2 v3 v4 v6 v7 v8 ((σ).2.1 26 (((4 : Int32) * v7) + v8).toNatClampNeg) σ Qp B114 B149 (fun v8' σ' => I161 v8' σ' ∧ M161 v8' σ' < M161 v8 σ)) ∧ (¬ (0 ≤ ((σ).2.1 26 (((4 : Int32) * v7) + v8).toNatClampNeg)) →
    zq8_likely_203 v1 v2 v3 v4 v6 v7 v8 v7 σ Qp B114 B149 (fun v8' σ' => I161 v8' σ' ∧ M161 v8' σ' < M161 v8 σ)))
def zq8_likely_229 (v1 : Int32) (v2 : Int32) (v3 : Int32) (v4 : Int64) (v6 : Int32) (v7 : Int32) (σ : zz_St) (Qp : Int64 → zz_St → Prop) (B114 : Int64 → Int32 → zz_St → Prop) : Prop :=
 ∃ (I229 : Int32 → zz_St → Prop) (M229 : Int32 → zz_St → Nat), I229 v7 σ ∧ ∀ (v7 : Int32) (σ : zz_St), I229 v7 σ →
((((σ).1 27) ≤ v7) →
  ∀ x43 : Int64, x43 = v4 * (4 : Int64) →
  B114 x43 (v6 + (1 : Int32)) σ) ∧ (¬ (((σ).1 27) ≤ v7) →
  vp_in v7 900 ∧
  vp_in v7 900 ∧
  ∀ g44 : zz_St, g44 = zz_L σ 34 (vp_updL ((σ).2.2 34) v7.toNatClampNeg ((σ).2.2 35 v7.toNatClampNeg)) →
  I229 (v7 + (1 : Int32)) g44 ∧ M229 (v7 + (1 : Int32)) g44 < M229 v7 σ)
def zq8_likely_149 (v1 : Int32) (v2 : Int32) (v3 : Int32) (v4 : Int64) (v6 : Int32) (v7 : Int32) (σ : zz_St) (Qp : Int64 → zz_St → Prop) (B114 : Int64 → Int32 → zz_St → Prop) : Prop :=
 ∃ (I149 : Int32 → zz_St → Prop) (M149 : Int32 → zz_St → Nat), I149 v7 σ ∧ ∀ (v7 : Int32) (σ : zz_St), I149 v7 σ →
((((σ).1 27) ≤ v7) →
  zq8_likely_229 v1 v2 v3 v4 v6 (0 : Int32) σ Qp B114) ∧ (¬ (((σ).1 27) ≤ v7) →
  zq8_likely_161 v1 v2 v3 v4 v6 v7 (0 : Int32) σ Qp B114 (fun v7' σ' => I149 v7' σ' ∧ M149 v7' σ' < M149 v7 σ))
def zq8_likely_123 (v1 : Int32) (v2 : Int32) (v3 : Int32) (v4 : Int64) (v6 : Int32) (v7 : Int32) (σ : zz_St) (Qp : Int64 → zz_St → Prop) (B114 : Int64 → Int32 → zz_St → Prop) : Prop :=
 ∃ (I123 : Int32 → zz_St → Prop) (M123 : Int32 → zz_St → Nat), I123 v7 σ ∧ ∀ (v7 : Int32) (σ : zz_St), I123 v7 σ →
((((σ).1 27) ≤ v7) →
  zq8_likely_149 v1 v2 v3 v4 v6 (0 : Int32) σ Qp B114) ∧ (¬ (((σ).1 27) ≤ v7) →
  vp_in v7 900 ∧
  ∀ g47 : zz_St, g47 = zz_L σ 35 (vp_updL ((σ).2.2 35) v7.toNatClampNeg (0 : Int64)) →
  I123 (v7 + (1 : Int32)) g47 ∧ M123 (v7 + (1 : Int32)) g47 < M123 v7 σ)
def zq8_likely_311 (v2 : Int32) (v3 : Int32) (v4 : Int64) (v8 : Int32) (s0 : Int64) (s1 : Int64) (σ : zz_St) (Qp : Int64 → zz_St → Prop) (B278 : Int64 → Int32 → Prop) : Prop :=
∀ x48 : Int64, x48 = s1 + s0 →
B278 x48 (v8 + (1 : Int32))
def zq8_likely_328 (v3 : Int32) (v4 : Int64) (v6 : Int64) (v8 : Int64) (v10 : Int64) (σ : zz_St) (Qp : Int64 → zz_St → Prop) : Prop :=
 ∃ (I328 : Int64 → Int64 → Prop) (M328 : Int64 → Int64 → Nat), I328 v8 v10 ∧ ∀ (v8 : Int64) (v10 : Int64), I328 v8 v10 →
(((lg_cmp v10 (0 : Int64)) = 0) →
  ((¬ v3 = 0) →
    (¬ v8 = 0) ∧
    Qp (v4 / v8) σ) ∧ (v3 = 0 →
    (¬ v8 = 0) ∧
    Qp (v6 / v8) σ)) ∧ (¬ ((lg_cmp v10 (0 : Int64)) = 0) →
  (¬ v10 = 0) ∧
  ∀ x51 : Int64, x51 = v8 - v8 / v10 * v10 →
  I328 v10 x51 ∧ M328 v10 x51 < M328 v8 v10)
def zq8_likely_278 (v2 : Int32) (v3 : Int32) (v4 : Int64) (v6 : Int64) (v8 : Int32) (σ : zz_St) (Qp : Int64 → zz_St → Prop) : Prop :=
 ∃ (I278 : Int64 → Int32 → Prop) (M278 : Int64 → Int32 → Nat), I278 v6 v8 ∧ ∀ (v6 : Int64) (v8 : Int32), I278 v6 v8 →
((((σ).1 27) ≤ v8) →
  zq8_likely_328 v3 v4 v6 v6 v4 σ Qp) ∧ (¬ (((σ).1 27) ≤ v8) →
  vp_in v8 900 ∧
  ((¬ ((σ).2.1 23 v8.toNatClampNeg) = v2) →
    zq8_likely_311 v2 v3 v4 v8 (0 : Int64) v6 σ Qp (fun v6' v8' => I278 v6' v8' ∧ M278 v6' v8' < M278 v6 v8)) ∧ (((σ).2.1 23 v8.toNatClampNeg) = v2 →
    vp_in v8 900 ∧
    zq8_likely_311 v2 v3 v4 v8 ((σ).2.2 34 v8.toNatClampNeg) v6 σ Qp (fun v6' v8' => I278 v6' v8' ∧ M278 v6' v8' < M278 v6 v8)))
def zq8_likely_114 (v1 : Int32) (v2 : Int32) (v3 : Int32) (v4 : Int64) (v6 : Int32) (σ : zz_St) (Qp : Int64 → zz_St → Prop) : Prop :=
 ∃ (I114 : Int64 → Int32 → zz_St → Prop) (M114 : Int64 → Int32 → zz_St → Nat), I114 v4 v6 σ ∧ ∀ (v4 : Int64) (v6 : Int32) (σ : zz_St), I114 v4 v6 σ →
((v1 ≤ v6) →
  zq8_likely_278 v2 v3 v4 (0 : Int64) (0 : Int32) σ Qp) ∧ (¬ (v1 ≤ v6) →
  zq8_likely_123 v1 v2 v3 v4 v6 (0 : Int32) σ Qp (fun v4' v6' σ' => I114 v4' v6' σ' ∧ M114 v4' v6' σ' < M114 v4 v6 σ))
def zq8_likely_76 (v1 : Int32) (v2 : Int32) (v3 : Int32) (v4 : Int32) (σ : zz_St) (Qp : Int64 → zz_St → Prop) : Prop :=
 ∃ (I76 : Int32 → zz_St → Prop) (M76 : Int32 → zz_St → Nat), I76 v4 σ ∧ ∀ (v4 : Int32) (σ : zz_St), I76 v4 σ →
((((σ).1 27) ≤ v4) →
  zq8_likely_114 v1 v2 v3 (1 : Int64) (0 : Int32) σ Qp) ∧ (¬ (((σ).1 27) ≤ v4) →
  ((¬ v4 = 0) →
    zq8_likely_101 v1 v2 v3 v4 (0 : Int64) v4 σ Qp (fun v4' σ' => I76 v4' σ' ∧ M76 v4' σ' < M76 v4 σ)) ∧ (v4 = 0 →
    zq8_likely_101 v1 v2 v3 v4 (1 : Int64) v4 σ Qp (fun v4' σ' => I76 v4' σ' ∧ M76 v4' σ' < M76 v4 σ)))
def zq8_likely (v1 : Int32) (v2 : Int32) (v3 : Int32) (σ : zz_St) (Qp : Int64 → zz_St → Prop) : Prop :=
zq8_isPlace v2 σ (fun r57 =>
  ((¬ r57 = 0) →
    ((0 ≤ v1) →
      ((v1 ≤ (12 : Int32)) →
        zq8_in (v3.toInt64) (0 : Int64) (1 : Int64) (fun r61 =>
          ((¬ r61 = 0) →
            ((¬ ((σ).1 9) = 0) →
              zq8_goesThrough  σ (fun g64 =>
                zq8_likely_76 v1 v2 v3 (0 : Int32) g64 Qp)) ∧ (((σ).1 9) = 0 →
              zq8_longNo (-3 : Int32) σ (fun r65 g66 =>
                Qp r65 g66))) ∧ (r61 = 0 →
            zq8_longNo (-2 : Int32) σ (fun r67 g68 =>
              Qp r67 g68)))) ∧ (¬ (v1 ≤ (12 : Int32)) →
        zq8_longNo (-6 : Int32) σ (fun r69 g70 =>
          Qp r69 g70))) ∧ (¬ (0 ≤ v1) →
      zq8_longNo (-4 : Int32) σ (fun r71 g72 =>
        Qp r71 g72))) ∧ (r57 = 0 →
    zq8_longNo (-1 : Int32) σ (fun r73 g74 =>
      Qp r73 g74)))
def zq8_lots_113 (v1 : Int32) (v3 : Int32) (v4 : Int32) (v6 : Int32) (s0 : Int32) (s1 : Int32) (σ : zz_St) (Qp : Int32 → zz_St → Prop) (B69 : Int32 → Int32 → Int32 → zz_St → Prop) : Prop :=
∀ x24 : Int32, x24 = s1 + s0 →
B69 v4 x24 (v6 + (1 : Int32)) σ
def zq8_lots_69 (v1 : Int32) (v3 : Int32) (v4 : Int32) (v5 : Int32) (v6 : Int32) (σ : zz_St) (Qp : Int32 → zz_St → Prop) : Prop :=
 ∃ (I69 : Int32 → Int32 → Int32 → zz_St → Prop) (M69 : Int32 → Int32 → Int32 → zz_St → Nat), I69 v4 v5 v6 σ ∧ ∀ (v4 : Int32) (v5 : Int32) (v6 : Int32) (σ : zz_St), I69 v4 v5 v6 σ →
((v1 ≤ v6) →
  ∀ x26 : Int32, x26 = (σ).1 8 →
  zq8_lays1  σ (fun g27 =>
    ((¬ v3 = 0) →
      Qp x26 g27) ∧ (v3 = 0 →
      Qp v5 g27))) ∧ (¬ (v1 ≤ v6) →
  ∀ x29 : Int32, x29 = (v4 * (1664525 : Int32)) + (1013904223 : Int32) →
  zq8_rolls (((x29 &&& (2147483647 : Int32)) / (256 : Int32)) - ((x29 &&& (2147483647 : Int32)) / (256 : Int32)) / (4 : Int32) * (4 : Int32)) σ (fun r30 g31 =>
    ((r30 = 0) →
      zq8_lots_113 v1 v3 x29 v6 (0 : Int32) v5 g31 Qp (fun v4' v5' v6' σ' => I69 v4' v5' v6' σ' ∧ M69 v4' v5' v6' σ' < M69 v4 v5 v6 σ)) ∧ (¬ (r30 = 0) →
      zq8_lots_113 v1 v3 x29 v6 (1 : Int32) v5 g31 Qp (fun v4' v5' v6' σ' => I69 v4' v5' v6' σ' ∧ M69 v4' v5' v6' σ' < M69 v4 v5 v6 σ))))
def zq8_lots (v1 : Int32) (v2 : Int32) (v3 : Int32) (σ : zz_St) (Qp : Int32 → zz_St → Prop) : Prop :=
(((1 : Int32) ≤ v1) →
  ((v1 ≤ (50 : Int32)) →
    zq8_in (v3.toInt64) (0 : Int64) (1 : Int64) (fun r35 =>
      ((¬ r35 = 0) →
        ((¬ ((σ).1 9) = 0) →
          zq8_keeps1  σ (fun g38 =>
            zq8_lots_69 v1 v3 v2 (0 : Int32) (0 : Int32) g38 Qp)) ∧ (((σ).1 9) = 0 →
          zq8_no (-3 : Int32) σ (fun r39 g40 =>
            Qp r39 g40))) ∧ (r35 = 0 →
        zq8_no (-2 : Int32) σ (fun r41 g42 =>
          Qp r41 g42)))) ∧ (¬ (v1 ≤ (50 : Int32)) →
    zq8_no (-6 : Int32) σ (fun r43 g44 =>
      Qp r43 g44))) ∧ (¬ ((1 : Int32) ≤ v1) →
  zq8_no (-4 : Int32) σ (fun r45 g46 =>
    Qp r45 g46))
def zq8_isList (v0 : Int32) (Qp : Int32 → Prop) : Prop :=
zq8_in (v0.toInt64) (0 : Int64) (2 : Int64) (fun r2 =>
  (r2 = 0 ∨ r2 = 1) ∧
  Qp r2 )
def zq8_list_42 (v1 : Int32) (v3 : Int32) (σ : zz_St) (Qp : Int32 → zz_St → Prop) : Prop :=
 ∃ (I42 : Int32 → zz_St → Prop) (M42 : Int32 → zz_St → Nat), I42 v3 σ ∧ ∀ (v3 : Int32) (σ : zz_St), I42 v3 σ →
(((40 : Int32) ≤ v3) →
  Qp (1 : Int32) σ) ∧ (¬ ((40 : Int32) ≤ v3) →
  vp_in (((40 : Int32) * v1) + v3) 120 ∧
  ∀ g13 : zz_St, g13 = zz_A σ 37 (upd ((σ).2.1 37) (((40 : Int32) * v1) + v3).toNatClampNeg (0 : Int32)) →
  I42 (v3 + (1 : Int32)) g13 ∧ M42 (v3 + (1 : Int32)) g13 < M42 v3 σ)
def zq8_list (v1 : Int32) (v2 : Int32) (σ : zz_St) (Qp : Int32 → zz_St → Prop) : Prop :=
zq8_isList v1 (fun r14 =>
  ((¬ r14 = 0) →
    ((v2 ≤ (40 : Int32)) →
      ((0 ≤ v2) →
        vp_in v1 3 ∧
        ∀ g18 : zz_St, g18 = zz_A σ 36 (upd ((σ).2.1 36) v1.toNatClampNeg v2) →
        zq8_list_42 v1 (0 : Int32) g18 Qp) ∧ (¬ (0 ≤ v2) →
        Qp (-14 : Int32) σ)) ∧ (¬ (v2 ≤ (40 : Int32)) →
      zq8_no (-6 : Int32) σ (fun r19 g20 =>
        Qp r19 g20))) ∧ (r14 = 0 →
    zq8_no (-1 : Int32) σ (fun r21 g22 =>
      Qp r21 g22)))
def zq8_put (v1 : Int32) (v2 : Int32) (v3 : Int32) (σ : zz_St) (Qp : Int32 → zz_St → Prop) : Prop :=
zq8_isList v1 (fun r9 =>
  ((¬ r9 = 0) →
    vp_in v1 3 ∧
    ((0 ≤ ((σ).2.1 36 v1.toNatClampNeg)) →
      vp_in v1 3 ∧
      zq8_in (v2.toInt64) (0 : Int64) ((((σ).2.1 36 v1.toNatClampNeg) - (1 : Int32)).toInt64) (fun r12 =>
        ((¬ r12 = 0) →
          vp_in (((40 : Int32) * v1) + v2) 120 ∧
          ∀ g14 : zz_St, g14 = zz_A σ 37 (upd ((σ).2.1 37) (((40 : Int32) * v1) + v2).toNatClampNeg v3) →
          Qp (1 : Int32) g14) ∧ (r12 = 0 →
          Qp (-13 : Int32) σ))) ∧ (¬ (0 ≤ ((σ).2.1 36 v1.toNatClampNeg)) →
      Qp (-11 : Int32) σ)) ∧ (r9 = 0 →
    zq8_no (-1 : Int32) σ (fun r15 g16 =>
      Qp r15 g16)))
def zq8_look (v1 : Int32) (v2 : Int32) (σ : zz_St) (Qp : Int64 → zz_St → Prop) : Prop :=
zq8_isList v1 (fun r12 =>
  ((¬ r12 = 0) →
    vp_in v1 3 ∧
    ((0 ≤ ((σ).2.1 36 v1.toNatClampNeg)) →
      vp_in v1 3 ∧
      zq8_in (v2.toInt64) (0 : Int64) ((((σ).2.1 36 v1.toNatClampNeg) - (1 : Int32)).toInt64) (fun r15 =>
        ((r15 = 0) →
          zq8_longNo (-13 : Int32) σ (fun r17 g18 =>
            Qp r17 g18)) ∧ (¬ (r15 = 0) →
          vp_in (((40 : Int32) * v1) + v2) 120 ∧
          Qp (((σ).2.1 37 (((40 : Int32) * v1) + v2).toNatClampNeg).toInt64) σ))) ∧ (¬ (0 ≤ ((σ).2.1 36 v1.toNatClampNeg)) →
      zq8_longNo (-11 : Int32) σ (fun r19 g20 =>
        Qp r19 g20))) ∧ (r12 = 0 →
    zq8_longNo (-1 : Int32) σ (fun r21 g22 =>
      Qp r21 g22)))
def zq8_lays_34 (v1 : Int32) (v2 : Int32) (v3 : Int32) (σ : zz_St) (Qp : Int32 → zz_St → Prop) : Prop :=
 ∃ (I34 : Int32 → zz_St → Prop) (M34 : Int32 → zz_St → Nat), I34 v3 σ ∧ ∀ (v3 : Int32) (σ : zz_St), I34 v3 σ →
zq8_tileMany  σ (fun r12 =>
  ((r12 ≤ v3) →
    zq8_tileMany  σ (fun r14 =>
      Qp r14 σ)) ∧ (¬ (r12 ≤ v3) →
    vp_in v1 3 ∧
    ((v2 < (((σ).2.1 36 v1.toNatClampNeg) - v3)) →
      vp_in v3 36 ∧
      vp_in ((((40 : Int32) * v1) + v2) + v3) 120 ∧
      ∀ g16 : zz_St, g16 = zz_A σ 37 (upd ((σ).2.1 37) ((((40 : Int32) * v1) + v2) + v3).toNatClampNeg ((σ).2.1 5 v3.toNatClampNeg)) →
      I34 (v3 + (1 : Int32)) g16 ∧ M34 (v3 + (1 : Int32)) g16 < M34 v3 σ) ∧ (¬ (v2 < (((σ).2.1 36 v1.toNatClampNeg) - v3)) →
      Qp (-13 : Int32) σ)))
def zq8_lays (v1 : Int32) (v2 : Int32) (σ : zz_St) (Qp : Int32 → zz_St → Prop) : Prop :=
zq8_isList v1 (fun r17 =>
  ((¬ r17 = 0) →
    vp_in v1 3 ∧
    ((0 ≤ ((σ).2.1 36 v1.toNatClampNeg)) →
      ((0 ≤ v2) →
        zq8_lays_34 v1 v2 (0 : Int32) σ Qp) ∧ (¬ (0 ≤ v2) →
        Qp (-13 : Int32) σ)) ∧ (¬ (0 ≤ ((σ).2.1 36 v1.toNatClampNeg)) →
      Qp (-11 : Int32) σ)) ∧ (r17 = 0 →
    zq8_no (-1 : Int32) σ (fun r21 g22 =>
      Qp r21 g22)))
def zq8_tells_27 (v1 : Int32) (v2 : Int32) (σ : zz_St) (Qp : Int32 → zz_St → Prop) : Prop :=
 ∃ (I27 : Int32 → Prop) (M27 : Int32 → Nat), I27 v2 ∧ ∀ (v2 : Int32), I27 v2 →
vp_in v1 3 ∧
((((σ).2.1 36 v1.toNatClampNeg) ≤ v2) →
  Qp (-9 : Int32) σ) ∧ (¬ (((σ).2.1 36 v1.toNatClampNeg) ≤ v2) →
  zq8_isTile v2 σ (fun r11 =>
    ((r11 = 0) →
      Qp v2 σ) ∧ (¬ (r11 = 0) →
      vp_in (((40 : Int32) * v1) + v2) 120 ∧
      vp_in v2 36 ∧
      ((((σ).2.1 37 (((40 : Int32) * v1) + v2).toNatClampNeg) = ((σ).2.1 5 v2.toNatClampNeg)) →
        I27 (v2 + (1 : Int32)) ∧ M27 (v2 + (1 : Int32)) < M27 v2) ∧ (¬ (((σ).2.1 37 (((40 : Int32) * v1) + v2).toNatClampNeg) = ((σ).2.1 5 v2.toNatClampNeg)) →
        Qp v2 σ))))
def zq8_tells (v1 : Int32) (σ : zz_St) (Qp : Int32 → zz_St → Prop) : Prop :=
zq8_isList v1 (fun r14 =>
  ((¬ r14 = 0) →
    vp_in v1 3 ∧
    ((0 ≤ ((σ).2.1 36 v1.toNatClampNeg)) →
      zq8_tells_27 v1 (0 : Int32) σ Qp) ∧ (¬ (0 ≤ ((σ).2.1 36 v1.toNatClampNeg)) →
      Qp (-11 : Int32) σ)) ∧ (r14 = 0 →
    zq8_no (-1 : Int32) σ (fun r17 g18 =>
      Qp r17 g18)))
def zq8_isRack (v0 : Int32) (Qp : Int32 → Prop) : Prop :=
zq8_in (v0.toInt64) (0 : Int64) (2 : Int64) (fun r2 =>
  (r2 = 0 ∨ r2 = 1) ∧
  Qp r2 )
def zq8_rack_69 (v1 : Int32) (v4 : Int32) (σ : zz_St) (Qp : Int32 → zz_St → Prop) : Prop :=
 ∃ (I69 : Int32 → zz_St → Prop) (M69 : Int32 → zz_St → Nat), I69 v4 σ ∧ ∀ (v4 : Int32) (σ : zz_St), I69 v4 σ →
(((9 : Int32) ≤ v4) →
  Qp (1 : Int32) σ) ∧ (¬ ((9 : Int32) ≤ v4) →
  vp_in (((9 : Int32) * v1) + v4) 27 ∧
  ∀ g18 : zz_St, g18 = zz_A σ 40 (upd ((σ).2.1 40) (((9 : Int32) * v1) + v4).toNatClampNeg (-1 : Int32)) →
  I69 (v4 + (1 : Int32)) g18 ∧ M69 (v4 + (1 : Int32)) g18 < M69 v4 σ)
def zq8_rack (v1 : Int32) (v2 : Int32) (v3 : Int32) (σ : zz_St) (Qp : Int32 → zz_St → Prop) : Prop :=
zq8_isRack v1 (fun r19 =>
  ((¬ r19 = 0) →
    zq8_in (v2.toInt64) (0 : Int64) (5 : Int64) (fun r21 =>
      ((¬ r21 = 0) →
        ((v3 ≤ (9 : Int32)) →
          ((0 ≤ v3) →
            vp_in v1 3 ∧
            ∀ g25 : zz_St, g25 = zz_A σ 38 (upd ((σ).2.1 38) v1.toNatClampNeg v3) →
            vp_in v1 3 ∧
            ∀ g26 : zz_St, g26 = zz_A g25 39 (upd (g25.2.1 39) v1.toNatClampNeg v2) →
            zq8_rack_69 v1 (0 : Int32) g26 Qp) ∧ (¬ (0 ≤ v3) →
            Qp (-14 : Int32) σ)) ∧ (¬ (v3 ≤ (9 : Int32)) →
          zq8_no (-6 : Int32) σ (fun r27 g28 =>
            Qp r27 g28))) ∧ (r21 = 0 →
        zq8_no (-2 : Int32) σ (fun r29 g30 =>
          Qp r29 g30)))) ∧ (r19 = 0 →
    zq8_no (-1 : Int32) σ (fun r31 g32 =>
      Qp r31 g32)))
def zq8_racks_153 (v1 : Int32) (v2 : Int32) (v3 : Int32) (s0 : Int32) (s1 : Int32) (σ : zz_St) (Qp : Int32 → zz_St → Prop) : Prop :=
vp_in s1 27 ∧
∀ g26 : zz_St, g26 = zz_A σ 40 (upd ((σ).2.1 40) s1.toNatClampNeg s0) →
((¬ v3 = (1 : Int32)) →
  vp_in (((9 : Int32) * v1) + v2) 27 ∧
  ∀ g28 : zz_St, g28 = zz_A g26 41 (upd (g26.2.1 41) (((9 : Int32) * v1) + v2).toNatClampNeg (0 : Int32)) →
  Qp (1 : Int32) g28) ∧ (v3 = (1 : Int32) →
  zq8_below  g26 (fun r29 =>
    vp_in (((9 : Int32) * v1) + v2) 27 ∧
    ∀ g30 : zz_St, g30 = zz_A g26 41 (upd (g26.2.1 41) (((9 : Int32) * v1) + v2).toNatClampNeg r29) →
    Qp (1 : Int32) g30))
def zq8_racks_130 (v1 : Int32) (v2 : Int32) (v3 : Int32) (σ : zz_St) (Qp : Int32 → zz_St → Prop) : Prop :=
((¬ v3 = (1 : Int32)) →
  zq8_racks_153 v1 v2 v3 (-1 : Int32) (((9 : Int32) * v1) + v2) σ Qp) ∧ (v3 = (1 : Int32) →
  zq8_racks_153 v1 v2 v3 ((σ).1 7) (((9 : Int32) * v1) + v2) σ Qp)
def zq8_racks_49 (v1 : Int32) (v2 : Int32) (v3 : Int32) (σ : zz_St) (Qp : Int32 → zz_St → Prop) : Prop :=
vp_in v1 3 ∧
((0 ≤ ((σ).2.1 38 v1.toNatClampNeg)) →
  vp_in v1 3 ∧
  zq8_in (v2.toInt64) (0 : Int64) ((((σ).2.1 38 v1.toNatClampNeg) - (1 : Int32)).toInt64) (fun r33 =>
    ((¬ r33 = 0) →
      ((¬ v3 = (1 : Int32)) →
        zq8_racks_130 v1 v2 v3 σ Qp) ∧ (v3 = (1 : Int32) →
        vp_in v1 3 ∧
        ((((σ).1 7) = ((σ).2.1 39 v1.toNatClampNeg)) →
          zq8_racks_130 v1 v2 v3 σ Qp) ∧ (¬ (((σ).1 7) = ((σ).2.1 39 v1.toNatClampNeg)) →
          vp_in v1 3 ∧
          (((((σ).2.1 39 v1.toNatClampNeg) - ((σ).2.1 39 v1.toNatClampNeg) / (2 : Int32) * (2 : Int32)) = (1 : Int32)) →
            Qp (-16 : Int32) σ) ∧ (¬ ((((σ).2.1 39 v1.toNatClampNeg) - ((σ).2.1 39 v1.toNatClampNeg) / (2 : Int32) * (2 : Int32)) = (1 : Int32)) →
            vp_in v1 3 ∧
            ((((σ).1 7) = (((σ).2.1 39 v1.toNatClampNeg) + (1 : Int32))) →
              zq8_racks_130 v1 v2 v3 σ Qp) ∧ (¬ (((σ).1 7) = (((σ).2.1 39 v1.toNatClampNeg) + (1 : Int32))) →
              Qp (-16 : Int32) σ))))) ∧ (r33 = 0 →
      Qp (-13 : Int32) σ))) ∧ (¬ (0 ≤ ((σ).2.1 38 v1.toNatClampNeg)) →
  Qp (-11 : Int32) σ)
def zq8_racks (v1 : Int32) (v2 : Int32) (v3 : Int32) (σ : zz_St) (Qp : Int32 → zz_St → Prop) : Prop :=
zq8_isRack v1 (fun r39 =>
  ((¬ r39 = 0) →
    zq8_in (v3.toInt64) (0 : Int64) (1 : Int64) (fun r41 =>
      ((¬ r41 = 0) →
        ((¬ v3 = (1 : Int32)) →
          zq8_racks_49 v1 v2 v3 σ Qp) ∧ (v3 = (1 : Int32) →
          ((¬ ((σ).1 9) = 0) →
            zq8_racks_49 v1 v2 v3 σ Qp) ∧ (((σ).1 9) = 0 →
            zq8_no (-3 : Int32) σ (fun r45 g46 =>
              Qp r45 g46)))) ∧ (r41 = 0 →
        zq8_no (-2 : Int32) σ (fun r47 g48 =>
          Qp r47 g48)))) ∧ (r39 = 0 →
    zq8_no (-1 : Int32) σ (fun r49 g50 =>
      Qp r49 g50)))
def zq8_racked (v1 : Int32) (v2 : Int32) (v3 : Int32) (σ : zz_St) (Qp : Int32 → zz_St → Prop) : Prop :=
zq8_isRack v1 (fun r15 =>
  ((¬ r15 = 0) →
    zq8_in (v3.toInt64) (0 : Int64) (1 : Int64) (fun r17 =>
      ((¬ r17 = 0) →
        vp_in v1 3 ∧
        ((0 ≤ ((σ).2.1 38 v1.toNatClampNeg)) →
          vp_in v1 3 ∧
          zq8_in (v2.toInt64) (0 : Int64) ((((σ).2.1 38 v1.toNatClampNeg) - (1 : Int32)).toInt64) (fun r20 =>
            ((¬ r20 = 0) →
              ∀ x22 : Int32, x22 = ((9 : Int32) * v1) + v2 →
              vp_in x22 27 ∧
              ((0 ≤ ((σ).2.1 40 x22.toNatClampNeg)) →
                ((¬ v3 = 0) →
                  vp_in x22 27 ∧
                  Qp ((σ).2.1 41 x22.toNatClampNeg) σ) ∧ (v3 = 0 →
                  vp_in x22 27 ∧
                  Qp ((σ).2.1 40 x22.toNatClampNeg) σ)) ∧ (¬ (0 ≤ ((σ).2.1 40 x22.toNatClampNeg)) →
                Qp (-9 : Int32) σ)) ∧ (r20 = 0 →
              Qp (-13 : Int32) σ))) ∧ (¬ (0 ≤ ((σ).2.1 38 v1.toNatClampNeg)) →
          Qp (-11 : Int32) σ)) ∧ (r17 = 0 →
        zq8_no (-2 : Int32) σ (fun r25 g26 =>
          Qp r25 g26)))) ∧ (r15 = 0 →
    zq8_no (-1 : Int32) σ (fun r27 g28 =>
      Qp r27 g28)))
def zq8_like_14  (σ : zz_St) (Qp : Int32 → zz_St → Prop) : Prop :=
zq8_no (-1 : Int32) σ (fun r13 g14 =>
  Qp r13 g14)
def zq8_like_58 (v1 : Int32) (v2 : Int32) (v3 : Int32) (σ : zz_St) (Qp : Int32 → zz_St → Prop) : Prop :=
 ∃ (I58 : Int32 → zz_St → Prop) (M58 : Int32 → zz_St → Nat), I58 v3 σ ∧ ∀ (v3 : Int32) (σ : zz_St), I58 v3 σ →
(((9 : Int32) ≤ v3) →
  vp_in v1 3 ∧
  Qp ((σ).2.1 38 v1.toNatClampNeg) σ) ∧ (¬ ((9 : Int32) ≤ v3) →
  vp_in (((9 : Int32) * v2) + v3) 27 ∧
  vp_in (((9 : Int32) * v1) + v3) 27 ∧
  ∀ g16 : zz_St, g16 = zz_A σ 40 (upd ((σ).2.1 40) (((9 : Int32) * v1) + v3).toNatClampNeg ((σ).2.1 40 (((9 : Int32) * v2) + v3).toNatClampNeg)) →
  vp_in (((9 : Int32) * v2) + v3) 27 ∧
  vp_in (((9 : Int32) * v1) + v3) 27 ∧
  ∀ g17 : zz_St, g17 = zz_A g16 41 (upd (g16.2.1 41) (((9 : Int32) * v1) + v3).toNatClampNeg (g16.2.1 41 (((9 : Int32) * v2) + v3).toNatClampNeg)) →
  I58 (v3 + (1 : Int32)) g17 ∧ M58 (v3 + (1 : Int32)) g17 < M58 v3 σ)
def zq8_like (v1 : Int32) (v2 : Int32) (σ : zz_St) (Qp : Int32 → zz_St → Prop) : Prop :=
zq8_isRack v1 (fun r18 =>
  ((r18 = 0) →
    zq8_like_14 σ Qp) ∧ (¬ (r18 = 0) →
    zq8_isRack v2 (fun r20 =>
      ((¬ r20 = 0) →
        vp_in v2 3 ∧
        ((0 ≤ ((σ).2.1 38 v2.toNatClampNeg)) →
          vp_in v2 3 ∧
          vp_in v1 3 ∧
          ∀ g23 : zz_St, g23 = zz_A σ 38 (upd ((σ).2.1 38) v1.toNatClampNeg ((σ).2.1 38 v2.toNatClampNeg)) →
          vp_in v2 3 ∧
          vp_in v1 3 ∧
          ∀ g24 : zz_St, g24 = zz_A g23 39 (upd (g23.2.1 39) v1.toNatClampNeg (g23.2.1 39 v2.toNatClampNeg)) →
          zq8_like_58 v1 v2 (0 : Int32) g24 Qp) ∧ (¬ (0 ≤ ((σ).2.1 38 v2.toNatClampNeg)) →
          Qp (-11 : Int32) σ)) ∧ (r20 = 0 →
        zq8_like_14 σ Qp))))
def zq8_image_91 (v1 : Int32) (σ : zz_St) (Qp : Int32 → zz_St → Prop) : Prop :=
 ∃ (I91 : Int32 → zz_St → Prop) (M91 : Int32 → zz_St → Nat), I91 v1 σ ∧ ∀ (v1 : Int32) (σ : zz_St), I91 v1 σ →
(((36 : Int32) ≤ v1) →
  ((((σ).1 9) = 0) →
    Qp (-9 : Int32) σ) ∧ (¬ (((σ).1 9) = 0) →
    Qp ((σ).1 8) σ)) ∧ (¬ ((36 : Int32) ≤ v1) →
  vp_in v1 36 ∧
  vp_in v1 36 ∧
  ∀ g16 : zz_St, g16 = zz_A σ 46 (upd ((σ).2.1 46) v1.toNatClampNeg ((σ).2.1 4 v1.toNatClampNeg)) →
  vp_in v1 36 ∧
  vp_in v1 36 ∧
  ∀ g17 : zz_St, g17 = zz_A g16 47 (upd (g16.2.1 47) v1.toNatClampNeg (g16.2.1 5 v1.toNatClampNeg)) →
  I91 (v1 + (1 : Int32)) g17 ∧ M91 (v1 + (1 : Int32)) g17 < M91 v1 σ)
def zq8_image_65 (v1 : Int32) (σ : zz_St) (Qp : Int32 → zz_St → Prop) : Prop :=
 ∃ (I65 : Int32 → zz_St → Prop) (M65 : Int32 → zz_St → Nat), I65 v1 σ ∧ ∀ (v1 : Int32) (σ : zz_St), I65 v1 σ →
(((6 : Int32) ≤ v1) →
  zq8_image_91 (0 : Int32) σ Qp) ∧ (¬ ((6 : Int32) ≤ v1) →
  vp_in v1 6 ∧
  vp_in v1 6 ∧
  ∀ g19 : zz_St, g19 = zz_A σ 45 (upd ((σ).2.1 45) v1.toNatClampNeg ((σ).2.1 10 v1.toNatClampNeg)) →
  I65 (v1 + (1 : Int32)) g19 ∧ M65 (v1 + (1 : Int32)) g19 < M65 v1 σ)
def zq8_image  (σ : zz_St) (Qp : Int32 → zz_St → Prop) : Prop :=
∀ g20 : zz_St, g20 = zz_I σ 42 (1 : Int32) →
((g20.1 9) = 0 ∨ (g20.1 9) = 1) ∧
∀ g21 : zz_St, g21 = zz_I g20 43 (g20.1 9) →
vp_in (0 : Int32) 5 ∧
∀ g22 : zz_St, g22 = zz_A g21 44 (upd (g21.2.1 44) (0 : Int32).toNatClampNeg (g21.1 2)) →
vp_in (1 : Int32) 5 ∧
∀ g23 : zz_St, g23 = zz_A g22 44 (upd (g22.2.1 44) (1 : Int32).toNatClampNeg (g22.1 3)) →
vp_in (2 : Int32) 5 ∧
∀ g24 : zz_St, g24 = zz_A g23 44 (upd (g23.2.1 44) (2 : Int32).toNatClampNeg (g23.1 7)) →
vp_in (3 : Int32) 5 ∧
∀ g25 : zz_St, g25 = zz_A g24 44 (upd (g24.2.1 44) (3 : Int32).toNatClampNeg (g24.1 8)) →
vp_in (4 : Int32) 5 ∧
∀ g26 : zz_St, g26 = zz_A g25 44 (upd (g25.2.1 44) (4 : Int32).toNatClampNeg (g25.1 6)) →
zq8_image_65 (0 : Int32) g26 Qp
def zq8_on_100 (v1 : Int32) (σ : zz_St) (Qp : Int32 → zz_St → Prop) : Prop :=
 ∃ (I100 : Int32 → zz_St → Prop) (M100 : Int32 → zz_St → Nat), I100 v1 σ ∧ ∀ (v1 : Int32) (σ : zz_St), I100 v1 σ →
(((36 : Int32) ≤ v1) →
  ∀ g18 : zz_St, g18 = zz_I σ 19 (0 : Int32) →
  (((g18.1 9) = 0) →
    Qp (-9 : Int32) g18) ∧ (¬ ((g18.1 9) = 0) →
    Qp (g18.1 8) g18)) ∧ (¬ ((36 : Int32) ≤ v1) →
  vp_in v1 36 ∧
  vp_in v1 36 ∧
  ∀ g20 : zz_St, g20 = zz_A σ 4 (upd ((σ).2.1 4) v1.toNatClampNeg ((σ).2.1 46 v1.toNatClampNeg)) →
  vp_in v1 36 ∧
  vp_in v1 36 ∧
  ∀ g21 : zz_St, g21 = zz_A g20 5 (upd (g20.2.1 5) v1.toNatClampNeg (g20.2.1 47 v1.toNatClampNeg)) →
  I100 (v1 + (1 : Int32)) g21 ∧ M100 (v1 + (1 : Int32)) g21 < M100 v1 σ)
def zq8_on_74 (v1 : Int32) (σ : zz_St) (Qp : Int32 → zz_St → Prop) : Prop :=
 ∃ (I74 : Int32 → zz_St → Prop) (M74 : Int32 → zz_St → Nat), I74 v1 σ ∧ ∀ (v1 : Int32) (σ : zz_St), I74 v1 σ →
(((6 : Int32) ≤ v1) →
  zq8_on_100 (0 : Int32) σ Qp) ∧ (¬ ((6 : Int32) ≤ v1) →
  vp_in v1 6 ∧
  vp_in v1 6 ∧
  ∀ g23 : zz_St, g23 = zz_A σ 10 (upd ((σ).2.1 10) v1.toNatClampNeg ((σ).2.1 45 v1.toNatClampNeg)) →
  I74 (v1 + (1 : Int32)) g23 ∧ M74 (v1 + (1 : Int32)) g23 < M74 v1 σ)
def zq8_on  (σ : zz_St) (Qp : Int32 → zz_St → Prop) : Prop :=
((¬ ((σ).1 42) = 0) →
  (((σ).1 43) = 0 ∨ ((σ).1 43) = 1) ∧
  ∀ g25 : zz_St, g25 = zz_I σ 9 ((σ).1 43) →
  vp_in (0 : Int32) 5 ∧
  ∀ g26 : zz_St, g26 = zz_I g25 2 (g25.2.1 44 (0 : Int32).toNatClampNeg) →
  vp_in (1 : Int32) 5 ∧
  ∀ g27 : zz_St, g27 = zz_I g26 3 (g26.2.1 44 (1 : Int32).toNatClampNeg) →
  vp_in (2 : Int32) 5 ∧
  ∀ g28 : zz_St, g28 = zz_I g27 7 (g27.2.1 44 (2 : Int32).toNatClampNeg) →
  vp_in (3 : Int32) 5 ∧
  ∀ g29 : zz_St, g29 = zz_I g28 8 (g28.2.1 44 (3 : Int32).toNatClampNeg) →
  vp_in (4 : Int32) 5 ∧
  ∀ g30 : zz_St, g30 = zz_I g29 6 (g29.2.1 44 (4 : Int32).toNatClampNeg) →
  zq8_on_74 (0 : Int32) g30 Qp) ∧ (((σ).1 42) = 0 →
  zq8_no (-3 : Int32) σ (fun r31 g32 =>
    Qp r31 g32))
def zq8_tilesThatAre_28 (v1 : Int32) (v3 : Int32) (s0 : Int32) (s1 : Int32) (σ : zz_St) (Qp : Int32 → Prop) (B4 : Int32 → Int32 → Prop) : Prop :=
∀ x5 : Int32, x5 = s1 + s0 →
B4 x5 (v3 + (1 : Int32))
def zq8_tilesThatAre_4 (v1 : Int32) (v2 : Int32) (v3 : Int32) (σ : zz_St) (Qp : Int32 → Prop) : Prop :=
 ∃ (I4 : Int32 → Int32 → Prop) (M4 : Int32 → Int32 → Nat), I4 v2 v3 ∧ ∀ (v2 : Int32) (v3 : Int32), I4 v2 v3 →
zq8_tileMany  σ (fun r6 =>
  ((r6 ≤ v3) →
    Qp v2 ) ∧ (¬ (r6 ≤ v3) →
    vp_in v3 36 ∧
    ((¬ ((σ).2.1 4 v3.toNatClampNeg) = v1) →
      zq8_tilesThatAre_28 v1 v3 (0 : Int32) v2 σ Qp (fun v2' v3' => I4 v2' v3' ∧ M4 v2' v3' < M4 v2 v3)) ∧ (((σ).2.1 4 v3.toNatClampNeg) = v1 →
      zq8_tilesThatAre_28 v1 v3 (1 : Int32) v2 σ Qp (fun v2' v3' => I4 v2' v3' ∧ M4 v2' v3' < M4 v2 v3))))
def zq8_tilesThatAre (v1 : Int32) (σ : zz_St) (Qp : Int32 → Prop) : Prop :=
zq8_tilesThatAre_4 v1 (0 : Int32) (0 : Int32) σ Qp
def zq8_count (v1 : Int32) (σ : zz_St) (Qp : Int32 → Prop) : Prop :=
(v1 = (0 : Int32) →
  Qp ((σ).1 2) ) ∧ (¬ v1 = (0 : Int32) →
(v1 = (1 : Int32) →
  Qp ((σ).1 3) ) ∧ (¬ v1 = (1 : Int32) →
(v1 = (2 : Int32) →
  zq8_tilesThatAre (1 : Int32) σ (fun r6 =>
    Qp r6 )) ∧ (¬ v1 = (2 : Int32) →
(v1 = (3 : Int32) →
  zq8_tilesThatAre (2 : Int32) σ (fun r7 =>
    Qp r7 )) ∧ (¬ v1 = (3 : Int32) →
(v1 = (4 : Int32) →
  zq8_printed  σ (fun r8 =>
    Qp r8 )) ∧ (¬ v1 = (4 : Int32) →
(v1 = (5 : Int32) →
  Qp ((σ).1 6) ) ∧ (¬ v1 = (5 : Int32) →
(v1 = (6 : Int32) →
  Qp ((σ).1 15) ) ∧ (¬ v1 = (6 : Int32) →
(v1 = (7 : Int32) →
  Qp ((σ).1 19) ) ∧ (¬ v1 = (7 : Int32) →
(v1 = (8 : Int32) →
  Qp ((σ).1 7) ) ∧ (¬ v1 = (8 : Int32) →
  zq8_in (v1.toInt64) (11 : Int64) (16 : Int64) (fun r9 =>
    ((r9 = 0) →
      Qp (-9 : Int32) ) ∧ (¬ (r9 = 0) →
      vp_in (v1 - (10 : Int32)) 7 ∧
      Qp ((σ).2.1 1 (v1 - (10 : Int32)).toNatClampNeg) )))))))))))
