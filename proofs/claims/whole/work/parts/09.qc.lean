def zq0_forget  (σ : zz_St) (Qp : zz_St → Prop) : Prop :=
∀ g2 : zz_St, g2 = zz_I σ 15 (0 : Int32) →
Qp g2
def zq0_keep  (σ : zz_St) (Qp : zz_St → Prop) : Prop :=
vp_in ((σ).1 14) 20 ∧
∀ g5 : zz_St, g5 = zz_A σ 26 (upd ((σ).2.1 26) ((σ).1 14).toNatClampNeg ((σ).1 8)) →
(¬ (0 : Int32) < 0) ∧ (¬ ((g5.1 14) * (36 : Int32)) < 0) ∧ (¬ (36 : Int32) < 0) ∧ ((0 : Int32).toNatClampNeg + (36 : Int32).toNatClampNeg ≤ 36) ∧ (((g5.1 14) * (36 : Int32)).toNatClampNeg + (36 : Int32).toNatClampNeg ≤ 720) ∧
∀ g6 : zz_St, g6 = zz_A g5 27 (va_cpy (g5.2.1 16) (g5.2.1 27) (0 : Int32).toNatClampNeg ((g5.1 14) * (36 : Int32)).toNatClampNeg (36 : Int32).toNatClampNeg) →
∀ g7 : zz_St, g7 = zz_I g6 14 (((g6.1 14) + (1 : Int32)) - ((g6.1 14) + (1 : Int32)) / (20 : Int32) * (20 : Int32)) →
∀ g8 : zz_St, g8 = zz_I g7 15 (if (20 : Int32) < ((g7.1 15) + (1 : Int32)) then (20 : Int32) else ((g7.1 15) + (1 : Int32))) →
Qp g8
def zq0_bringBack  (σ : zz_St) (Qp : zz_St → Prop) : Prop :=
∀ g5 : zz_St, g5 = zz_I σ 14 (((((σ).1 14) + (20 : Int32)) - (1 : Int32)) - ((((σ).1 14) + (20 : Int32)) - (1 : Int32)) / (20 : Int32) * (20 : Int32)) →
vp_in (g5.1 14) 20 ∧
∀ g6 : zz_St, g6 = zz_I g5 8 (g5.2.1 26 (g5.1 14).toNatClampNeg) →
(¬ ((g6.1 14) * (36 : Int32)) < 0) ∧ (¬ (0 : Int32) < 0) ∧ (¬ (36 : Int32) < 0) ∧ (((g6.1 14) * (36 : Int32)).toNatClampNeg + (36 : Int32).toNatClampNeg ≤ 720) ∧ ((0 : Int32).toNatClampNeg + (36 : Int32).toNatClampNeg ≤ 36) ∧
∀ g7 : zz_St, g7 = zz_A g6 16 (va_cpy (g6.2.1 27) (g6.2.1 16) ((g6.1 14) * (36 : Int32)).toNatClampNeg (0 : Int32).toNatClampNeg (36 : Int32).toNatClampNeg) →
∀ g8 : zz_St, g8 = zz_I g7 15 ((g7.1 15) - (1 : Int32)) →
Qp g8
def zq1_isFull  (σ : zz_St) (Qp : Int32 → Prop) : Prop :=
((((σ).1 12) < (72 : Int32)) →
  Qp (0 : Int32) ) ∧ (¬ (((σ).1 12) < (72 : Int32)) →
  Qp (1 : Int32) )
def zq1_append (v1 : Int32) (σ : zz_St) (Qp : zz_St → Prop) : Prop :=
vp_in ((σ).1 12) 72 ∧
∀ g3 : zz_St, g3 = zz_A σ 18 (upd ((σ).2.1 18) ((σ).1 12).toNatClampNeg v1) →
∀ g4 : zz_St, g4 = zz_I g3 12 ((g3.1 12) + (1 : Int32)) →
Qp g4
def zq1_clear  (σ : zz_St) (Qp : zz_St → Prop) : Prop :=
∀ g2 : zz_St, g2 = zz_I σ 12 (0 : Int32) →
Qp g2
def zq1_tileAt (v1 : Int32) (σ : zz_St) (Qp : Int32 → Prop) : Prop :=
vp_in v1 72 ∧
∀ x2 : Int32, x2 = (σ).2.1 18 v1.toNatClampNeg →
(x2 = (35 : Int32) →
  Qp (1 : Int32) ) ∧ (¬ x2 = (35 : Int32) →
(x2 = (46 : Int32) →
  Qp (0 : Int32) ) ∧ (¬ x2 = (46 : Int32) →
(x2 = (126 : Int32) →
  Qp (2 : Int32) ) ∧ (¬ x2 = (126 : Int32) →
  Qp (-1 : Int32) )))
def zq1_wayAt (v1 : Int32) (σ : zz_St) (Qp : Int32 → Prop) : Prop :=
vp_in v1 72 ∧
∀ x2 : Int32, x2 = (σ).2.1 18 v1.toNatClampNeg →
(x2 = (100 : Int32) →
  Qp (2 : Int32) ) ∧ (¬ x2 = (100 : Int32) →
(x2 = (108 : Int32) →
  Qp (3 : Int32) ) ∧ (¬ x2 = (108 : Int32) →
(x2 = (114 : Int32) →
  Qp (1 : Int32) ) ∧ (¬ x2 = (114 : Int32) →
(x2 = (117 : Int32) →
  Qp (0 : Int32) ) ∧ (¬ x2 = (117 : Int32) →
  Qp (-1 : Int32) ))))
def zq1_boardFault_113 (v1 : Int32) (v3 : Int32) (v4 : Int32) (s0 : Int32) (σ : zz_St) (Qp : Int32 → Prop) (B10 : Int32 → Int32 → Int32 → Int32 → Prop) : Prop :=
B10 v1 s0 v3 (v4 + (1 : Int32))
def zq1_boardFault_101 (v1 : Int32) (v2 : Int32) (v3 : Int32) (v4 : Int32) (v5 : Int32) (σ : zz_St) (Qp : Int32 → Prop) (B10 : Int32 → Int32 → Int32 → Int32 → Prop) : Prop :=
((v5 = 0) →
  zq1_boardFault_113 v1 v3 v4 (v2 + (1 : Int32)) σ Qp B10) ∧ (¬ (v5 = 0) →
  zq1_boardFault_113 v1 v3 v4 (0 : Int32) σ Qp B10)
def zq1_boardFault_91 (v1 : Int32) (v2 : Int32) (v3 : Int32) (v4 : Int32) (v5 : Int32) (σ : zz_St) (Qp : Int32 → Prop) (B10 : Int32 → Int32 → Int32 → Int32 → Prop) : Prop :=
((v5 = 0) →
  zq1_boardFault_101 v1 v2 v3 v4 v5 σ Qp B10) ∧ (¬ (v5 = 0) →
  zq1_boardFault_101 (v1 + (1 : Int32)) v2 v2 v4 v5 σ Qp B10)
def zq1_boardFault_70 (v1 : Int32) (v2 : Int32) (v3 : Int32) (v4 : Int32) (v5 : Int32) (s0 : Int32) (σ : zz_St) (Qp : Int32 → Prop) (B10 : Int32 → Int32 → Int32 → Int32 → Prop) : Prop :=
((v1 = (6 : Int32)) →
  Qp v4 ) ∧ (¬ (v1 = (6 : Int32)) →
  ((¬ v5 = 0) →
    zq1_boardFault_91 v1 v2 v3 v4 v5 σ Qp B10) ∧ (v5 = 0 →
    ((¬ s0 = 0) →
      zq1_boardFault_91 v1 v2 v3 v4 v5 σ Qp B10) ∧ (s0 = 0 →
      Qp v4 )))
def zq1_boardFault_69 (v1 : Int32) (v2 : Int32) (v3 : Int32) (v4 : Int32) (v5 : Int32) (σ : zz_St) (Qp : Int32 → Prop) (B10 : Int32 → Int32 → Int32 → Int32 → Prop) : Prop :=
zq1_boardFault_70 v1 v2 v3 v4 v5 (0 : Int32) σ Qp B10
def zq1_boardFault_49 (v1 : Int32) (v2 : Int32) (v3 : Int32) (v4 : Int32) (s0 : Int32) (σ : zz_St) (Qp : Int32 → Prop) (B10 : Int32 → Int32 → Int32 → Int32 → Prop) : Prop :=
zq1_tileAt v4 σ (fun r21 =>
  ((r21 < 0) →
    zq1_boardFault_69 v1 v2 v3 v4 s0 σ Qp B10) ∧ (¬ (r21 < 0) →
    ((v3 ≤ v2) →
      zq1_boardFault_69 v1 v2 v3 v4 s0 σ Qp B10) ∧ (¬ (v3 ≤ v2) →
      zq1_boardFault_70 v1 v2 v3 v4 s0 (1 : Int32) σ Qp B10)))
def zq1_boardFault_44 (v1 : Int32) (v2 : Int32) (v3 : Int32) (v4 : Int32) (σ : zz_St) (Qp : Int32 → Prop) (B10 : Int32 → Int32 → Int32 → Int32 → Prop) : Prop :=
zq1_boardFault_49 v1 v2 v3 v4 (1 : Int32) σ Qp B10
def zq1_boardFault_48 (v1 : Int32) (v2 : Int32) (v3 : Int32) (v4 : Int32) (σ : zz_St) (Qp : Int32 → Prop) (B10 : Int32 → Int32 → Int32 → Int32 → Prop) : Prop :=
zq1_boardFault_49 v1 v2 v3 v4 (0 : Int32) σ Qp B10
def zq1_boardFault_10 (v1 : Int32) (v2 : Int32) (v3 : Int32) (v4 : Int32) (σ : zz_St) (Qp : Int32 → Prop) : Prop :=
 ∃ (I10 : Int32 → Int32 → Int32 → Int32 → Prop) (M10 : Int32 → Int32 → Int32 → Int32 → Nat), I10 v1 v2 v3 v4 ∧ ∀ (v1 : Int32) (v2 : Int32) (v3 : Int32) (v4 : Int32), I10 v1 v2 v3 v4 →
((((σ).1 12) ≤ v4) →
  ((v1 = 0) →
    Qp ((σ).1 12) ) ∧ (¬ (v1 = 0) →
    ((v2 ≤ 0) →
      Qp (-1 : Int32) ) ∧ (¬ (v2 ≤ 0) →
      Qp ((σ).1 12) ))) ∧ (¬ (((σ).1 12) ≤ v4) →
  vp_in v4 72 ∧
  ((¬ ((σ).2.1 18 v4.toNatClampNeg) = (59 : Int32)) →
    zq1_boardFault_48 v1 v2 v3 v4 σ Qp (fun v1' v2' v3' v4' => I10 v1' v2' v3' v4' ∧ M10 v1' v2' v3' v4' < M10 v1 v2 v3 v4)) ∧ (((σ).2.1 18 v4.toNatClampNeg) = (59 : Int32) →
    ((v2 ≤ 0) →
      zq1_boardFault_48 v1 v2 v3 v4 σ Qp (fun v1' v2' v3' v4' => I10 v1' v2' v3' v4' ∧ M10 v1' v2' v3' v4' < M10 v1 v2 v3 v4)) ∧ (¬ (v2 ≤ 0) →
      ((v1 = 0) →
        zq1_boardFault_44 v1 v2 v3 v4 σ Qp (fun v1' v2' v3' v4' => I10 v1' v2' v3' v4' ∧ M10 v1' v2' v3' v4' < M10 v1 v2 v3 v4)) ∧ (¬ (v1 = 0) →
        ((¬ v2 = v3) →
          zq1_boardFault_48 v1 v2 v3 v4 σ Qp (fun v1' v2' v3' v4' => I10 v1' v2' v3' v4' ∧ M10 v1' v2' v3' v4' < M10 v1 v2 v3 v4)) ∧ (v2 = v3 →
          zq1_boardFault_44 v1 v2 v3 v4 σ Qp (fun v1' v2' v3' v4' => I10 v1' v2' v3' v4' ∧ M10 v1' v2' v3' v4' < M10 v1 v2 v3 v4))))))
def zq1_boardFault  (σ : zz_St) (Qp : Int32 → Prop) : Prop :=
zq1_boardFault_10 (0 : Int32) (0 : Int32) (6 : Int32) (0 : Int32) σ Qp
def zq2_isMissing (w : Nat) (σ : zz_St) (Qp : Int32 → Prop) : Prop :=
((0 ≤ ((σ).1 (28 + w))) →
  Qp (0 : Int32) ) ∧ (¬ (0 ≤ ((σ).1 (28 + w))) →
  Qp (1 : Int32) )
def zq2_begin (v1 : Int32) (v2 : Int32) (w : Nat) (σ : zz_St) (Qp : zz_St → Prop) : Prop :=
∀ f6 : Nat → Int32, (∀ k, k < 9 → f6 k = (-1 : Int32)) →
∀ g8 : zz_St, g8 = zz_A σ (37 + w) f6 →
∀ g9 : zz_St, g9 = zz_I g8 (25 + w) v1 →
∀ g10 : zz_St, g10 = zz_I g9 (28 + w) v2 →
Qp g10
def zq7_lackOf (v0 : Int32) (v1 : Int32) (Qp : Int32 → Prop) : Prop :=
((0 ≤ v0) →
  ((v1 < 0) →
    Qp (-13 : Int32) ) ∧ (¬ (v1 < 0) →
    ((v1 < v0) →
      Qp (0 : Int32) ) ∧ (¬ (v1 < v0) →
      Qp (-13 : Int32) ))) ∧ (¬ (0 ≤ v0) →
  Qp (-11 : Int32) )
def zq2_lackAt (v1 : Int32) (w : Nat) (σ : zz_St) (Qp : Int32 → Prop) : Prop :=
zq7_lackOf ((σ).1 (28 + w)) v1 (fun r2 =>
  Qp r2 )
def zq2_store (v1 : Int32) (v2 : Int32) (v3 : Int32) (w : Nat) (σ : zz_St) (Qp : zz_St → Prop) : Prop :=
vp_in v1 9 ∧
∀ g3 : zz_St, g3 = zz_A σ (37 + w) (upd ((σ).2.1 (37 + w)) v1.toNatClampNeg v2) →
vp_in v1 9 ∧
∀ g4 : zz_St, g4 = zz_A g3 (40 + w) (upd (g3.2.1 (40 + w)) v1.toNatClampNeg v3) →
Qp g4
def zq2_empty (v1 : Int32) (w : Nat) (σ : zz_St) (Qp : zz_St → Prop) : Prop :=
vp_in v1 9 ∧
∀ g2 : zz_St, g2 = zz_A σ (37 + w) (upd ((σ).2.1 (37 + w)) v1.toNatClampNeg (-1 : Int32)) →
Qp g2
def zq2_isEmptyAt (v1 : Int32) (w : Nat) (σ : zz_St) (Qp : Int32 → Prop) : Prop :=
vp_in v1 9 ∧
((¬ ((σ).2.1 (37 + w) v1.toNatClampNeg) = (-1 : Int32)) →
  Qp (0 : Int32) ) ∧ (((σ).2.1 (37 + w) v1.toNatClampNeg) = (-1 : Int32) →
  Qp (1 : Int32) )
def zq2_copyFrom (v1 : Nat) (w : Nat) (σ : zz_St) (Qp : zz_St → Prop) : Prop :=
(¬ (0 : Int32) < 0) ∧ (¬ (0 : Int32) < 0) ∧ (¬ (9 : Int32) < 0) ∧ ((0 : Int32).toNatClampNeg + (9 : Int32).toNatClampNeg ≤ 9) ∧ ((0 : Int32).toNatClampNeg + (9 : Int32).toNatClampNeg ≤ 9) ∧
∀ g5 : zz_St, g5 = zz_A σ (37 + w) (va_cpy ((σ).2.1 (37 + v1)) ((σ).2.1 (37 + w)) (0 : Int32).toNatClampNeg (0 : Int32).toNatClampNeg (9 : Int32).toNatClampNeg) →
(¬ (0 : Int32) < 0) ∧ (¬ (0 : Int32) < 0) ∧ (¬ (9 : Int32) < 0) ∧ ((0 : Int32).toNatClampNeg + (9 : Int32).toNatClampNeg ≤ 9) ∧ ((0 : Int32).toNatClampNeg + (9 : Int32).toNatClampNeg ≤ 9) ∧
∀ g6 : zz_St, g6 = zz_A g5 (40 + w) (va_cpy (g5.2.1 (40 + v1)) (g5.2.1 (40 + w)) (0 : Int32).toNatClampNeg (0 : Int32).toNatClampNeg (9 : Int32).toNatClampNeg) →
∀ g7 : zz_St, g7 = zz_I g6 (25 + w) (g6.1 (25 + v1)) →
∀ g8 : zz_St, g8 = zz_I g7 (28 + w) (g7.1 (28 + v1)) →
Qp g8
def zq3_isMissing (w : Nat) (σ : zz_St) (Qp : Int32 → Prop) : Prop :=
((0 ≤ ((σ).1 (22 + w))) →
  Qp (0 : Int32) ) ∧ (¬ (0 ≤ ((σ).1 (22 + w))) →
  Qp (1 : Int32) )
def zq3_begin (v1 : Int32) (w : Nat) (σ : zz_St) (Qp : zz_St → Prop) : Prop :=
∀ f5 : Nat → Int32, (∀ k, k < 40 → f5 k = (0 : Int32)) →
∀ g7 : zz_St, g7 = zz_A σ (34 + w) f5 →
∀ g8 : zz_St, g8 = zz_I g7 (22 + w) v1 →
Qp g8
def zq3_lackAt (v1 : Int32) (w : Nat) (σ : zz_St) (Qp : Int32 → Prop) : Prop :=
zq7_lackOf ((σ).1 (22 + w)) v1 (fun r2 =>
  Qp r2 )
def zq4_add (v1 : Int32) (v2 : Int32) (v3 : Int32) (v4 : Int32) (σ : zz_St) (Qp : zz_St → Prop) : Prop :=
vp_in v1 1728 ∧
∀ g6 : zz_St, g6 = zz_A σ 19 (upd ((σ).2.1 19) v1.toNatClampNeg v4) →
vp_in v1 1728 ∧
∀ g7 : zz_St, g7 = zz_A g6 20 (upd (g6.2.1 20) v1.toNatClampNeg v2) →
vp_in v1 1728 ∧
∀ g8 : zz_St, g8 = zz_A g7 21 (upd (g7.2.1 21) v1.toNatClampNeg v3) →
vp_in (g8.1 13) 1728 ∧
∀ g9 : zz_St, g9 = zz_A g8 22 (upd (g8.2.1 22) (g8.1 13).toNatClampNeg v1) →
∀ g10 : zz_St, g10 = zz_I g9 13 ((g9.1 13) + (1 : Int32)) →
Qp g10
def zq7_isBlock (v0 : Int32) (Qp : Int32 → Prop) : Prop :=
((v0 = (2 : Int32)) →
  Qp (1 : Int32) ) ∧ (¬ (v0 = (2 : Int32)) →
  ((¬ v0 = (3 : Int32)) →
    Qp (0 : Int32) ) ∧ (v0 = (3 : Int32) →
    Qp (1 : Int32) ))
def zq5_positionOf (v1 : Int32) (v2 : Int32) (w : Nat) (σ : zz_St) (Qp : Int32 → Prop) : Prop :=
vp_in ((v1 * ((σ).1 (16 + w))) + v2) (144 - 48 * w) ∧
Qp ((σ).2.1 (30 + w) ((v1 * ((σ).1 (16 + w))) + v2).toNatClampNeg) 
def zq6_lie (v1 : Int32) (σ : zz_St) (Qp : Int32 → Prop) : Prop :=
zq7_isBlock ((σ).1 6) (fun r4 =>
  ((¬ r4 = 0) →
    zq5_positionOf v1 (0 : Int32) (0) σ (fun r6 =>
      (r6 = (2 : Int32) →
        Qp (2 : Int32) ) ∧ (¬ r6 = (2 : Int32) →
      (r6 = (3 : Int32) →
        Qp (1 : Int32) ) ∧ (¬ r6 = (3 : Int32) →
      (r6 = (4 : Int32) →
        Qp (2 : Int32) ) ∧ (¬ r6 = (4 : Int32) →
      (r6 = (5 : Int32) →
        Qp (1 : Int32) ) ∧ (¬ r6 = (5 : Int32) →
        Qp (0 : Int32) )))))) ∧ (r4 = 0 →
    Qp (0 : Int32) ))
def zq7_isTetra (v0 : Int32) (Qp : Int32 → Prop) : Prop :=
((v0 = (4 : Int32)) →
  Qp (1 : Int32) ) ∧ (¬ (v0 = (4 : Int32)) →
  ((¬ v0 = (5 : Int32)) →
    Qp (0 : Int32) ) ∧ (v0 = (5 : Int32) →
    Qp (1 : Int32) ))
def zq5_faceBelow (v1 : Int32) (w : Nat) (σ : zz_St) (Qp : Int32 → Prop) : Prop :=
vp_in ((v1 * ((σ).1 (16 + w))) + ((σ).1 (18 + w))) (144 - 48 * w) ∧
Qp ((σ).2.1 (28 + w) ((v1 * ((σ).1 (16 + w))) + ((σ).1 (18 + w))).toNatClampNeg) 
def zq6_faceBelow_21 (v1 : Int32) (s0 : Nat) (σ : zz_St) (Qp : Int32 → Prop) : Prop :=
zq5_faceBelow (v1 - v1 / (24 : Int32) * (24 : Int32)) s0 σ (fun r4 =>
  Qp r4 )
def zq6_faceBelow (v1 : Int32) (σ : zz_St) (Qp : Int32 → Prop) : Prop :=
zq7_isTetra ((σ).1 6) (fun r5 =>
  ((r5 = 0) →
    zq6_faceBelow_21 v1 (0) σ Qp) ∧ (¬ (r5 = 0) →
    zq6_faceBelow_21 v1 (1) σ Qp))
def zq6_isAt (v1 : Int32) (v2 : Int32) (v3 : Int32) (σ : zz_St) (Qp : Int32 → Prop) : Prop :=
((¬ (v1 / (24 : Int32)) = v2) →
  Qp (0 : Int32) ) ∧ ((v1 / (24 : Int32)) = v2 →
  zq6_lie (v1 - v1 / (24 : Int32) * (24 : Int32)) σ (fun r8 =>
    ((¬ r8 = 0) →
      Qp (0 : Int32) ) ∧ (r8 = 0 →
      ((v3 = (-1 : Int32)) →
        Qp (1 : Int32) ) ∧ (¬ (v3 = (-1 : Int32)) →
        zq6_faceBelow v1 σ (fun r11 =>
          ((¬ r11 = v3) →
            Qp (0 : Int32) ) ∧ (r11 = v3 →
            Qp (1 : Int32) ))))))
def zq6_rowOf (v0 : Int32) (v1 : Int32) (Qp : Int32 → Prop) : Prop :=
((v1 ≤ 0) →
  Qp (0 : Int32) ) ∧ (¬ (v1 ≤ 0) →
  (¬ v1 = 0) ∧
  Qp (v0 / v1) )
def zq6_bears (v1 : Int32) (v2 : Int32) (σ : zz_St) (Qp : Int32 → Prop) : Prop :=
vp_in v1 36 ∧
((((σ).2.1 14 v1.toNatClampNeg) = (1 : Int32)) →
  Qp (0 : Int32) ) ∧ (¬ (((σ).2.1 14 v1.toNatClampNeg) = (1 : Int32)) →
  ((v2 = 0) →
    Qp (1 : Int32) ) ∧ (¬ (v2 = 0) →
    vp_in v1 36 ∧
    ((((σ).2.1 14 v1.toNatClampNeg) = (2 : Int32)) →
      Qp (0 : Int32) ) ∧ (¬ (((σ).2.1 14 v1.toNatClampNeg) = (2 : Int32)) →
      Qp (1 : Int32) )))
def zq5_turnedTo (v1 : Int32) (v2 : Int32) (w : Nat) (σ : zz_St) (Qp : Int32 → Prop) : Prop :=
vp_in ((v1 * (4 : Int32)) + v2) 96 ∧
Qp ((σ).2.1 (32 + w) ((v1 * (4 : Int32)) + v2).toNatClampNeg) 
def zq6_rolledTetra_188 (v1 : Int32) (v2 : Int32) (v4 : Int32) (v5 : Int32) (v6 : Int32) (σ : zz_St) (Qp : Int32 → Prop) : Prop :=
zq5_turnedTo (v1 - v1 / (24 : Int32) * (24 : Int32)) v2 (1) σ (fun r26 =>
  Qp ((((v5 * v4) + v6) * (24 : Int32)) + r26) )
def zq6_rolledTetra_112 (v1 : Int32) (v2 : Int32) (v4 : Int32) (v5 : Int32) (s0 : Int32) (s1 : Int32) (σ : zz_St) (Qp : Int32 → Prop) : Prop :=
∀ x27 : Int32, x27 = s1 + s0 →
((v5 < 0) →
  Qp (-1 : Int32) ) ∧ (¬ (v5 < 0) →
  ((((σ).1 2) ≤ v5) →
    Qp (-1 : Int32) ) ∧ (¬ (((σ).1 2) ≤ v5) →
    ((x27 < 0) →
      Qp (-1 : Int32) ) ∧ (¬ (x27 < 0) →
      ((x27 < v4) →
        ∀ x32 : Int32, x32 = (v5 * ((σ).1 4)) + (x27 / (2 : Int32)) →
        zq6_bears x32 (0 : Int32) σ (fun r33 =>
          ((r33 = 0) →
            Qp (-1 : Int32) ) ∧ (¬ (r33 = 0) →
            ((¬ ((σ).1 6) = (5 : Int32)) →
              zq6_rolledTetra_188 v1 v2 v4 v5 x27 σ Qp) ∧ (((σ).1 6) = (5 : Int32) →
              vp_in x32 36 ∧
              ((((σ).2.1 16 x32.toNatClampNeg) = (-1 : Int32)) →
                zq6_rolledTetra_188 v1 v2 v4 v5 x27 σ Qp) ∧ (¬ (((σ).2.1 16 x32.toNatClampNeg) = (-1 : Int32)) →
                Qp (-1 : Int32) ))))) ∧ (¬ (x27 < v4) →
        Qp (-1 : Int32) ))))
def zq6_rolledTetra_88 (v1 : Int32) (v2 : Int32) (v4 : Int32) (v6 : Int32) (s0 : Int32) (s1 : Int32) (σ : zz_St) (Qp : Int32 → Prop) : Prop :=
∀ x37 : Int32, x37 = s1 + s0 →
((¬ v2 = (1 : Int32)) →
  ((¬ v2 = (3 : Int32)) →
    zq6_rolledTetra_112 v1 v2 v4 x37 (0 : Int32) v6 σ Qp) ∧ (v2 = (3 : Int32) →
    zq6_rolledTetra_112 v1 v2 v4 x37 (-1 : Int32) v6 σ Qp)) ∧ (v2 = (1 : Int32) →
  zq6_rolledTetra_112 v1 v2 v4 x37 (1 : Int32) v6 σ Qp)
def zq6_rolledTetra_68 (v1 : Int32) (v2 : Int32) (v4 : Int32) (v5 : Int32) (v6 : Int32) (σ : zz_St) (Qp : Int32 → Prop) : Prop :=
((¬ v2 = (2 : Int32)) →
  ((¬ v2 = 0) →
    zq6_rolledTetra_88 v1 v2 v4 v6 (0 : Int32) v5 σ Qp) ∧ (v2 = 0 →
    zq6_rolledTetra_88 v1 v2 v4 v6 (-1 : Int32) v5 σ Qp)) ∧ (v2 = (2 : Int32) →
  zq6_rolledTetra_88 v1 v2 v4 v6 (1 : Int32) v5 σ Qp)
def zq6_rolledTetra_56 (v1 : Int32) (v2 : Int32) (v4 : Int32) (v5 : Int32) (v6 : Int32) (v7 : Int32) (σ : zz_St) (Qp : Int32 → Prop) : Prop :=
((¬ v2 = (2 : Int32)) →
  zq6_rolledTetra_68 v1 v2 v4 v5 v6 σ Qp) ∧ (v2 = (2 : Int32) →
  ((¬ v7 = 0) →
    zq6_rolledTetra_68 v1 v2 v4 v5 v6 σ Qp) ∧ (v7 = 0 →
    Qp (-1 : Int32) ))
def zq6_rolledTetra_45 (v1 : Int32) (v2 : Int32) (v4 : Int32) (v5 : Int32) (v6 : Int32) (s0 : Int32) (σ : zz_St) (Qp : Int32 → Prop) : Prop :=
((¬ v2 = 0) →
  zq6_rolledTetra_56 v1 v2 v4 v5 v6 s0 σ Qp) ∧ (v2 = 0 →
  ((¬ s0 = 0) →
    Qp (-1 : Int32) ) ∧ (s0 = 0 →
    zq6_rolledTetra_56 v1 v2 v4 v5 v6 s0 σ Qp))
def zq6_rolledTetra (v1 : Int32) (v2 : Int32) (σ : zz_St) (Qp : Int32 → Prop) : Prop :=
∀ x46 : Int32, x46 = v1 / (24 : Int32) →
∀ x47 : Int32, x47 = (2 : Int32) * ((σ).1 4) →
zq6_rowOf x46 x47 (fun r48 =>
  ∀ x49 : Int32, x49 = x46 - (r48 * x47) →
  ((¬ ((r48 + x49) - (r48 + x49) / (2 : Int32) * (2 : Int32)) = 0) →
    zq6_rolledTetra_45 v1 v2 x47 r48 x49 (0 : Int32) σ Qp) ∧ (((r48 + x49) - (r48 + x49) / (2 : Int32) * (2 : Int32)) = 0 →
    zq6_rolledTetra_45 v1 v2 x47 r48 x49 (1 : Int32) σ Qp))
def zq6_reach (v1 : Int32) (v2 : Int32) (σ : zz_St) (Qp : Int32 → Prop) : Prop :=
zq7_isBlock ((σ).1 6) (fun r6 =>
  ((¬ r6 = 0) →
    (v2 = (1 : Int32) →
      ((¬ v1 = (1 : Int32)) →
        Qp (1 : Int32) ) ∧ (v1 = (1 : Int32) →
        Qp (2 : Int32) )) ∧ (¬ v2 = (1 : Int32) →
    (v2 = (2 : Int32) →
      ((¬ v1 = (2 : Int32)) →
        Qp (1 : Int32) ) ∧ (v1 = (2 : Int32) →
        Qp (2 : Int32) )) ∧ (¬ v2 = (2 : Int32) →
      ((¬ v1 = 0) →
        Qp (1 : Int32) ) ∧ (v1 = 0 →
        Qp (2 : Int32) )))) ∧ (r6 = 0 →
    Qp (1 : Int32) ))
def zq6_mayLie_81 (v1 : Int32) (v2 : Int32) (v4 : Int32) (v5 : Int32) (s0 : Int32) (σ : zz_St) (Qp : Int32 → Prop) : Prop :=
zq6_bears ((v1 * ((σ).1 4)) + v2) s0 σ (fun r14 =>
  ((r14 = 0) →
    Qp (0 : Int32) ) ∧ (¬ (r14 = 0) →
    zq6_bears ((v4 * ((σ).1 4)) + v5) s0 σ (fun r16 =>
      ((r16 = 0) →
        Qp (0 : Int32) ) ∧ (¬ (r16 = 0) →
        Qp (1 : Int32) ))))
def zq6_mayLie_76 (v1 : Int32) (v2 : Int32) (v4 : Int32) (v5 : Int32) (σ : zz_St) (Qp : Int32 → Prop) : Prop :=
zq6_mayLie_81 v1 v2 v4 v5 (1 : Int32) σ Qp
def zq6_mayLie_80 (v1 : Int32) (v2 : Int32) (v4 : Int32) (v5 : Int32) (σ : zz_St) (Qp : Int32 → Prop) : Prop :=
zq6_mayLie_81 v1 v2 v4 v5 (0 : Int32) σ Qp
def zq6_mayLie_26 (v1 : Int32) (v2 : Int32) (v3 : Int32) (v4 : Int32) (s0 : Int32) (σ : zz_St) (Qp : Int32 → Prop) : Prop :=
((v1 < 0) →
  Qp (0 : Int32) ) ∧ (¬ (v1 < 0) →
  ((((σ).1 2) ≤ v4) →
    Qp (0 : Int32) ) ∧ (¬ (((σ).1 2) ≤ v4) →
    ((v2 < 0) →
      Qp (0 : Int32) ) ∧ (¬ (v2 < 0) →
      ((s0 < ((σ).1 4)) →
        ((((σ).1 6) = (1 : Int32)) →
          zq6_mayLie_76 v1 v2 v4 s0 σ Qp) ∧ (¬ (((σ).1 6) = (1 : Int32)) →
          ((¬ ((σ).1 6) = (3 : Int32)) →
            zq6_mayLie_80 v1 v2 v4 s0 σ Qp) ∧ (((σ).1 6) = (3 : Int32) →
            ((v3 = 0) →
              zq6_mayLie_80 v1 v2 v4 s0 σ Qp) ∧ (¬ (v3 = 0) →
              zq6_mayLie_76 v1 v2 v4 s0 σ Qp)))) ∧ (¬ (s0 < ((σ).1 4)) →
        Qp (0 : Int32) ))))
def zq6_mayLie_12 (v1 : Int32) (v2 : Int32) (v3 : Int32) (s0 : Int32) (σ : zz_St) (Qp : Int32 → Prop) : Prop :=
((¬ v3 = (1 : Int32)) →
  zq6_mayLie_26 v1 v2 v3 s0 v2 σ Qp) ∧ (v3 = (1 : Int32) →
  zq6_mayLie_26 v1 v2 v3 s0 (v2 + (1 : Int32)) σ Qp)
def zq6_mayLie (v1 : Int32) (v2 : Int32) (v3 : Int32) (σ : zz_St) (Qp : Int32 → Prop) : Prop :=
((¬ v3 = (2 : Int32)) →
  zq6_mayLie_12 v1 v2 v3 v1 σ Qp) ∧ (v3 = (2 : Int32) →
  zq6_mayLie_12 v1 v2 v3 (v1 + (1 : Int32)) σ Qp)
def zq6_rolled_120 (v4 : Int32) (v5 : Int32) (v6 : Int32) (σ : zz_St) (Qp : Int32 → Prop) : Prop :=
zq6_lie v4 σ (fun r19 =>
  zq6_mayLie v5 v6 r19 σ (fun r20 =>
    ((r20 = 0) →
      Qp (-1 : Int32) ) ∧ (¬ (r20 = 0) →
      Qp ((((v5 * ((σ).1 4)) + v6) * (24 : Int32)) + v4) )))
def zq6_rolled_96 (v4 : Int32) (v6 : Int32) (s0 : Int32) (s1 : Int32) (σ : zz_St) (Qp : Int32 → Prop) : Prop :=
∀ x22 : Int32, x22 = s1 + s0 →
zq6_rolled_120 v4 x22 v6 σ Qp
def zq6_rolled_81 (v2 : Int32) (v4 : Int32) (v5 : Int32) (v6 : Int32) (v7 : Int32) (σ : zz_St) (Qp : Int32 → Prop) : Prop :=
((¬ v2 = (2 : Int32)) →
  zq6_rolled_96 v4 v6 (-v7) v5 σ Qp) ∧ (v2 = (2 : Int32) →
  zq6_rolled_96 v4 v6 v7 v5 σ Qp)
def zq6_rolled_117 (v4 : Int32) (v5 : Int32) (s0 : Int32) (s1 : Int32) (σ : zz_St) (Qp : Int32 → Prop) : Prop :=
∀ x24 : Int32, x24 = s1 + s0 →
zq6_rolled_120 v4 v5 x24 σ Qp
def zq6_rolled (v1 : Int32) (v2 : Int32) (σ : zz_St) (Qp : Int32 → Prop) : Prop :=
zq7_isTetra ((σ).1 6) (fun r25 =>
  ((r25 = 0) →
    ∀ x27 : Int32, x27 = v1 / (24 : Int32) →
    zq5_turnedTo (v1 - v1 / (24 : Int32) * (24 : Int32)) v2 (0) σ (fun r28 =>
      zq6_rowOf x27 ((σ).1 4) (fun r29 =>
        ∀ x30 : Int32, x30 = x27 - (r29 * ((σ).1 4)) →
        zq6_lie (v1 - v1 / (24 : Int32) * (24 : Int32)) σ (fun r31 =>
          zq6_reach r31 v2 σ (fun r32 =>
            ((v2 = 0) →
              zq6_rolled_81 v2 r28 r29 x30 r32 σ Qp) ∧ (¬ (v2 = 0) →
              ((¬ v2 = (2 : Int32)) →
                ((¬ v2 = (1 : Int32)) →
                  zq6_rolled_117 r28 r29 (-r32) x30 σ Qp) ∧ (v2 = (1 : Int32) →
                  zq6_rolled_117 r28 r29 r32 x30 σ Qp)) ∧ (v2 = (2 : Int32) →
                zq6_rolled_81 v2 r28 r29 x30 r32 σ Qp))))))) ∧ (¬ (r25 = 0) →
    zq6_rolledTetra v1 v2 σ (fun r36 =>
      Qp r36 )))
def zq4_floodTo_120 (v2 : Int32) (v3 : Int32) (v4 : Int32) (v5 : Int32) (v6 : Int32) (σ : zz_St) (Qp : Int32 → zz_St → Prop) (B27 : Int32 → zz_St → Prop) (B70 : Int32 → zz_St → Prop) : Prop :=
B70 (v6 + (1 : Int32)) σ
def zq4_floodTo_70 (v2 : Int32) (v3 : Int32) (v4 : Int32) (v5 : Int32) (v6 : Int32) (σ : zz_St) (Qp : Int32 → zz_St → Prop) (B27 : Int32 → zz_St → Prop) : Prop :=
 ∃ (I70 : Int32 → zz_St → Prop) (M70 : Int32 → zz_St → Nat), I70 v6 σ ∧ ∀ (v6 : Int32) (σ : zz_St), I70 v6 σ →
(((4 : Int32) ≤ v6) →
  B27 (v4 + (1 : Int32)) σ) ∧ (¬ ((4 : Int32) ≤ v6) →
  zq6_rolled v5 v6 σ (fun r17 =>
    ((r17 < 0) →
      zq4_floodTo_120 v2 v3 v4 v5 v6 σ Qp B27 (fun v6' σ' => I70 v6' σ' ∧ M70 v6' σ' < M70 v6 σ)) ∧ (¬ (r17 < 0) →
      vp_in r17 1728 ∧
      ((0 ≤ ((σ).2.1 19 r17.toNatClampNeg)) →
        zq4_floodTo_120 v2 v3 v4 v5 v6 σ Qp B27 (fun v6' σ' => I70 v6' σ' ∧ M70 v6' σ' < M70 v6 σ)) ∧ (¬ (0 ≤ ((σ).2.1 19 r17.toNatClampNeg)) →
        vp_in v5 1728 ∧
        zq4_add r17 v5 v6 (((σ).2.1 19 v5.toNatClampNeg) + (1 : Int32)) σ (fun g20 =>
          zq4_floodTo_120 v2 v3 v4 v5 v6 g20 Qp B27 (fun v6' σ' => I70 v6' σ' ∧ M70 v6' σ' < M70 v6 σ))))))
def zq4_floodTo_27 (v2 : Int32) (v3 : Int32) (v4 : Int32) (σ : zz_St) (Qp : Int32 → zz_St → Prop) : Prop :=
 ∃ (I27 : Int32 → zz_St → Prop) (M27 : Int32 → zz_St → Nat), I27 v4 σ ∧ ∀ (v4 : Int32) (σ : zz_St), I27 v4 σ →
((((σ).1 13) ≤ v4) →
  Qp (-1 : Int32) σ) ∧ (¬ (((σ).1 13) ≤ v4) →
  (((1728 : Int32) ≤ v4) →
    Qp (-1 : Int32) σ) ∧ (¬ ((1728 : Int32) ≤ v4) →
    vp_in v4 1728 ∧
    ∀ x23 : Int32, x23 = (σ).2.1 22 v4.toNatClampNeg →
    zq6_isAt x23 v2 v3 σ (fun r24 =>
      ((r24 = 0) →
        zq4_floodTo_70 v2 v3 v4 x23 (0 : Int32) σ Qp (fun v4' σ' => I27 v4' σ' ∧ M27 v4' σ' < M27 v4 σ)) ∧ (¬ (r24 = 0) →
        Qp x23 σ))))
def zq4_floodTo (v2 : Int32) (v3 : Int32) (σ : zz_St) (Qp : Int32 → zz_St → Prop) : Prop :=
∀ f26 : Nat → Int32, (∀ k, k < 1728 → f26 k = (-1 : Int32)) →
∀ g28 : zz_St, g28 = zz_A σ 19 f26 →
∀ g29 : zz_St, g29 = zz_I g28 13 (0 : Int32) →
zq4_add (g29.1 8) (-1 : Int32) (-1 : Int32) (0 : Int32) g29 (fun g30 =>
  zq4_floodTo_27 v2 v3 (0 : Int32) g30 Qp)
def zq4_floodAll  (σ : zz_St) (Qp : zz_St → Prop) : Prop :=
zq4_floodTo (-1 : Int32) (-1 : Int32) σ (fun r3 g4 =>
  Qp g4)
def zq4_wayToward_12 (v2 : Int32) (v3 : Int32) (v4 : Int32) (σ : zz_St) (Qp : Int32 → Prop) : Prop :=
 ∃ (I12 : Int32 → Int32 → Prop) (M12 : Int32 → Int32 → Nat), I12 v3 v4 ∧ ∀ (v3 : Int32) (v4 : Int32), I12 v3 v4 →
((v4 ≤ v2) →
  vp_in v3 1728 ∧
  Qp ((σ).2.1 21 v3.toNatClampNeg) ) ∧ (¬ (v4 ≤ v2) →
  vp_in v3 1728 ∧
  ∀ x5 : Int32, x5 = (σ).2.1 20 v3.toNatClampNeg →
  I12 x5 (v4 + (-1 : Int32)) ∧ M12 x5 (v4 + (-1 : Int32)) < M12 v3 v4)
def zq4_wayToward (v1 : Int32) (v2 : Int32) (σ : zz_St) (Qp : Int32 → Prop) : Prop :=
vp_in v1 1728 ∧
∀ x6 : Int32, x6 = ((σ).2.1 19 v1.toNatClampNeg) - (1 : Int32) →
zq4_wayToward_12 v2 v1 x6 σ Qp
def zq4_countPlaces_12 (v1 : Int32) (v2 : Int32) (σ : zz_St) (Qp : Int32 → zz_St → Prop) : Prop :=
 ∃ (I12 : Int32 → Int32 → zz_St → Prop) (M12 : Int32 → Int32 → zz_St → Nat), I12 v1 v2 σ ∧ ∀ (v1 : Int32) (v2 : Int32) (σ : zz_St), I12 v1 v2 σ →
((((σ).1 13) ≤ v2) →
  Qp v1 σ) ∧ (¬ (((σ).1 13) ≤ v2) →
  vp_in v2 1728 ∧
  ∀ x9 : Int32, x9 = ((σ).2.1 22 v2.toNatClampNeg) / (24 : Int32) →
  vp_in x9 1728 ∧
  ∀ x10 : Int32, x10 = v1 + ((1 : Int32) - ((σ).2.1 23 x9.toNatClampNeg)) →
  vp_in x9 1728 ∧
  ∀ g11 : zz_St, g11 = zz_A σ 23 (upd ((σ).2.1 23) x9.toNatClampNeg (1 : Int32)) →
  I12 x10 (v2 + (1 : Int32)) g11 ∧ M12 x10 (v2 + (1 : Int32)) g11 < M12 v1 v2 σ)
def zq4_countPlaces  (σ : zz_St) (Qp : Int32 → zz_St → Prop) : Prop :=
∀ f12 : Nat → Int32, (∀ k, k < 1728 → f12 k = (0 : Int32)) →
∀ g14 : zz_St, g14 = zz_A σ 23 f12 →
zq4_countPlaces_12 (0 : Int32) (0 : Int32) g14 Qp
def zq4_farthest  (σ : zz_St) (Qp : Int32 → Prop) : Prop :=
((((σ).1 13) ≤ 0) →
  Qp (0 : Int32) ) ∧ (¬ (((σ).1 13) ≤ 0) →
  vp_in (((σ).1 13) - (1 : Int32)) 1728 ∧
  vp_in ((σ).2.1 22 (((σ).1 13) - (1 : Int32)).toNatClampNeg) 1728 ∧
  Qp ((σ).2.1 19 ((σ).2.1 22 (((σ).1 13) - (1 : Int32)).toNatClampNeg).toNatClampNeg) )
def zq4_facesAt_44 (v2 : Int32) (v3 : Int32) (v4 : Int32) (σ : zz_St) (Qp : Int32 → Prop) (B5 : Int32 → Int32 → Prop) : Prop :=
B5 v3 (v4 + (1 : Int32))
def zq4_facesAt_5 (v2 : Int32) (v3 : Int32) (v4 : Int32) (σ : zz_St) (Qp : Int32 → Prop) : Prop :=
 ∃ (I5 : Int32 → Int32 → Prop) (M5 : Int32 → Int32 → Nat), I5 v3 v4 ∧ ∀ (v3 : Int32) (v4 : Int32), I5 v3 v4 →
((((σ).1 13) ≤ v4) →
  Qp v3 ) ∧ (¬ (((σ).1 13) ≤ v4) →
  vp_in v4 1728 ∧
  ((¬ (((σ).2.1 22 v4.toNatClampNeg) / (24 : Int32)) = v2) →
    zq4_facesAt_44 v2 v3 v4 σ Qp (fun v3' v4' => I5 v3' v4' ∧ M5 v3' v4' < M5 v3 v4)) ∧ ((((σ).2.1 22 v4.toNatClampNeg) / (24 : Int32)) = v2 →
    vp_in v4 1728 ∧
    zq6_faceBelow ((σ).2.1 22 v4.toNatClampNeg) σ (fun r7 =>
      ∀ x8 : Int32, x8 = v3 ||| ((1 : Int32) <<< (r7 &&& 31)) →
      zq4_facesAt_44 v2 x8 v4 σ Qp (fun v3' v4' => I5 v3' v4' ∧ M5 v3' v4' < M5 v3 v4))))
def zq4_facesAt (v2 : Int32) (σ : zz_St) (Qp : Int32 → Prop) : Prop :=
zq4_facesAt_5 v2 (0 : Int32) (0 : Int32) σ Qp
def zq4_hasEven_68 (v2 : Int32) (v3 : Int32) (σ : zz_St) (Qp : Int32 → zz_St → Prop) (B7 : Int32 → Prop) (B17 : Int32 → Prop) : Prop :=
B17 (v3 + (1 : Int32))
def zq4_hasEven_17 (v2 : Int32) (v3 : Int32) (σ : zz_St) (Qp : Int32 → zz_St → Prop) (B7 : Int32 → Prop) : Prop :=
 ∃ (I17 : Int32 → Prop) (M17 : Int32 → Nat), I17 v3 ∧ ∀ (v3 : Int32), I17 v3 →
(((4 : Int32) ≤ v3) →
  B7 (v2 + (1 : Int32))) ∧ (¬ ((4 : Int32) ≤ v3) →
  vp_in v2 1728 ∧
  zq6_rolled ((σ).2.1 22 v2.toNatClampNeg) v3 σ (fun r8 =>
    ((r8 < 0) →
      zq4_hasEven_68 v2 v3 σ Qp B7 (fun v3' => I17 v3' ∧ M17 v3' < M17 v3)) ∧ (¬ (r8 < 0) →
      vp_in v2 1728 ∧
      vp_in ((σ).2.1 22 v2.toNatClampNeg) 1728 ∧
      vp_in r8 1728 ∧
      (((((((σ).2.1 19 ((σ).2.1 22 v2.toNatClampNeg).toNatClampNeg) + (1 : Int32)) - ((σ).2.1 19 r8.toNatClampNeg)) - ((((σ).2.1 19 ((σ).2.1 22 v2.toNatClampNeg).toNatClampNeg) + (1 : Int32)) - ((σ).2.1 19 r8.toNatClampNeg)) / (2 : Int32) * (2 : Int32)) = 0) →
        zq4_hasEven_68 v2 v3 σ Qp B7 (fun v3' => I17 v3' ∧ M17 v3' < M17 v3)) ∧ (¬ ((((((σ).2.1 19 ((σ).2.1 22 v2.toNatClampNeg).toNatClampNeg) + (1 : Int32)) - ((σ).2.1 19 r8.toNatClampNeg)) - ((((σ).2.1 19 ((σ).2.1 22 v2.toNatClampNeg).toNatClampNeg) + (1 : Int32)) - ((σ).2.1 19 r8.toNatClampNeg)) / (2 : Int32) * (2 : Int32)) = 0) →
        Qp (1 : Int32) σ))))
def zq4_hasEven_7 (v2 : Int32) (σ : zz_St) (Qp : Int32 → zz_St → Prop) : Prop :=
 ∃ (I7 : Int32 → Prop) (M7 : Int32 → Nat), I7 v2 ∧ ∀ (v2 : Int32), I7 v2 →
((((σ).1 13) ≤ v2) →
  Qp (0 : Int32) σ) ∧ (¬ (((σ).1 13) ≤ v2) →
  zq4_hasEven_17 v2 (0 : Int32) σ Qp (fun v2' => I7 v2' ∧ M7 v2' < M7 v2))
def zq4_hasEven  (σ : zz_St) (Qp : Int32 → zz_St → Prop) : Prop :=
zq4_floodAll  σ (fun g12 =>
  zq4_hasEven_7 (0 : Int32) g12 Qp)
def zq6_tileCount  (σ : zz_St) (Qp : Int32 → Prop) : Prop :=
Qp (((σ).1 2) * ((σ).1 4)) 
def zq4_statesFilled (v2 : Int32) (σ : zz_St) (Qp : Int32 → zz_St → Prop) : Prop :=
vp_in v2 36 ∧
∀ g5 : zz_St, g5 = zz_A σ 14 (upd ((σ).2.1 14) v2.toNatClampNeg (0 : Int32)) →
zq4_floodTo (-1 : Int32) (-1 : Int32) g5 (fun r6 g7 =>
  vp_in v2 36 ∧
  ∀ g8 : zz_St, g8 = zz_A g7 14 (upd (g7.2.1 14) v2.toNatClampNeg (1 : Int32)) →
  Qp (g8.1 13) g8)
def zq4_bestFilled_60 (v2 : Int32) (v3 : Int32) (v4 : Int32) (σ : zz_St) (Qp : Int32 → zz_St → Prop) (B15 : Int32 → Int32 → Int32 → zz_St → Prop) : Prop :=
B15 v2 v3 (v4 + (1 : Int32)) σ
def zq4_bestFilled_46 (v2 : Int32) (v3 : Int32) (v4 : Int32) (s0 : Int32) (σ : zz_St) (Qp : Int32 → zz_St → Prop) (B15 : Int32 → Int32 → Int32 → zz_St → Prop) : Prop :=
((s0 ≤ v2) →
  zq4_bestFilled_60 v2 v3 v4 σ Qp B15) ∧ (¬ (s0 ≤ v2) →
  zq4_bestFilled_60 s0 v4 v4 σ Qp B15)
def zq4_bestFilled_15 (v2 : Int32) (v3 : Int32) (v4 : Int32) (σ : zz_St) (Qp : Int32 → zz_St → Prop) : Prop :=
 ∃ (I15 : Int32 → Int32 → Int32 → zz_St → Prop) (M15 : Int32 → Int32 → Int32 → zz_St → Nat), I15 v2 v3 v4 σ ∧ ∀ (v2 : Int32) (v3 : Int32) (v4 : Int32) (σ : zz_St), I15 v2 v3 v4 σ →
zq6_tileCount  σ (fun r10 =>
  ((r10 ≤ v4) →
    Qp v3 σ) ∧ (¬ (r10 ≤ v4) →
    vp_in v4 36 ∧
    ((¬ ((σ).2.1 14 v4.toNatClampNeg) = (1 : Int32)) →
      zq4_bestFilled_46 v2 v3 v4 (0 : Int32) σ Qp (fun v2' v3' v4' σ' => I15 v2' v3' v4' σ' ∧ M15 v2' v3' v4' σ' < M15 v2 v3 v4 σ)) ∧ (((σ).2.1 14 v4.toNatClampNeg) = (1 : Int32) →
      zq4_statesFilled v4 σ (fun r13 g14 =>
        zq4_bestFilled_46 v2 v3 v4 r13 g14 Qp (fun v2' v3' v4' σ' => I15 v2' v3' v4' σ' ∧ M15 v2' v3' v4' σ' < M15 v2 v3 v4 σ)))))
def zq4_bestFilled  (σ : zz_St) (Qp : Int32 → zz_St → Prop) : Prop :=
zq4_floodAll  σ (fun g15 =>
  ∀ x16 : Int32, x16 = g15.1 13 →
  zq4_bestFilled_15 x16 (-1 : Int32) (0 : Int32) g15 Qp)
def zq6_tilesUnder (v1 : Int32) (σ : zz_St) (Qp : Int64 → Prop) : Prop :=
∀ x5 : Int32, x5 = v1 / (24 : Int32) →
zq7_isTetra ((σ).1 6) (fun r6 =>
  ((r6 = 0) →
    zq6_lie (v1 - v1 / (24 : Int32) * (24 : Int32)) σ (fun r8 =>
      (r8 = (1 : Int32) →
        Qp ((3 : Int64) <<< (x5.toInt64 &&& 63)) ) ∧ (¬ r8 = (1 : Int32) →
      (r8 = (2 : Int32) →
        Qp (((1 : Int64) <<< (x5.toInt64 &&& 63)) ||| ((1 : Int64) <<< ((x5 + ((σ).1 4)).toInt64 &&& 63))) ) ∧ (¬ r8 = (2 : Int32) →
        Qp ((1 : Int64) <<< (x5.toInt64 &&& 63)) )))) ∧ (¬ (r6 = 0) →
    Qp ((1 : Int64) <<< ((x5 / (2 : Int32)).toInt64 &&& 63)) ))
def zq4_tilesToward_13 (v3 : Int64) (v5 : Int32) (v6 : Int32) (σ : zz_St) (Qp : Int64 → Prop) : Prop :=
 ∃ (I13 : Int64 → Int32 → Int32 → Prop) (M13 : Int64 → Int32 → Int32 → Nat), I13 v3 v5 v6 ∧ ∀ (v3 : Int64) (v5 : Int32) (v6 : Int32), I13 v3 v5 v6 →
((v6 ≤ 0) →
  Qp v3 ) ∧ (¬ (v6 ≤ 0) →
  zq6_tilesUnder v5 σ (fun r7 =>
    ∀ x8 : Int64, x8 = v3 ||| r7 →
    vp_in v5 1728 ∧
    ∀ x9 : Int32, x9 = (σ).2.1 20 v5.toNatClampNeg →
    I13 x8 x9 (v6 + (-1 : Int32)) ∧ M13 x8 x9 (v6 + (-1 : Int32)) < M13 v3 v5 v6))
def zq4_tilesToward (v2 : Int32) (σ : zz_St) (Qp : Int64 → Prop) : Prop :=
vp_in v2 1728 ∧
∀ x10 : Int32, x10 = (σ).2.1 19 v2.toNatClampNeg →
zq4_tilesToward_13 (0 : Int64) v2 x10 σ Qp
def zq4_isLaterWithout (v2 : Int32) (v3 : Int32) (v4 : Int32) (σ : zz_St) (Qp : Int32 → zz_St → Prop) : Prop :=
vp_in v2 36 ∧
∀ x8 : Int32, x8 = (σ).2.1 14 v2.toNatClampNeg →
vp_in v2 36 ∧
∀ g9 : zz_St, g9 = zz_A σ 14 (upd ((σ).2.1 14) v2.toNatClampNeg (1 : Int32)) →
zq4_floodTo v3 (-1 : Int32) g9 (fun r10 g11 =>
  vp_in v2 36 ∧
  ∀ g12 : zz_St, g12 = zz_A g11 14 (upd (g11.2.1 14) v2.toNatClampNeg x8) →
  ((r10 < 0) →
    Qp (1 : Int32) g12) ∧ (¬ (r10 < 0) →
    vp_in r10 1728 ∧
    (((g12.2.1 19 r10.toNatClampNeg) ≤ v4) →
      Qp (0 : Int32) g12) ∧ (¬ ((g12.2.1 19 r10.toNatClampNeg) ≤ v4) →
      Qp (1 : Int32) g12)))
def zq4_tilesNeeded_92 (v2 : Int32) (v4 : Int32) (v5 : Int64) (v7 : Int64) (v9 : Int32) (σ : zz_St) (Qp : Int64 → zz_St → Prop) (B49 : Int64 → Int32 → zz_St → Prop) : Prop :=
B49 v7 (v9 + (1 : Int32)) σ
def zq4_tilesNeeded_49 (v2 : Int32) (v4 : Int32) (v5 : Int64) (v7 : Int64) (v9 : Int32) (σ : zz_St) (Qp : Int64 → zz_St → Prop) : Prop :=
 ∃ (I49 : Int64 → Int32 → zz_St → Prop) (M49 : Int64 → Int32 → zz_St → Nat), I49 v7 v9 σ ∧ ∀ (v7 : Int64) (v9 : Int32) (σ : zz_St), I49 v7 v9 σ →
zq6_tileCount  σ (fun r15 =>
  ((r15 ≤ v9) →
    Qp v7 σ) ∧ (¬ (r15 ≤ v9) →
    ((¬ (lg_cmp ((v5 >>> (v9.toInt64 &&& 63)) &&& (1 : Int64)) (1 : Int64)) = 0) →
      zq4_tilesNeeded_92 v2 v4 v5 v7 v9 σ Qp (fun v7' v9' σ' => I49 v7' v9' σ' ∧ M49 v7' v9' σ' < M49 v7 v9 σ)) ∧ ((lg_cmp ((v5 >>> (v9.toInt64 &&& 63)) &&& (1 : Int64)) (1 : Int64)) = 0 →
      zq4_isLaterWithout v9 v2 v4 σ (fun r18 g19 =>
        ((r18 = 0) →
          zq4_tilesNeeded_92 v2 v4 v5 v7 v9 g19 Qp (fun v7' v9' σ' => I49 v7' v9' σ' ∧ M49 v7' v9' σ' < M49 v7 v9 σ)) ∧ (¬ (r18 = 0) →
          ∀ x21 : Int64, x21 = v7 ||| ((1 : Int64) <<< (v9.toInt64 &&& 63)) →
          zq4_tilesNeeded_92 v2 v4 v5 x21 v9 g19 Qp (fun v7' v9' σ' => I49 v7' v9' σ' ∧ M49 v7' v9' σ' < M49 v7 v9 σ))))))
def zq4_tilesNeeded (v2 : Int32) (σ : zz_St) (Qp : Int64 → zz_St → Prop) : Prop :=
zq4_floodTo v2 (-1 : Int32) σ (fun r22 g23 =>
  ((0 ≤ r22) →
    vp_in r22 1728 ∧
    ∀ x25 : Int32, x25 = g23.2.1 19 r22.toNatClampNeg →
    zq4_tilesToward r22 g23 (fun r26 =>
      zq6_tilesUnder (g23.1 8) g23 (fun r27 =>
        ∀ x28 : Int64, x28 = r26 &&& (r27 ^^^ (-1 : Int64)) →
        zq4_tilesNeeded_49 v2 x25 x28 (0 : Int64) (0 : Int32) g23 Qp))) ∧ (¬ (0 ≤ r22) →
    Qp (0 : Int64) g23))
def zq4_rollsToPaint_86 (v2 : Int32) (v3 : Int32) (v4 : Int32) (v5 : Int32) (σ : zz_St) (Qp : Int32 → zz_St → Prop) (B8 : Int32 → Prop) (B20 : Int32 → Prop) : Prop :=
B20 (v5 + (1 : Int32))
def zq4_rollsToPaint_20 (v2 : Int32) (v3 : Int32) (v4 : Int32) (v5 : Int32) (σ : zz_St) (Qp : Int32 → zz_St → Prop) (B8 : Int32 → Prop) : Prop :=
 ∃ (I20 : Int32 → Prop) (M20 : Int32 → Nat), I20 v5 ∧ ∀ (v5 : Int32), I20 v5 →
(((4 : Int32) ≤ v5) →
  B8 (v4 + (1 : Int32))) ∧ (¬ ((4 : Int32) ≤ v5) →
  vp_in v4 1728 ∧
  zq6_rolled ((σ).2.1 22 v4.toNatClampNeg) v5 σ (fun r11 =>
    ((r11 < 0) →
      zq4_rollsToPaint_86 v2 v3 v4 v5 σ Qp B8 (fun v5' => I20 v5' ∧ M20 v5' < M20 v5)) ∧ (¬ (r11 < 0) →
      zq6_faceBelow r11 σ (fun r13 =>
        ((¬ r13 = v3) →
          zq4_rollsToPaint_86 v2 v3 v4 v5 σ Qp B8 (fun v5' => I20 v5' ∧ M20 v5' < M20 v5)) ∧ (r13 = v3 →
          zq6_tilesUnder r11 σ (fun r15 =>
            ((¬ (lg_cmp ((r15 >>> (v2.toInt64 &&& 63)) &&& (1 : Int64)) (1 : Int64)) = 0) →
              zq4_rollsToPaint_86 v2 v3 v4 v5 σ Qp B8 (fun v5' => I20 v5' ∧ M20 v5' < M20 v5)) ∧ ((lg_cmp ((r15 >>> (v2.toInt64 &&& 63)) &&& (1 : Int64)) (1 : Int64)) = 0 →
              vp_in v4 1728 ∧
              vp_in ((σ).2.1 22 v4.toNatClampNeg) 1728 ∧
              Qp (((σ).2.1 19 ((σ).2.1 22 v4.toNatClampNeg).toNatClampNeg) + (1 : Int32)) σ)))))))
def zq4_rollsToPaint_8 (v2 : Int32) (v3 : Int32) (v4 : Int32) (σ : zz_St) (Qp : Int32 → zz_St → Prop) : Prop :=
 ∃ (I8 : Int32 → Prop) (M8 : Int32 → Nat), I8 v4 ∧ ∀ (v4 : Int32), I8 v4 →
((((σ).1 13) ≤ v4) →
  Qp (-9 : Int32) σ) ∧ (¬ (((σ).1 13) ≤ v4) →
  zq4_rollsToPaint_20 v2 v3 v4 (0 : Int32) σ Qp (fun v4' => I8 v4' ∧ M8 v4' < M8 v4))
def zq4_rollsToPaint (v2 : Int32) (v3 : Int32) (σ : zz_St) (Qp : Int32 → zz_St → Prop) : Prop :=
zq4_floodAll  σ (fun g18 =>
  zq4_rollsToPaint_8 v2 v3 (0 : Int32) g18 Qp)
def zq4_spread_56 (v2 : Int32) (v3 : Int32) (s0 : Int32) (σ : zz_St) (Qp : zz_St → Prop) (B10 : Int32 → zz_St → Prop) (B19 : Int32 → zz_St → Prop) : Prop :=
vp_in s0 1728 ∧
vp_in v2 1728 ∧
vp_in s0 1728 ∧
∀ g11 : zz_St, g11 = zz_A σ 25 (upd ((σ).2.1 25) s0.toNatClampNeg (((σ).2.1 25 s0.toNatClampNeg) + ((σ).2.1 24 v2.toNatClampNeg))) →
B19 (v3 + (1 : Int32)) g11
def zq4_spread_72 (v2 : Int32) (σ : zz_St) (Qp : zz_St → Prop) (B10 : Int32 → zz_St → Prop) : Prop :=
B10 (v2 + (1 : Int32)) σ
def zq4_spread_19 (v2 : Int32) (v3 : Int32) (σ : zz_St) (Qp : zz_St → Prop) (B10 : Int32 → zz_St → Prop) : Prop :=
 ∃ (I19 : Int32 → zz_St → Prop) (M19 : Int32 → zz_St → Nat), I19 v3 σ ∧ ∀ (v3 : Int32) (σ : zz_St), I19 v3 σ →
(((4 : Int32) ≤ v3) →
  zq4_spread_72 v2 σ Qp B10) ∧ (¬ ((4 : Int32) ≤ v3) →
  vp_in v2 1728 ∧
  ((((σ).2.1 24 v2.toNatClampNeg) ≤ 0) →
    zq4_spread_72 v2 σ Qp B10) ∧ (¬ (((σ).2.1 24 v2.toNatClampNeg) ≤ 0) →
    zq6_rolled v2 v3 σ (fun r14 =>
      ((r14 < 0) →
        zq4_spread_56 v2 v3 v2 σ Qp B10 (fun v3' σ' => I19 v3' σ' ∧ M19 v3' σ' < M19 v3 σ)) ∧ (¬ (r14 < 0) →
        zq4_spread_56 v2 v3 r14 σ Qp B10 (fun v3' σ' => I19 v3' σ' ∧ M19 v3' σ' < M19 v3 σ)))))
def zq4_spread_10 (v2 : Int32) (σ : zz_St) (Qp : zz_St → Prop) : Prop :=
 ∃ (I10 : Int32 → zz_St → Prop) (M10 : Int32 → zz_St → Nat), I10 v2 σ ∧ ∀ (v2 : Int32) (σ : zz_St), I10 v2 σ →
(((1728 : Int32) ≤ v2) →
  (¬ (0 : Int32) < 0) ∧ (¬ (0 : Int32) < 0) ∧ (¬ (1728 : Int32) < 0) ∧ ((0 : Int32).toNatClampNeg + (1728 : Int32).toNatClampNeg ≤ 1728) ∧ ((0 : Int32).toNatClampNeg + (1728 : Int32).toNatClampNeg ≤ 1728) ∧
  ∀ g17 : zz_St, g17 = zz_A σ 24 (va_cpy ((σ).2.1 25) ((σ).2.1 24) (0 : Int32).toNatClampNeg (0 : Int32).toNatClampNeg (1728 : Int32).toNatClampNeg) →
  Qp g17) ∧ (¬ ((1728 : Int32) ≤ v2) →
  zq4_spread_19 v2 (0 : Int32) σ Qp (fun v2' σ' => I10 v2' σ' ∧ M10 v2' σ' < M10 v2 σ))
def zq4_spread  (σ : zz_St) (Qp : zz_St → Prop) : Prop :=
∀ f18 : Nat → Int32, (∀ k, k < 1728 → f18 k = (0 : Int32)) →
∀ g20 : zz_St, g20 = zz_A σ 25 f18 →
zq4_spread_10 (0 : Int32) g20 Qp
def zq4_walksEndingAt_44 (v3 : Int32) (v4 : Int64) (v6 : Int32) (σ : zz_St) (Qp : Int64 → zz_St → Prop) : Prop :=
 ∃ (I44 : Int64 → Int32 → Prop) (M44 : Int64 → Int32 → Nat), I44 v4 v6 ∧ ∀ (v4 : Int64) (v6 : Int32), I44 v4 v6 →
(((24 : Int32) ≤ v6) →
  Qp v4 σ) ∧ (¬ ((24 : Int32) ≤ v6) →
  vp_in ((v3 * (24 : Int32)) + v6) 1728 ∧
  ∀ x10 : Int64, x10 = v4 + (((σ).2.1 24 ((v3 * (24 : Int32)) + v6).toNatClampNeg).toInt64) →
  I44 x10 (v6 + (1 : Int32)) ∧ M44 x10 (v6 + (1 : Int32)) < M44 v4 v6)
def zq4_walksEndingAt_21 (v2 : Int32) (v3 : Int32) (v4 : Int32) (σ : zz_St) (Qp : Int64 → zz_St → Prop) : Prop :=
 ∃ (I21 : Int32 → zz_St → Prop) (M21 : Int32 → zz_St → Nat), I21 v4 σ ∧ ∀ (v4 : Int32) (σ : zz_St), I21 v4 σ →
((v2 ≤ v4) →
  zq4_walksEndingAt_44 v3 (0 : Int64) (0 : Int32) σ Qp) ∧ (¬ (v2 ≤ v4) →
  zq4_spread  σ (fun g12 =>
    I21 (v4 + (1 : Int32)) g12 ∧ M21 (v4 + (1 : Int32)) g12 < M21 v4 σ))
def zq4_walksEndingAt (v2 : Int32) (v3 : Int32) (σ : zz_St) (Qp : Int64 → zz_St → Prop) : Prop :=
∀ f13 : Nat → Int32, (∀ k, k < 1728 → f13 k = (0 : Int32)) →
∀ g15 : zz_St, g15 = zz_A σ 24 f13 →
vp_in (g15.1 8) 1728 ∧
∀ g16 : zz_St, g16 = zz_A g15 24 (upd (g15.2.1 24) (g15.1 8).toNatClampNeg (1 : Int32)) →
zq4_walksEndingAt_21 v2 v3 (0 : Int32) g16 Qp
def zq6_copyFrom (v1 : Nat) (w : Nat) (σ : zz_St) (Qp : zz_St → Prop) : Prop :=
(¬ (0 : Int32) < 0) ∧ (¬ (0 : Int32) < 0) ∧ (¬ (36 : Int32) < 0) ∧ ((0 : Int32).toNatClampNeg + (36 : Int32).toNatClampNeg ≤ 36) ∧ ((0 : Int32).toNatClampNeg + (36 : Int32).toNatClampNeg ≤ 36) ∧
∀ g8 : zz_St, g8 = zz_A σ (14 + w) (va_cpy ((σ).2.1 (14 + v1)) ((σ).2.1 (14 + w)) (0 : Int32).toNatClampNeg (0 : Int32).toNatClampNeg (36 : Int32).toNatClampNeg) →
(¬ (0 : Int32) < 0) ∧ (¬ (0 : Int32) < 0) ∧ (¬ (36 : Int32) < 0) ∧ ((0 : Int32).toNatClampNeg + (36 : Int32).toNatClampNeg ≤ 36) ∧ ((0 : Int32).toNatClampNeg + (36 : Int32).toNatClampNeg ≤ 36) ∧
∀ g9 : zz_St, g9 = zz_A g8 (16 + w) (va_cpy (g8.2.1 (16 + v1)) (g8.2.1 (16 + w)) (0 : Int32).toNatClampNeg (0 : Int32).toNatClampNeg (36 : Int32).toNatClampNeg) →
∀ g10 : zz_St, g10 = zz_I g9 (2 + w) (g9.1 (2 + v1)) →
∀ g11 : zz_St, g11 = zz_I g10 (4 + w) (g10.1 (4 + v1)) →
∀ g12 : zz_St, g12 = zz_I g11 (6 + w) (g11.1 (6 + v1)) →
∀ g13 : zz_St, g13 = zz_I g12 (8 + w) (g12.1 (8 + v1)) →
∀ g14 : zz_St, g14 = zz_I g13 (10 + w) (g13.1 (10 + v1)) →
Qp g14
def zq6_clearPrints  (σ : zz_St) (Qp : zz_St → Prop) : Prop :=
∀ f4 : Nat → Int32, (∀ k, k < 36 → f4 k = (-1 : Int32)) →
∀ g6 : zz_St, g6 = zz_A σ 16 f4 →
Qp g6
def zq6_mayBePlaced_27 (s0 : Int32) (s1 : Int32) (σ : zz_St) (Qp : Int32 → Prop) : Prop :=
zq6_bears s1 s0 σ (fun r5 =>
  (r5 = 0 ∨ r5 = 1) ∧
  Qp r5 )
def zq6_mayBePlaced_14 (v1 : Int32) (s0 : Int32) (σ : zz_St) (Qp : Int32 → Prop) : Prop :=
((¬ v1 = (1 : Int32)) →
  zq6_mayBePlaced_27 (0 : Int32) s0 σ Qp) ∧ (v1 = (1 : Int32) →
  zq6_mayBePlaced_27 (1 : Int32) s0 σ Qp)
def zq6_mayBePlaced (v1 : Int32) (v2 : Int32) (σ : zz_St) (Qp : Int32 → Prop) : Prop :=
zq7_isTetra v1 (fun r7 =>
  ((r7 = 0) →
    zq6_mayBePlaced_14 v1 v2 σ Qp) ∧ (¬ (r7 = 0) →
    zq6_mayBePlaced_14 v1 (v2 / (2 : Int32)) σ Qp))
def zq6_setSolid (v1 : Int32) (v2 : Int32) (σ : zz_St) (Qp : zz_St → Prop) : Prop :=
∀ g3 : zz_St, g3 = zz_I σ 6 v1 →
∀ g4 : zz_St, g4 = zz_I g3 8 (v2 * (24 : Int32)) →
Qp g4
def zq6_readBoard_59 (v2 : Int32) (v3 : Int32) (σ : zz_St) (Qp : zz_St → Prop) (B9 : Int32 → Int32 → zz_St → Prop) : Prop :=
B9 v2 (v3 + (1 : Int32)) σ
def zq6_readBoard_83 (s0 : Int32) (σ : zz_St) (Qp : zz_St → Prop) : Prop :=
∀ g15 : zz_St, g15 = zz_I σ 4 s0 →
zq6_clearPrints  g15 (fun g16 =>
  zq6_mayBePlaced (g16.1 6) (0 : Int32) g16 (fun r17 =>
    ((r17 = 0) →
      ∀ g19 : zz_St, g19 = zz_I g16 8 (-1 : Int32) →
      Qp g19) ∧ (¬ (r17 = 0) →
      zq6_setSolid (g16.1 6) (0 : Int32) g16 (fun g20 =>
        Qp g20))))
def zq6_readBoard_9 (v2 : Int32) (v3 : Int32) (σ : zz_St) (Qp : zz_St → Prop) : Prop :=
 ∃ (I9 : Int32 → Int32 → zz_St → Prop) (M9 : Int32 → Int32 → zz_St → Nat), I9 v2 v3 σ ∧ ∀ (v2 : Int32) (v3 : Int32) (σ : zz_St), I9 v2 v3 σ →
((((σ).1 12) ≤ v3) →
  ((((σ).1 2) ≤ 0) →
    zq6_readBoard_83 (0 : Int32) σ Qp) ∧ (¬ (((σ).1 2) ≤ 0) →
    (¬ ((σ).1 2) = 0) ∧
    zq6_readBoard_83 (v2 / ((σ).1 2)) σ Qp)) ∧ (¬ (((σ).1 12) ≤ v3) →
  zq1_tileAt v3 σ (fun r23 =>
    ((0 ≤ r23) →
      (((36 : Int32) ≤ v2) →
        zq6_readBoard_59 v2 v3 σ Qp (fun v2' v3' σ' => I9 v2' v3' σ' ∧ M9 v2' v3' σ' < M9 v2 v3 σ)) ∧ (¬ ((36 : Int32) ≤ v2) →
        vp_in v2 36 ∧
        ∀ g26 : zz_St, g26 = zz_A σ 14 (upd ((σ).2.1 14) v2.toNatClampNeg r23) →
        zq6_readBoard_59 (v2 + (1 : Int32)) v3 g26 Qp (fun v2' v3' σ' => I9 v2' v3' σ' ∧ M9 v2' v3' σ' < M9 v2 v3 σ))) ∧ (¬ (0 ≤ r23) →
      ∀ g27 : zz_St, g27 = zz_I σ 2 (((σ).1 2) + (1 : Int32)) →
      zq6_readBoard_59 v2 v3 g27 Qp (fun v2' v3' σ' => I9 v2' v3' σ' ∧ M9 v2' v3' σ' < M9 v2 v3 σ))))
def zq6_readBoard  (σ : zz_St) (Qp : zz_St → Prop) : Prop :=
∀ g28 : zz_St, g28 = zz_I σ 2 (0 : Int32) →
zq6_readBoard_9 (0 : Int32) (0 : Int32) g28 Qp
def zq6_hasTile (v1 : Int32) (σ : zz_St) (Qp : Int32 → Prop) : Prop :=
((v1 < 0) →
  Qp (0 : Int32) ) ∧ (¬ (v1 < 0) →
  zq6_tileCount  σ (fun r5 =>
    ((r5 ≤ v1) →
      Qp (0 : Int32) ) ∧ (¬ (r5 ≤ v1) →
      Qp (1 : Int32) )))
def zq6_hasPlace_17 (s0 : Int32) (s1 : Int32) (σ : zz_St) (Qp : Int32 → Prop) : Prop :=
zq6_tileCount  σ (fun r6 =>
  (((s0 * r6) ≤ s1) →
    Qp (0 : Int32) ) ∧ (¬ ((s0 * r6) ≤ s1) →
    Qp (1 : Int32) ))
def zq6_hasPlace (v1 : Int32) (v2 : Int32) (σ : zz_St) (Qp : Int32 → Prop) : Prop :=
((v2 < 0) →
  Qp (0 : Int32) ) ∧ (¬ (v2 < 0) →
  zq7_isTetra v1 (fun r9 =>
    ((r9 = 0) →
      zq6_hasPlace_17 (1 : Int32) v2 σ Qp) ∧ (¬ (r9 = 0) →
      zq6_hasPlace_17 (2 : Int32) v2 σ Qp)))
def zq6_isNone  (σ : zz_St) (Qp : Int32 → Prop) : Prop :=
((0 ≤ ((σ).1 8)) →
  Qp (0 : Int32) ) ∧ (¬ (0 ≤ ((σ).1 8)) →
  Qp (1 : Int32) )
def zq6_placeNow  (σ : zz_St) (Qp : Int32 → Prop) : Prop :=
Qp (((σ).1 8) / (24 : Int32)) 
def zq6_stances  (σ : zz_St) (Qp : Nat → Prop) : Prop :=
zq7_isTetra ((σ).1 6) (fun r3 =>
  ((r3 = 0) →
    Qp (0) ) ∧ (¬ (r3 = 0) →
    Qp (1) ))
def zq6_stands (v1 : Int32) (σ : zz_St) (Qp : Int32 → Prop) : Prop :=
zq6_lie (v1 - v1 / (24 : Int32) * (24 : Int32)) σ (fun r3 =>
  ((¬ r3 = 0) →
    Qp (0 : Int32) ) ∧ (r3 = 0 →
    Qp (1 : Int32) ))
def zq6_wouldBar_32 (v1 : Int32) (s0 : Int32) (σ : zz_St) (Qp : Int32 → Prop) : Prop :=
((v1 = (1 : Int32)) →
  Qp (1 : Int32) ) ∧ (¬ (v1 = (1 : Int32)) →
  ((s0 = 0) →
    Qp (0 : Int32) ) ∧ (¬ (s0 = 0) →
    ((¬ v1 = (2 : Int32)) →
      Qp (0 : Int32) ) ∧ (v1 = (2 : Int32) →
      Qp (1 : Int32) )))
def zq6_wouldBar_27 (v1 : Int32) (σ : zz_St) (Qp : Int32 → Prop) : Prop :=
zq6_wouldBar_32 v1 (1 : Int32) σ Qp
def zq6_wouldBar_31 (v1 : Int32) (σ : zz_St) (Qp : Int32 → Prop) : Prop :=
zq6_wouldBar_32 v1 (0 : Int32) σ Qp
def zq6_wouldBar (v1 : Int32) (σ : zz_St) (Qp : Int32 → Prop) : Prop :=
((((σ).1 6) = (1 : Int32)) →
  zq6_wouldBar_27 v1 σ Qp) ∧ (¬ (((σ).1 6) = (1 : Int32)) →
  ((¬ ((σ).1 6) = (3 : Int32)) →
    zq6_wouldBar_31 v1 σ Qp) ∧ (((σ).1 6) = (3 : Int32) →
    zq6_stands ((σ).1 8) σ (fun r13 =>
      ((¬ r13 = 0) →
        zq6_wouldBar_31 v1 σ Qp) ∧ (r13 = 0 →
        zq6_wouldBar_27 v1 σ Qp))))
def zq6_isOn (v1 : Int32) (σ : zz_St) (Qp : Int32 → Prop) : Prop :=
zq6_isNone  σ (fun r5 =>
  ((¬ r5 = 0) →
    Qp (0 : Int32) ) ∧ (r5 = 0 →
    zq6_tilesUnder ((σ).1 8) σ (fun r7 =>
      ((¬ (lg_cmp ((r7 >>> (v1.toInt64 &&& 63)) &&& (1 : Int64)) (1 : Int64)) = 0) →
        Qp (0 : Int32) ) ∧ ((lg_cmp ((r7 >>> (v1.toInt64 &&& 63)) &&& (1 : Int64)) (1 : Int64)) = 0 →
        Qp (1 : Int32) ))))
def zq6_countTiles_25 (v1 : Int32) (v2 : Int32) (v3 : Int32) (σ : zz_St) (Qp : Int32 → Prop) (B4 : Int32 → Int32 → Prop) : Prop :=
B4 v2 (v3 + (1 : Int32))
def zq6_countTiles_4 (v1 : Int32) (v2 : Int32) (v3 : Int32) (σ : zz_St) (Qp : Int32 → Prop) : Prop :=
 ∃ (I4 : Int32 → Int32 → Prop) (M4 : Int32 → Int32 → Nat), I4 v2 v3 ∧ ∀ (v2 : Int32) (v3 : Int32), I4 v2 v3 →
zq6_tileCount  σ (fun r4 =>
  ((r4 ≤ v3) →
    Qp v2 ) ∧ (¬ (r4 ≤ v3) →
    vp_in v3 36 ∧
    ((¬ ((σ).2.1 14 v3.toNatClampNeg) = v1) →
      zq6_countTiles_25 v1 v2 v3 σ Qp (fun v2' v3' => I4 v2' v3' ∧ M4 v2' v3' < M4 v2 v3)) ∧ (((σ).2.1 14 v3.toNatClampNeg) = v1 →
      zq6_countTiles_25 v1 (v2 + (1 : Int32)) v3 σ Qp (fun v2' v3' => I4 v2' v3' ∧ M4 v2' v3' < M4 v2 v3))))
def zq6_countTiles (v1 : Int32) (σ : zz_St) (Qp : Int32 → Prop) : Prop :=
zq6_countTiles_4 v1 (0 : Int32) (0 : Int32) σ Qp
def zq6_countPrints_25 (v1 : Int32) (v2 : Int32) (σ : zz_St) (Qp : Int32 → Prop) (B4 : Int32 → Int32 → Prop) : Prop :=
B4 v1 (v2 + (1 : Int32))
def zq6_countPrints_4 (v1 : Int32) (v2 : Int32) (σ : zz_St) (Qp : Int32 → Prop) : Prop :=
 ∃ (I4 : Int32 → Int32 → Prop) (M4 : Int32 → Int32 → Nat), I4 v1 v2 ∧ ∀ (v1 : Int32) (v2 : Int32), I4 v1 v2 →
zq6_tileCount  σ (fun r4 =>
  ((r4 ≤ v2) →
    Qp v1 ) ∧ (¬ (r4 ≤ v2) →
    vp_in v2 36 ∧
    ((((σ).2.1 16 v2.toNatClampNeg) = (-1 : Int32)) →
      zq6_countPrints_25 v1 v2 σ Qp (fun v1' v2' => I4 v1' v2' ∧ M4 v1' v2' < M4 v1 v2)) ∧ (¬ (((σ).2.1 16 v2.toNatClampNeg) = (-1 : Int32)) →
      zq6_countPrints_25 (v1 + (1 : Int32)) v2 σ Qp (fun v1' v2' => I4 v1' v2' ∧ M4 v1' v2' < M4 v1 v2))))
def zq6_countPrints  (σ : zz_St) (Qp : Int32 → Prop) : Prop :=
zq6_countPrints_4 (0 : Int32) (0 : Int32) σ Qp
def zq6_printBelow_41 (v1 : Int64) (v3 : Int32) (σ : zz_St) (Qp : zz_St → Prop) (B11 : Int32 → zz_St → Prop) : Prop :=
B11 (v3 + (1 : Int32)) σ
def zq6_printBelow_11 (v1 : Int64) (v3 : Int32) (σ : zz_St) (Qp : zz_St → Prop) : Prop :=
 ∃ (I11 : Int32 → zz_St → Prop) (M11 : Int32 → zz_St → Nat), I11 v3 σ ∧ ∀ (v3 : Int32) (σ : zz_St), I11 v3 σ →
(((36 : Int32) ≤ v3) →
  Qp σ) ∧ (¬ ((36 : Int32) ≤ v3) →
  ((¬ (lg_cmp ((v1 >>> (v3.toInt64 &&& 63)) &&& (1 : Int64)) (1 : Int64)) = 0) →
    zq6_printBelow_41 v1 v3 σ Qp (fun v3' σ' => I11 v3' σ' ∧ M11 v3' σ' < M11 v3 σ)) ∧ ((lg_cmp ((v1 >>> (v3.toInt64 &&& 63)) &&& (1 : Int64)) (1 : Int64)) = 0 →
    zq6_faceBelow ((σ).1 8) σ (fun r8 =>
      vp_in v3 36 ∧
      ∀ g9 : zz_St, g9 = zz_A σ 16 (upd ((σ).2.1 16) v3.toNatClampNeg r8) →
      zq6_printBelow_41 v1 v3 g9 Qp (fun v3' σ' => I11 v3' σ' ∧ M11 v3' σ' < M11 v3 σ))))
def zq6_printBelow  (σ : zz_St) (Qp : zz_St → Prop) : Prop :=
zq6_tilesUnder ((σ).1 8) σ (fun r10 =>
  zq6_printBelow_11 r10 (0 : Int32) σ Qp)
def zq6_positionOf (v1 : Int32) (σ : zz_St) (Qp : Int32 → Prop) : Prop :=
zq6_stances  σ (fun r3 =>
  (r3 < 2) ∧
  zq5_positionOf (((σ).1 8) - ((σ).1 8) / (24 : Int32) * (24 : Int32)) v1 r3 σ (fun r4 =>
    Qp r4 ))
def zq6_pointsUp (v1 : Int32) (σ : zz_St) (Qp : Int32 → Prop) : Prop :=
∀ x5 : Int32, x5 = (2 : Int32) * ((σ).1 4) →
zq6_rowOf v1 x5 (fun r6 =>
  ∀ x7 : Int32, x7 = v1 - (r6 * x5) →
  ((¬ ((r6 + x7) - (r6 + x7) / (2 : Int32) * (2 : Int32)) = 0) →
    Qp (0 : Int32) ) ∧ (((r6 + x7) - (r6 + x7) / (2 : Int32) * (2 : Int32)) = 0 →
    Qp (1 : Int32) ))
def zq7_refuse (v1 : Int32) (σ : zz_St) (Qp : Int32 → zz_St → Prop) : Prop :=
∀ x5 : Int32, x5 = -v1 →
((x5 < 0) →
  Qp v1 σ) ∧ (¬ (x5 < 0) →
  (((7 : Int32) ≤ x5) →
    Qp v1 σ) ∧ (¬ ((7 : Int32) ≤ x5) →
    vp_in x5 7 ∧
    vp_in x5 7 ∧
    ∀ g8 : zz_St, g8 = zz_A σ 45 (upd ((σ).2.1 45) x5.toNatClampNeg (((σ).2.1 45 x5.toNatClampNeg) + (1 : Int32))) →
    Qp v1 g8))
def zq7_letter_28  (σ : zz_St) (Qp : Int32 → zz_St → Prop) : Prop :=
zq7_refuse (-6 : Int32) σ (fun r10 g11 =>
  Qp r10 g11)
def zq7_letter (v1 : Int32) (σ : zz_St) (Qp : Int32 → zz_St → Prop) : Prop :=
((0 ≤ v1) →
  (((255 : Int32) < v1) →
    zq7_letter_28 σ Qp) ∧ (¬ ((255 : Int32) < v1) →
    zq1_isFull  σ (fun r14 =>
      ((r14 = 0) →
        zq1_append v1 σ (fun g16 =>
          Qp (g16.1 12) g16)) ∧ (¬ (r14 = 0) →
        zq7_letter_28 σ Qp)))) ∧ (¬ (0 ≤ v1) →
  zq7_refuse (-4 : Int32) σ (fun r17 g18 =>
    Qp r17 g18))
def zq7_board_30 (v1 : Int32) (σ : zz_St) (Qp : Int32 → zz_St → Prop) : Prop :=
zq1_clear  σ (fun g8 =>
  ((0 ≤ v1) →
    Qp ((-1000 : Int32) - v1) g8) ∧ (¬ (0 ≤ v1) →
    zq6_tileCount  g8 (fun r10 =>
      Qp r10 g8)))
def zq7_board  (σ : zz_St) (Qp : Int32 → zz_St → Prop) : Prop :=
zq1_boardFault  σ (fun r11 =>
  ((0 ≤ r11) →
    zq7_board_30 r11 σ Qp) ∧ (¬ (0 ≤ r11) →
    zq6_readBoard  σ (fun g13 =>
      zq0_forget  g13 (fun g14 =>
        zq7_board_30 r11 g14 Qp))))
def zq7_tile_26  (σ : zz_St) (Qp : Int32 → zz_St → Prop) : Prop :=
zq7_refuse (-2 : Int32) σ (fun r17 g18 =>
  Qp r17 g18)
def zq7_tile_62 (v1 : Int32) (v2 : Int32) (σ : zz_St) (Qp : Int32 → zz_St → Prop) : Prop :=
vp_in v1 36 ∧
∀ x19 : Int32, x19 = (σ).2.1 14 v1.toNatClampNeg →
vp_in v1 36 ∧
∀ g20 : zz_St, g20 = zz_A σ 14 (upd ((σ).2.1 14) v1.toNatClampNeg v2) →
Qp x19 g20
def zq7_tile (v1 : Int32) (v2 : Int32) (σ : zz_St) (Qp : Int32 → zz_St → Prop) : Prop :=
zq6_hasTile v1 σ (fun r21 =>
  ((¬ r21 = 0) →
    ((v2 < 0) →
      zq7_tile_26 σ Qp) ∧ (¬ (v2 < 0) →
      ((v2 ≤ (2 : Int32)) →
        zq6_isOn v1 σ (fun r25 =>
          ((r25 = 0) →
            zq7_tile_62 v1 v2 σ Qp) ∧ (¬ (r25 = 0) →
            zq6_wouldBar v2 σ (fun r27 =>
              ((r27 = 0) →
                zq7_tile_62 v1 v2 σ Qp) ∧ (¬ (r27 = 0) →
                zq7_refuse (-3 : Int32) σ (fun r29 g30 =>
                  Qp r29 g30)))))) ∧ (¬ (v2 ≤ (2 : Int32)) →
        zq7_tile_26 σ Qp))) ∧ (r21 = 0 →
    zq7_refuse (-1 : Int32) σ (fun r31 g32 =>
      Qp r31 g32)))
def zq7_of_26  (σ : zz_St) (Qp : Int32 → zz_St → Prop) : Prop :=
zq7_refuse (-2 : Int32) σ (fun r11 g12 =>
  Qp r11 g12)
def zq7_of (v1 : Int32) (v2 : Int32) (σ : zz_St) (Qp : Int32 → zz_St → Prop) : Prop :=
zq6_hasTile v1 σ (fun r13 =>
  ((¬ r13 = 0) →
    ((v2 < 0) →
      zq7_of_26 σ Qp) ∧ (¬ (v2 < 0) →
      ((v2 ≤ (1 : Int32)) →
        ((¬ v2 = 0) →
          vp_in v1 36 ∧
          ((¬ ((σ).2.1 16 v1.toNatClampNeg) = (-1 : Int32)) →
            vp_in v1 36 ∧
            Qp ((σ).2.1 16 v1.toNatClampNeg) σ) ∧ (((σ).2.1 16 v1.toNatClampNeg) = (-1 : Int32) →
            Qp (-9 : Int32) σ)) ∧ (v2 = 0 →
          vp_in v1 36 ∧
          Qp ((σ).2.1 14 v1.toNatClampNeg) σ)) ∧ (¬ (v2 ≤ (1 : Int32)) →
        zq7_of_26 σ Qp))) ∧ (r13 = 0 →
    zq7_refuse (-1 : Int32) σ (fun r19 g20 =>
      Qp r19 g20)))
def zq7_isKind (v0 : Int32) (Qp : Int32 → Prop) : Prop :=
((v0 < 0) →
  Qp (0 : Int32) ) ∧ (¬ (v0 < 0) →
  (((6 : Int32) ≤ v0) →
    Qp (0 : Int32) ) ∧ (¬ ((6 : Int32) ≤ v0) →
    Qp (1 : Int32) ))
def zq7_places (v1 : Int32) (v2 : Int32) (σ : zz_St) (Qp : Int32 → zz_St → Prop) : Prop :=
zq7_isKind v1 (fun r15 =>
  ((¬ r15 = 0) →
    zq6_hasPlace v1 v2 σ (fun r17 =>
      ((¬ r17 = 0) →
        zq6_mayBePlaced v1 v2 σ (fun r19 =>
          ((¬ r19 = 0) →
            zq6_setSolid v1 v2 σ (fun g21 =>
              zq0_forget  g21 (fun g22 =>
                Qp (1 : Int32) g22))) ∧ (r19 = 0 →
            zq7_refuse (-3 : Int32) σ (fun r23 g24 =>
              Qp r23 g24)))) ∧ (r17 = 0 →
        zq7_refuse (-1 : Int32) σ (fun r25 g26 =>
          Qp r25 g26)))) ∧ (r15 = 0 →
    zq7_refuse (-2 : Int32) σ (fun r27 g28 =>
      Qp r27 g28)))
def zq7_ink_9  (σ : zz_St) (Qp : Int32 → zz_St → Prop) : Prop :=
zq7_refuse (-2 : Int32) σ (fun r7 g8 =>
  Qp r7 g8)
def zq7_ink (v1 : Int32) (σ : zz_St) (Qp : Int32 → zz_St → Prop) : Prop :=
((v1 < 0) →
  zq7_ink_9 σ Qp) ∧ (¬ (v1 < 0) →
  ((v1 ≤ (1 : Int32)) →
    ∀ x11 : Int32, x11 = (σ).1 10 →
    ∀ g12 : zz_St, g12 = zz_I σ 10 v1 →
    Qp x11 g12) ∧ (¬ (v1 ≤ (1 : Int32)) →
    zq7_ink_9 σ Qp))
def zq7_wipes  (σ : zz_St) (Qp : Int32 → zz_St → Prop) : Prop :=
zq6_countPrints  σ (fun r3 =>
  zq6_clearPrints  σ (fun g4 =>
    Qp r3 g4))
def zqJ13_bitCount_95d88 (v0 : Int64) (Qp : Int32 → Prop) : Prop :=
∀ x7 : Int64, x7 = v0 - (((v0.toUInt64 >>> ((1 : Int32).toInt64.toUInt64 &&& Int64.toUInt64 63)).toInt64) &&& (6148914691236517205 : Int64)) →
∀ x8 : Int64, x8 = (x7 &&& (3689348814741910323 : Int64)) + (((x7.toUInt64 >>> ((2 : Int32).toInt64.toUInt64 &&& Int64.toUInt64 63)).toInt64) &&& (3689348814741910323 : Int64)) →
∀ x9 : Int64, x9 = (x8 + ((x8.toUInt64 >>> ((4 : Int32).toInt64.toUInt64 &&& Int64.toUInt64 63)).toInt64)) &&& (1085102592571150095 : Int64) →
∀ x10 : Int64, x10 = x9 + ((x9.toUInt64 >>> ((8 : Int32).toInt64.toUInt64 &&& Int64.toUInt64 63)).toInt64) →
∀ x11 : Int64, x11 = x10 + ((x10.toUInt64 >>> ((16 : Int32).toInt64.toUInt64 &&& Int64.toUInt64 63)).toInt64) →
∀ x12 : Int64, x12 = x11 + ((x11.toUInt64 >>> ((32 : Int32).toInt64.toUInt64 &&& Int64.toUInt64 63)).toInt64) →
Qp ((x12.toInt32) &&& (127 : Int32)) 
def zq7_aboutSolid (v1 : Int32) (σ : zz_St) (Qp : Int32 → Prop) : Prop :=
(v1 = (0 : Int32) →
  Qp ((σ).1 6) ) ∧ (¬ v1 = (0 : Int32) →
(v1 = (1 : Int32) →
  zq6_placeNow  σ (fun r14 =>
    Qp r14 )) ∧ (¬ v1 = (1 : Int32) →
(v1 = (2 : Int32) →
  zq6_faceBelow ((σ).1 8) σ (fun r15 =>
    Qp r15 )) ∧ (¬ v1 = (2 : Int32) →
(v1 = (3 : Int32) →
  zq6_tilesUnder ((σ).1 8) σ (fun r16 =>
    zqJ13_bitCount_95d88 r16 (fun r17 =>
      Qp r17 ))) ∧ (¬ v1 = (3 : Int32) →
(v1 = (4 : Int32) →
  zq7_isBlock ((σ).1 6) (fun r18 =>
    ((r18 = 0) →
      Qp (0 : Int32) ) ∧ (¬ (r18 = 0) →
      zq6_stands ((σ).1 8) σ (fun r20 =>
        ((r20 = 0) →
          Qp (0 : Int32) ) ∧ (¬ (r20 = 0) →
          Qp (1 : Int32) ))))) ∧ (¬ v1 = (4 : Int32) →
  zq7_isTetra ((σ).1 6) (fun r22 =>
    ((r22 = 0) →
      Qp (0 : Int32) ) ∧ (¬ (r22 = 0) →
      zq6_placeNow  σ (fun r24 =>
        zq6_pointsUp r24 σ (fun r25 =>
          ((r25 = 0) →
            Qp (0 : Int32) ) ∧ (¬ (r25 = 0) →
            Qp (1 : Int32) ))))))))))
def zq7_solid_59 (v1 : Int32) (v3 : Int32) (σ : zz_St) (Qp : Int32 → zz_St → Prop) : Prop :=
zq6_isNone  σ (fun r17 =>
  ((r17 = 0) →
    ((v3 = 0) →
      zq7_aboutSolid v1 σ (fun r20 =>
        Qp r20 σ)) ∧ (¬ (v3 = 0) →
      zq6_positionOf (v1 - (10 : Int32)) σ (fun r21 =>
        Qp r21 σ))) ∧ (¬ (r17 = 0) →
    zq7_refuse (-3 : Int32) σ (fun r22 g23 =>
      Qp r22 g23)))
def zq7_solid_43 (v1 : Int32) (v2 : Int32) (s0 : Int32) (σ : zz_St) (Qp : Int32 → zz_St → Prop) : Prop :=
((¬ v2 = 0) →
  zq7_solid_59 v1 s0 σ Qp) ∧ (v2 = 0 →
  ((¬ s0 = 0) →
    zq7_solid_59 v1 s0 σ Qp) ∧ (s0 = 0 →
    zq7_refuse (-2 : Int32) σ (fun r26 g27 =>
      Qp r26 g27)))
def zq7_solid_42 (v1 : Int32) (v2 : Int32) (σ : zz_St) (Qp : Int32 → zz_St → Prop) : Prop :=
zq7_solid_43 v1 v2 (0 : Int32) σ Qp
def zq7_solid_14 (v1 : Int32) (s0 : Int32) (σ : zz_St) (Qp : Int32 → zz_St → Prop) : Prop :=
((v1 < (10 : Int32)) →
  zq7_solid_42 v1 s0 σ Qp) ∧ (¬ (v1 < (10 : Int32)) →
  zq6_stances  σ (fun r29 =>
    (r29 < 2) ∧
    ((((10 : Int32) + ((σ).1 (16 + r29))) ≤ v1) →
      zq7_solid_42 v1 s0 σ Qp) ∧ (¬ (((10 : Int32) + ((σ).1 (16 + r29))) ≤ v1) →
      zq7_solid_43 v1 s0 (1 : Int32) σ Qp)))
def zq7_solid_13 (v1 : Int32) (σ : zz_St) (Qp : Int32 → zz_St → Prop) : Prop :=
zq7_solid_14 v1 (0 : Int32) σ Qp
def zq7_solid (v1 : Int32) (σ : zz_St) (Qp : Int32 → zz_St → Prop) : Prop :=
((v1 < 0) →
  zq7_solid_13 v1 σ Qp) ∧ (¬ (v1 < 0) →
  (((5 : Int32) < v1) →
    zq7_solid_13 v1 σ Qp) ∧ (¬ ((5 : Int32) < v1) →
    zq7_solid_14 v1 (1 : Int32) σ Qp))
def zq7_rollTruly (v1 : Int32) (σ : zz_St) (Qp : Int32 → zz_St → Prop) : Prop :=
zq6_rolled ((σ).1 8) v1 σ (fun r7 =>
  ((0 ≤ r7) →
    zq0_keep  σ (fun g9 =>
      ∀ g10 : zz_St, g10 = zz_I g9 8 r7 →
      ((¬ (g10.1 10) = (1 : Int32)) →
        Qp (1 : Int32) g10) ∧ ((g10.1 10) = (1 : Int32) →
        zq6_printBelow  g10 (fun g12 =>
          Qp (1 : Int32) g12)))) ∧ (¬ (0 ≤ r7) →
    Qp (0 : Int32) σ))
def zq7_roll_9  (σ : zz_St) (Qp : Int32 → zz_St → Prop) : Prop :=
zq7_refuse (-2 : Int32) σ (fun r13 g14 =>
  Qp r13 g14)
def zq7_roll_34  (σ : zz_St) (Qp : Int32 → zz_St → Prop) : Prop :=
zq7_refuse (-3 : Int32) σ (fun r15 g16 =>
  Qp r15 g16)
def zq7_roll (v1 : Int32) (σ : zz_St) (Qp : Int32 → zz_St → Prop) : Prop :=
((v1 < 0) →
  zq7_roll_9 σ Qp) ∧ (¬ (v1 < 0) →
  ((v1 < (4 : Int32)) →
    zq6_isNone  σ (fun r19 =>
      ((¬ r19 = 0) →
        zq7_roll_34 σ Qp) ∧ (r19 = 0 →
        zq7_rollTruly v1 σ (fun r21 g22 =>
          ((¬ r21 = 0) →
            zq6_faceBelow (g22.1 8) g22 (fun r24 =>
              Qp r24 g22)) ∧ (r21 = 0 →
            zq7_roll_34 g22 Qp))))) ∧ (¬ (v1 < (4 : Int32)) →
    zq7_roll_9 σ Qp))
def zq7_ways_50 (v1 : Int32) (v2 : Int32) (σ : zz_St) (Qp : Int32 → zz_St → Prop) (B21 : Int32 → Int32 → Prop) : Prop :=
B21 v1 (v2 + (1 : Int32))
def zq7_ways_21 (v1 : Int32) (v2 : Int32) (σ : zz_St) (Qp : Int32 → zz_St → Prop) : Prop :=
 ∃ (I21 : Int32 → Int32 → Prop) (M21 : Int32 → Int32 → Nat), I21 v1 v2 ∧ ∀ (v1 : Int32) (v2 : Int32), I21 v1 v2 →
(((4 : Int32) ≤ v2) →
  Qp v1 σ) ∧ (¬ ((4 : Int32) ≤ v2) →
  zq6_rolled ((σ).1 8) v2 σ (fun r10 =>
    ((r10 < 0) →
      zq7_ways_50 v1 v2 σ Qp (fun v1' v2' => I21 v1' v2' ∧ M21 v1' v2' < M21 v1 v2)) ∧ (¬ (r10 < 0) →
      ∀ x12 : Int32, x12 = v1 ||| ((1 : Int32) <<< (v2 &&& 31)) →
      zq7_ways_50 x12 v2 σ Qp (fun v1' v2' => I21 v1' v2' ∧ M21 v1' v2' < M21 v1 v2))))
def zq7_ways  (σ : zz_St) (Qp : Int32 → zz_St → Prop) : Prop :=
zq6_isNone  σ (fun r13 =>
  ((r13 = 0) →
    zq7_ways_21 (0 : Int32) (0 : Int32) σ Qp) ∧ (¬ (r13 = 0) →
    zq7_refuse (-3 : Int32) σ (fun r15 g16 =>
      Qp r15 g16)))
def zq7_walks_75 (v1 : Int32) (v2 : Int32) (v3 : Int32) (σ : zz_St) (Qp : Int32 → zz_St → Prop) (B23 : Int32 → Int32 → Int32 → zz_St → Prop) : Prop :=
B23 v1 v2 (v3 + (1 : Int32)) σ
def zq7_walks_67 (v1 : Int32) (v3 : Int32) (s0 : Int32) (σ : zz_St) (Qp : Int32 → zz_St → Prop) (B23 : Int32 → Int32 → Int32 → zz_St → Prop) : Prop :=
((s0 = 0) →
  zq7_walks_75 v1 s0 v3 σ Qp B23) ∧ (¬ (s0 = 0) →
  zq7_walks_75 (v1 + (1 : Int32)) s0 v3 σ Qp B23)
def zq7_walks_66 (v1 : Int32) (v3 : Int32) (σ : zz_St) (Qp : Int32 → zz_St → Prop) (B23 : Int32 → Int32 → Int32 → zz_St → Prop) : Prop :=
zq7_walks_67 v1 v3 (0 : Int32) σ Qp B23
def zq7_walks_81 (v1 : Int32) (σ : zz_St) (Qp : Int32 → zz_St → Prop) : Prop :=
zq1_clear  σ (fun g15 =>
  Qp v1 g15)
def zq7_walks_23 (v1 : Int32) (v2 : Int32) (v3 : Int32) (σ : zz_St) (Qp : Int32 → zz_St → Prop) : Prop :=
 ∃ (I23 : Int32 → Int32 → Int32 → zz_St → Prop) (M23 : Int32 → Int32 → Int32 → zz_St → Nat), I23 v1 v2 v3 σ ∧ ∀ (v1 : Int32) (v2 : Int32) (v3 : Int32) (σ : zz_St), I23 v1 v2 v3 σ →
((((σ).1 12) ≤ v3) →
  zq7_walks_81 v1 σ Qp) ∧ (¬ (((σ).1 12) ≤ v3) →
  ((v2 = 0) →
    zq7_walks_81 v1 σ Qp) ∧ (¬ (v2 = 0) →
    zq1_wayAt v3 σ (fun r18 =>
      ((r18 < 0) →
        zq7_walks_66 v1 v3 σ Qp (fun v1' v2' v3' σ' => I23 v1' v2' v3' σ' ∧ M23 v1' v2' v3' σ' < M23 v1 v2 v3 σ)) ∧ (¬ (r18 < 0) →
        zq7_rollTruly r18 σ (fun r20 g21 =>
          ((r20 = 0) →
            zq7_walks_66 v1 v3 g21 Qp (fun v1' v2' v3' σ' => I23 v1' v2' v3' σ' ∧ M23 v1' v2' v3' σ' < M23 v1 v2 v3 σ)) ∧ (¬ (r20 = 0) →
            zq7_walks_67 v1 v3 (1 : Int32) g21 Qp (fun v1' v2' v3' σ' => I23 v1' v2' v3' σ' ∧ M23 v1' v2' v3' σ' < M23 v1 v2 v3 σ)))))))
def zq7_walks  (σ : zz_St) (Qp : Int32 → zz_St → Prop) : Prop :=
zq6_isNone  σ (fun r23 =>
  ((r23 = 0) →
    zq7_walks_23 (0 : Int32) (1 : Int32) (0 : Int32) σ Qp) ∧ (¬ (r23 = 0) →
    zq7_refuse (-3 : Int32) σ (fun r25 g26 =>
      Qp r25 g26)))
def zq7_judge_64 (v2 : Int32) (s0 : Int32) (σ : zz_St) (Qp : Int32 → zz_St → Prop) (B27 : Int32 → Int32 → Prop) : Prop :=
((0 ≤ s0) →
  B27 s0 (v2 + (1 : Int32))) ∧ (¬ (0 ≤ s0) →
  Qp v2 σ)
def zq7_judge_27 (v1 : Int32) (v2 : Int32) (σ : zz_St) (Qp : Int32 → zz_St → Prop) : Prop :=
 ∃ (I27 : Int32 → Int32 → Prop) (M27 : Int32 → Int32 → Nat), I27 v1 v2 ∧ ∀ (v1 : Int32) (v2 : Int32), I27 v1 v2 →
((((σ).1 12) ≤ v2) →
  Qp (-9 : Int32) σ) ∧ (¬ (((σ).1 12) ≤ v2) →
  zq1_wayAt v2 σ (fun r13 =>
    ((0 ≤ r13) →
      zq6_rolled v1 r13 σ (fun r15 =>
        zq7_judge_64 v2 r15 σ Qp (fun v1' v2' => I27 v1' v2' ∧ M27 v1' v2' < M27 v1 v2))) ∧ (¬ (0 ≤ r13) →
      zq7_judge_64 v2 (-1 : Int32) σ Qp (fun v1' v2' => I27 v1' v2' ∧ M27 v1' v2' < M27 v1 v2))))
def zq7_judge  (σ : zz_St) (Qp : Int32 → zz_St → Prop) : Prop :=
zq6_isNone  σ (fun r16 =>
  ((r16 = 0) →
    ∀ x18 : Int32, x18 = (σ).1 8 →
    zq7_judge_27 x18 (0 : Int32) σ Qp) ∧ (¬ (r16 = 0) →
    zq7_refuse (-3 : Int32) σ (fun r19 g20 =>
      Qp r19 g20)))
def zq7_undo  (σ : zz_St) (Qp : Int32 → zz_St → Prop) : Prop :=
((¬ ((σ).1 15) = 0) →
  zq0_bringBack  σ (fun g6 =>
    Qp (g6.1 15) g6)) ∧ (((σ).1 15) = 0 →
  zq7_refuse (-3 : Int32) σ (fun r7 g8 =>
    Qp r7 g8))
def zq7_reached_9  (σ : zz_St) (Qp : Int32 → zz_St → Prop) : Prop :=
zq7_refuse (-2 : Int32) σ (fun r19 g20 =>
  Qp r19 g20)
def zq7_reached (v1 : Int32) (σ : zz_St) (Qp : Int32 → zz_St → Prop) : Prop :=
((v1 < 0) →
  zq7_reached_9 σ Qp) ∧ (¬ (v1 < 0) →
  ((v1 ≤ (3 : Int32)) →
    zq6_isNone  σ (fun r23 =>
      ((r23 = 0) →
        ((¬ v1 = (2 : Int32)) →
          zq4_floodAll  σ (fun g26 =>
            ((¬ v1 = 0) →
              ((¬ v1 = (1 : Int32)) →
                zq4_farthest  g26 (fun r29 =>
                  Qp r29 g26)) ∧ (v1 = (1 : Int32) →
                zq4_countPlaces  g26 (fun r30 g31 =>
                  Qp r30 g31))) ∧ (v1 = 0 →
              Qp (g26.1 13) g26))) ∧ (v1 = (2 : Int32) →
          zq4_hasEven  σ (fun r32 g33 =>
            ((r32 = 0) →
              Qp (0 : Int32) g33) ∧ (¬ (r32 = 0) →
              Qp (1 : Int32) g33)))) ∧ (¬ (r23 = 0) →
        zq7_refuse (-3 : Int32) σ (fun r35 g36 =>
          Qp r35 g36)))) ∧ (¬ (v1 ≤ (3 : Int32)) →
    zq7_reached_9 σ Qp))
def zq7_isFace (v1 : Int32) (σ : zz_St) (Qp : Int32 → Prop) : Prop :=
((v1 < 0) →
  Qp (0 : Int32) ) ∧ (¬ (v1 < 0) →
  zq6_stances  σ (fun r5 =>
    (r5 < 2) ∧
    ((((σ).1 (16 + r5)) ≤ v1) →
      Qp (0 : Int32) ) ∧ (¬ (((σ).1 (16 + r5)) ≤ v1) →
      Qp (1 : Int32) )))
def zq7_isGoal (v1 : Int32) (v2 : Int32) (σ : zz_St) (Qp : Int32 → Prop) : Prop :=
zq6_hasPlace ((σ).1 6) v1 σ (fun r6 =>
  ((r6 = 0) →
    Qp (0 : Int32) ) ∧ (¬ (r6 = 0) →
    ((v2 = (-1 : Int32)) →
      Qp (1 : Int32) ) ∧ (¬ (v2 = (-1 : Int32)) →
      zq7_isFace v2 σ (fun r9 =>
        ((r9 = 0) →
          Qp (0 : Int32) ) ∧ (¬ (r9 = 0) →
          Qp (1 : Int32) )))))
def zq7_soonest (v1 : Int32) (v2 : Int32) (σ : zz_St) (Qp : Int32 → zz_St → Prop) : Prop :=
zq7_isGoal v1 v2 σ (fun r12 =>
  ((¬ r12 = 0) →
    zq6_isNone  σ (fun r14 =>
      ((r14 = 0) →
        zq4_floodTo v1 v2 σ (fun r16 g17 =>
          ((0 ≤ r16) →
            vp_in r16 1728 ∧
            Qp (g17.2.1 19 r16.toNatClampNeg) g17) ∧ (¬ (0 ≤ r16) →
            Qp (-9 : Int32) g17))) ∧ (¬ (r14 = 0) →
        zq7_refuse (-3 : Int32) σ (fun r19 g20 =>
          Qp r19 g20)))) ∧ (r12 = 0 →
    zq7_refuse (-1 : Int32) σ (fun r21 g22 =>
      Qp r21 g22)))
def zq7_walk (v1 : Int32) (v2 : Int32) (v3 : Int32) (σ : zz_St) (Qp : Int32 → zz_St → Prop) : Prop :=
zq7_isGoal v1 v2 σ (fun r17 =>
  ((¬ r17 = 0) →
    ((0 ≤ v3) →
      zq6_isNone  σ (fun r20 =>
        ((r20 = 0) →
          zq4_floodTo v1 v2 σ (fun r22 g23 =>
            ((r22 < 0) →
              Qp (-9 : Int32) g23) ∧ (¬ (r22 < 0) →
              vp_in r22 1728 ∧
              ((v3 < (g23.2.1 19 r22.toNatClampNeg)) →
                zq4_wayToward r22 v3 g23 (fun r26 =>
                  Qp r26 g23)) ∧ (¬ (v3 < (g23.2.1 19 r22.toNatClampNeg)) →
                Qp (-9 : Int32) g23)))) ∧ (¬ (r20 = 0) →
          zq7_refuse (-3 : Int32) σ (fun r27 g28 =>
            Qp r27 g28)))) ∧ (¬ (0 ≤ v3) →
      zq7_refuse (-4 : Int32) σ (fun r29 g30 =>
        Qp r29 g30))) ∧ (r17 = 0 →
    zq7_refuse (-1 : Int32) σ (fun r31 g32 =>
      Qp r31 g32)))
def zq7_faces (v1 : Int32) (σ : zz_St) (Qp : Int32 → zz_St → Prop) : Prop :=
zq6_hasPlace ((σ).1 6) v1 σ (fun r11 =>
  ((¬ r11 = 0) →
    zq6_isNone  σ (fun r13 =>
      ((r13 = 0) →
        zq4_floodAll  σ (fun g15 =>
          zq4_facesAt v1 g15 (fun r16 =>
            Qp r16 g15))) ∧ (¬ (r13 = 0) →
        zq7_refuse (-3 : Int32) σ (fun r17 g18 =>
          Qp r17 g18)))) ∧ (r11 = 0 →
    zq7_refuse (-1 : Int32) σ (fun r19 g20 =>
      Qp r19 g20)))
def zq7_fill_9  (σ : zz_St) (Qp : Int32 → zz_St → Prop) : Prop :=
zq7_refuse (-2 : Int32) σ (fun r15 g16 =>
  Qp r15 g16)
def zq7_fill (v1 : Int32) (σ : zz_St) (Qp : Int32 → zz_St → Prop) : Prop :=
((v1 < 0) →
  zq7_fill_9 σ Qp) ∧ (¬ (v1 < 0) →
  ((v1 ≤ (1 : Int32)) →
    zq6_isNone  σ (fun r19 =>
      ((r19 = 0) →
        zq4_bestFilled  σ (fun r21 g22 =>
          ((0 ≤ r21) →
            ((¬ v1 = 0) →
              zq4_statesFilled r21 g22 (fun r25 g26 =>
                Qp r25 g26)) ∧ (v1 = 0 →
              Qp r21 g22)) ∧ (¬ (0 ≤ r21) →
            Qp (-9 : Int32) g22))) ∧ (¬ (r19 = 0) →
        zq7_refuse (-3 : Int32) σ (fun r27 g28 =>
          Qp r27 g28)))) ∧ (¬ (v1 ≤ (1 : Int32)) →
    zq7_fill_9 σ Qp))
def zq7_refuseLong (v1 : Int32) (σ : zz_St) (Qp : Int64 → zz_St → Prop) : Prop :=
zq7_refuse v1 σ (fun r3 g4 =>
  Qp ((4000000000000000000 : Int64) - (r3.toInt64)) g4)
def zq7_needed (v1 : Int32) (σ : zz_St) (Qp : Int64 → zz_St → Prop) : Prop :=
zq6_hasPlace ((σ).1 6) v1 σ (fun r11 =>
  ((¬ r11 = 0) →
    zq6_isNone  σ (fun r13 =>
      ((r13 = 0) →
        zq4_tilesNeeded v1 σ (fun r15 g16 =>
          Qp r15 g16)) ∧ (¬ (r13 = 0) →
        zq7_refuseLong (-3 : Int32) σ (fun r17 g18 =>
          Qp r17 g18)))) ∧ (r11 = 0 →
    zq7_refuseLong (-1 : Int32) σ (fun r19 g20 =>
      Qp r19 g20)))
def zq7_paint_19  (σ : zz_St) (Qp : Int32 → zz_St → Prop) : Prop :=
zq7_refuse (-1 : Int32) σ (fun r14 g15 =>
  Qp r14 g15)
def zq7_paint (v1 : Int32) (v2 : Int32) (σ : zz_St) (Qp : Int32 → zz_St → Prop) : Prop :=
zq6_hasTile v1 σ (fun r16 =>
  ((r16 = 0) →
    zq7_paint_19 σ Qp) ∧ (¬ (r16 = 0) →
    zq7_isFace v2 σ (fun r18 =>
      ((¬ r18 = 0) →
        zq6_isNone  σ (fun r20 =>
          ((r20 = 0) →
            vp_in v1 36 ∧
            ((¬ ((σ).2.1 16 v1.toNatClampNeg) = v2) →
              zq4_rollsToPaint v1 v2 σ (fun r23 g24 =>
                Qp r23 g24)) ∧ (((σ).2.1 16 v1.toNatClampNeg) = v2 →
              Qp (0 : Int32) σ)) ∧ (¬ (r20 = 0) →
            zq7_refuse (-3 : Int32) σ (fun r25 g26 =>
              Qp r25 g26)))) ∧ (r18 = 0 →
        zq7_paint_19 σ Qp))))
def zq7_partInLeastTerms_52 (v3 : Int32) (v4 : Int64) (v6 : Int32) (Qp : Int64 → Prop) : Prop :=
((¬ v3 = 0) →
  Qp ((1 : Int64) <<< (v6.toInt64 &&& 63)) ) ∧ (v3 = 0 →
  Qp v4 )
def zq7_partInLeastTerms_18 (v2 : Int32) (v3 : Int32) (v4 : Int64) (v6 : Int32) (v7 : Int32) (Qp : Int64 → Prop) : Prop :=
 ∃ (I18 : Int64 → Int32 → Int32 → Prop) (M18 : Int64 → Int32 → Int32 → Nat), I18 v4 v6 v7 ∧ ∀ (v4 : Int64) (v6 : Int32) (v7 : Int32), I18 v4 v6 v7 →
((v2 ≤ v7) →
  zq7_partInLeastTerms_52 v3 v4 v6 Qp) ∧ (¬ (v2 ≤ v7) →
  ((¬ (lg_cmp (v4 - v4 / (2 : Int64) * (2 : Int64)) (0 : Int64)) = 0) →
    zq7_partInLeastTerms_52 v3 v4 v6 Qp) ∧ ((lg_cmp (v4 - v4 / (2 : Int64) * (2 : Int64)) (0 : Int64)) = 0 →
    ∀ x9 : Int64, x9 = v4 / (2 : Int64) →
    I18 x9 (v6 + (-1 : Int32)) (v7 + (1 : Int32)) ∧ M18 x9 (v6 + (-1 : Int32)) (v7 + (1 : Int32)) < M18 v4 v6 v7))
def zq7_partInLeastTerms (v0 : Int64) (v2 : Int32) (v3 : Int32) (Qp : Int64 → Prop) : Prop :=
((¬ (lg_cmp v0 (0 : Int64)) = 0) →
  zq7_partInLeastTerms_18 v2 v3 v0 v2 (0 : Int32) Qp) ∧ ((lg_cmp v0 (0 : Int64)) = 0 →
  Qp (v3.toInt64) )
def zq7_likely_57  (σ : zz_St) (Qp : Int64 → zz_St → Prop) : Prop :=
zq7_refuseLong (-2 : Int32) σ (fun r22 g23 =>
  Qp r22 g23)
def zq7_likely (v1 : Int32) (v2 : Int32) (v3 : Int32) (σ : zz_St) (Qp : Int64 → zz_St → Prop) : Prop :=
zq6_hasPlace ((σ).1 6) v2 σ (fun r24 =>
  ((¬ r24 = 0) →
    ((0 ≤ v1) →
      ((v1 ≤ (12 : Int32)) →
        ((v3 < 0) →
          zq7_likely_57 σ Qp) ∧ (¬ (v3 < 0) →
          ((v3 ≤ (1 : Int32)) →
            zq6_isNone  σ (fun r30 =>
              ((r30 = 0) →
                zq4_walksEndingAt v1 v2 σ (fun r32 g33 =>
                  zq7_partInLeastTerms r32 ((2 : Int32) * v1) v3 (fun r34 =>
                    Qp r34 g33))) ∧ (¬ (r30 = 0) →
                zq7_refuseLong (-3 : Int32) σ (fun r35 g36 =>
                  Qp r35 g36)))) ∧ (¬ (v3 ≤ (1 : Int32)) →
            zq7_likely_57 σ Qp))) ∧ (¬ (v1 ≤ (12 : Int32)) →
        zq7_refuseLong (-6 : Int32) σ (fun r37 g38 =>
          Qp r37 g38))) ∧ (¬ (0 ≤ v1) →
      zq7_refuseLong (-4 : Int32) σ (fun r39 g40 =>
        Qp r39 g40))) ∧ (r24 = 0 →
    zq7_refuseLong (-1 : Int32) σ (fun r41 g42 =>
      Qp r41 g42)))
def zq7_lots_34  (σ : zz_St) (Qp : Int32 → zz_St → Prop) : Prop :=
zq7_refuse (-2 : Int32) σ (fun r21 g22 =>
  Qp r21 g22)
def zq7_lots_129 (v1 : Int32) (v3 : Int32) (v4 : Int32) (v5 : Int32) (v6 : Int32) (v7 : Int32) (σ : zz_St) (Qp : Int32 → zz_St → Prop) (B76 : Int32 → Int32 → Int32 → Int32 → Prop) : Prop :=
B76 v4 v5 v6 (v7 + (1 : Int32))
def zq7_lots_76 (v1 : Int32) (v3 : Int32) (v4 : Int32) (v5 : Int32) (v6 : Int32) (v7 : Int32) (σ : zz_St) (Qp : Int32 → zz_St → Prop) : Prop :=
 ∃ (I76 : Int32 → Int32 → Int32 → Int32 → Prop) (M76 : Int32 → Int32 → Int32 → Int32 → Nat), I76 v4 v5 v6 v7 ∧ ∀ (v4 : Int32) (v5 : Int32) (v6 : Int32) (v7 : Int32), I76 v4 v5 v6 v7 →
((v1 ≤ v7) →
  ((¬ v3 = 0) →
    Qp (v5 / (24 : Int32)) σ) ∧ (v3 = 0 →
    Qp v6 σ)) ∧ (¬ (v1 ≤ v7) →
  ∀ x25 : Int32, x25 = (v4 * (1664525 : Int32)) + (1013904223 : Int32) →
  zq6_rolled v5 (((x25 &&& (2147483647 : Int32)) / (256 : Int32)) - ((x25 &&& (2147483647 : Int32)) / (256 : Int32)) / (4 : Int32) * (4 : Int32)) σ (fun r26 =>
    ((r26 < 0) →
      zq7_lots_129 v1 v3 x25 v5 v6 v7 σ Qp (fun v4' v5' v6' v7' => I76 v4' v5' v6' v7' ∧ M76 v4' v5' v6' v7' < M76 v4 v5 v6 v7)) ∧ (¬ (r26 < 0) →
      zq7_lots_129 v1 v3 x25 r26 (v6 + (1 : Int32)) v7 σ Qp (fun v4' v5' v6' v7' => I76 v4' v5' v6' v7' ∧ M76 v4' v5' v6' v7' < M76 v4 v5 v6 v7))))
def zq7_lots (v1 : Int32) (v2 : Int32) (v3 : Int32) (σ : zz_St) (Qp : Int32 → zz_St → Prop) : Prop :=
(((1 : Int32) ≤ v1) →
  ((v1 ≤ (50 : Int32)) →
    ((v3 < 0) →
      zq7_lots_34 σ Qp) ∧ (¬ (v3 < 0) →
      ((v3 ≤ (1 : Int32)) →
        zq6_isNone  σ (fun r32 =>
          ((r32 = 0) →
            ∀ x34 : Int32, x34 = (σ).1 8 →
            zq7_lots_76 v1 v3 v2 x34 (0 : Int32) (0 : Int32) σ Qp) ∧ (¬ (r32 = 0) →
            zq7_refuse (-3 : Int32) σ (fun r35 g36 =>
              Qp r35 g36)))) ∧ (¬ (v3 ≤ (1 : Int32)) →
        zq7_lots_34 σ Qp))) ∧ (¬ (v1 ≤ (50 : Int32)) →
    zq7_refuse (-6 : Int32) σ (fun r37 g38 =>
      Qp r37 g38))) ∧ (¬ ((1 : Int32) ≤ v1) →
  zq7_refuse (-4 : Int32) σ (fun r39 g40 =>
    Qp r39 g40))
def zq7_isList (v0 : Int32) (Qp : Int32 → Prop) : Prop :=
((v0 < 0) →
  Qp (0 : Int32) ) ∧ (¬ (v0 < 0) →
  (((3 : Int32) ≤ v0) →
    Qp (0 : Int32) ) ∧ (¬ ((3 : Int32) ≤ v0) →
    Qp (1 : Int32) ))
def zq7_list (v1 : Int32) (v2 : Int32) (σ : zz_St) (Qp : Int32 → zz_St → Prop) : Prop :=
zq7_isList v1 (fun r10 =>
  ((¬ r10 = 0) →
    ((v2 ≤ (40 : Int32)) →
      ((0 ≤ v2) →
        vp_in v1 3 ∧
        zq3_begin v2 (v1.toNatClampNeg) σ (fun g15 =>
          Qp (1 : Int32) g15)) ∧ (¬ (0 ≤ v2) →
        Qp (-14 : Int32) σ)) ∧ (¬ (v2 ≤ (40 : Int32)) →
      zq7_refuse (-6 : Int32) σ (fun r16 g17 =>
        Qp r16 g17))) ∧ (r10 = 0 →
    zq7_refuse (-1 : Int32) σ (fun r18 g19 =>
      Qp r18 g19)))
def zq7_put (v1 : Int32) (v2 : Int32) (v3 : Int32) (σ : zz_St) (Qp : Int32 → zz_St → Prop) : Prop :=
zq7_isList v1 (fun r8 =>
  ((¬ r8 = 0) →
    vp_in v1 3 ∧
    zq3_lackAt v2 (v1.toNatClampNeg) σ (fun r11 =>
      ((0 ≤ r11) →
        vp_in v1 3 ∧
        vp_in v2 40 ∧
        ∀ g14 : zz_St, g14 = zz_A σ (34 + v1.toNatClampNeg) (upd ((σ).2.1 (34 + v1.toNatClampNeg)) v2.toNatClampNeg v3) →
        Qp (1 : Int32) g14) ∧ (¬ (0 ≤ r11) →
        Qp r11 σ))) ∧ (r8 = 0 →
    zq7_refuse (-1 : Int32) σ (fun r15 g16 =>
      Qp r15 g16)))
def zq7_look (v1 : Int32) (v2 : Int32) (σ : zz_St) (Qp : Int64 → zz_St → Prop) : Prop :=
zq7_isList v1 (fun r7 =>
  ((¬ r7 = 0) →
    vp_in v1 3 ∧
    zq3_lackAt v2 (v1.toNatClampNeg) σ (fun r10 =>
      ((0 ≤ r10) →
        vp_in v1 3 ∧
        vp_in v2 40 ∧
        Qp (((σ).2.1 (34 + v1.toNatClampNeg) v2.toNatClampNeg).toInt64) σ) ∧ (¬ (0 ≤ r10) →
        Qp ((4000000000000000000 : Int64) - (r10.toInt64)) σ))) ∧ (r7 = 0 →
    zq7_refuseLong (-1 : Int32) σ (fun r13 g14 =>
      Qp r13 g14)))
def zq7_lays_51 (v2 : Int32) (v3 : Nat) (v4 : Int32) (s0 : Int32) (s1 : Nat) (σ : zz_St) (Qp : Int32 → zz_St → Prop) (B23 : Int32 → zz_St → Prop) : Prop :=
zq3_lackAt s0 s1 σ (fun r12 =>
  ((0 ≤ r12) →
    vp_in v4 36 ∧
    vp_in (v2 + v4) 40 ∧
    ∀ g14 : zz_St, g14 = zz_A σ (34 + v3) (upd ((σ).2.1 (34 + v3)) (v2 + v4).toNatClampNeg ((σ).2.1 16 v4.toNatClampNeg)) →
    B23 (v4 + (1 : Int32)) g14) ∧ (¬ (0 ≤ r12) →
    Qp r12 σ))
def zq7_lays_23 (v2 : Int32) (v3 : Nat) (v4 : Int32) (σ : zz_St) (Qp : Int32 → zz_St → Prop) : Prop :=
 ∃ (I23 : Int32 → zz_St → Prop) (M23 : Int32 → zz_St → Nat), I23 v4 σ ∧ ∀ (v4 : Int32) (σ : zz_St), I23 v4 σ →
zq6_tileCount  σ (fun r15 =>
  ((r15 ≤ v4) →
    zq6_tileCount  σ (fun r17 =>
      Qp r17 σ)) ∧ (¬ (r15 ≤ v4) →
    ((v2 ≤ (40 : Int32)) →
      zq7_lays_51 v2 v3 v4 (v2 + v4) v3 σ Qp (fun v4' σ' => I23 v4' σ' ∧ M23 v4' σ' < M23 v4 σ)) ∧ (¬ (v2 ≤ (40 : Int32)) →
      zq7_lays_51 v2 v3 v4 (40 : Int32) v3 σ Qp (fun v4' σ' => I23 v4' σ' ∧ M23 v4' σ' < M23 v4 σ))))
def zq7_lays (v1 : Int32) (v2 : Int32) (σ : zz_St) (Qp : Int32 → zz_St → Prop) : Prop :=
zq7_isList v1 (fun r19 =>
  ((¬ r19 = 0) →
    vp_in v1 3 ∧
    zq7_lays_23 v2 (v1.toNatClampNeg) (0 : Int32) σ Qp) ∧ (r19 = 0 →
    zq7_refuse (-1 : Int32) σ (fun r22 g23 =>
      Qp r22 g23)))
def zq7_tells_32 (v2 : Nat) (v3 : Int32) (σ : zz_St) (Qp : Int32 → zz_St → Prop) : Prop :=
 ∃ (I32 : Int32 → Prop) (M32 : Int32 → Nat), I32 v3 ∧ ∀ (v3 : Int32), I32 v3 →
((((σ).1 (22 + v2)) ≤ v3) →
  Qp (-9 : Int32) σ) ∧ (¬ (((σ).1 (22 + v2)) ≤ v3) →
  zq6_hasTile v3 σ (fun r12 =>
    ((r12 = 0) →
      Qp v3 σ) ∧ (¬ (r12 = 0) →
      vp_in v3 40 ∧
      vp_in v3 36 ∧
      ((((σ).2.1 (34 + v2) v3.toNatClampNeg) = ((σ).2.1 16 v3.toNatClampNeg)) →
        I32 (v3 + (1 : Int32)) ∧ M32 (v3 + (1 : Int32)) < M32 v3) ∧ (¬ (((σ).2.1 (34 + v2) v3.toNatClampNeg) = ((σ).2.1 16 v3.toNatClampNeg)) →
        Qp v3 σ))))
def zq7_tells (v1 : Int32) (σ : zz_St) (Qp : Int32 → zz_St → Prop) : Prop :=
zq7_isList v1 (fun r15 =>
  ((¬ r15 = 0) →
    vp_in v1 3 ∧
    zq3_isMissing (v1.toNatClampNeg) σ (fun r18 =>
      ((r18 = 0) →
        zq7_tells_32 (v1.toNatClampNeg) (0 : Int32) σ Qp) ∧ (¬ (r18 = 0) →
        Qp (-11 : Int32) σ))) ∧ (r15 = 0 →
    zq7_refuse (-1 : Int32) σ (fun r20 g21 =>
      Qp r20 g21)))
def zq7_isRack (v0 : Int32) (Qp : Int32 → Prop) : Prop :=
((v0 < 0) →
  Qp (0 : Int32) ) ∧ (¬ (v0 < 0) →
  (((3 : Int32) ≤ v0) →
    Qp (0 : Int32) ) ∧ (¬ ((3 : Int32) ≤ v0) →
    Qp (1 : Int32) ))
def zq7_rack (v1 : Int32) (v2 : Int32) (v3 : Int32) (σ : zz_St) (Qp : Int32 → zz_St → Prop) : Prop :=
zq7_isRack v1 (fun r14 =>
  ((¬ r14 = 0) →
    zq7_isKind v2 (fun r16 =>
      ((¬ r16 = 0) →
        ((v3 ≤ (9 : Int32)) →
          ((0 ≤ v3) →
            vp_in v1 3 ∧
            zq2_begin v2 v3 (v1.toNatClampNeg) σ (fun g21 =>
              Qp (1 : Int32) g21)) ∧ (¬ (0 ≤ v3) →
            Qp (-14 : Int32) σ)) ∧ (¬ (v3 ≤ (9 : Int32)) →
          zq7_refuse (-6 : Int32) σ (fun r22 g23 =>
            Qp r22 g23))) ∧ (r16 = 0 →
        zq7_refuse (-2 : Int32) σ (fun r24 g25 =>
          Qp r24 g25)))) ∧ (r14 = 0 →
    zq7_refuse (-1 : Int32) σ (fun r26 g27 =>
      Qp r26 g27)))
def zq7_isUnder_24 (v0 : Int32) (v1 : Int32) (Qp : Int32 → Prop) : Prop :=
((¬ v0 = (5 : Int32)) →
  Qp (0 : Int32) ) ∧ (v0 = (5 : Int32) →
  ((¬ v1 = (4 : Int32)) →
    Qp (0 : Int32) ) ∧ (v1 = (4 : Int32) →
    Qp (1 : Int32) ))
def zq7_isUnder_14 (v0 : Int32) (v1 : Int32) (Qp : Int32 → Prop) : Prop :=
((¬ v0 = (3 : Int32)) →
  zq7_isUnder_24 v0 v1 Qp) ∧ (v0 = (3 : Int32) →
  ((v1 = (2 : Int32)) →
    Qp (1 : Int32) ) ∧ (¬ (v1 = (2 : Int32)) →
    zq7_isUnder_24 v0 v1 Qp))
def zq7_isUnder (v0 : Int32) (v1 : Int32) (Qp : Int32 → Prop) : Prop :=
((v0 = v1) →
  Qp (1 : Int32) ) ∧ (¬ (v0 = v1) →
  ((¬ v0 = (1 : Int32)) →
    zq7_isUnder_14 v0 v1 Qp) ∧ (v0 = (1 : Int32) →
    ((v1 = 0) →
      Qp (1 : Int32) ) ∧ (¬ (v1 = 0) →
      zq7_isUnder_14 v0 v1 Qp)))
def zq7_racks_22  (σ : zz_St) (Qp : Int32 → zz_St → Prop) : Prop :=
zq7_refuse (-2 : Int32) σ (fun r22 g23 =>
  Qp r22 g23)
def zq7_racks_51 (v1 : Int32) (v2 : Int32) (v3 : Int32) (σ : zz_St) (Qp : Int32 → zz_St → Prop) : Prop :=
vp_in v1 3 ∧
zq2_lackAt v2 (v1.toNatClampNeg) σ (fun r25 =>
  ((0 ≤ r25) →
    ((¬ v3 = 0) →
      zq7_isUnder ((σ).1 6) ((σ).1 (25 + v1.toNatClampNeg)) (fun r28 =>
        ((¬ r28 = 0) →
          zq6_faceBelow ((σ).1 8) σ (fun r30 =>
            zq2_store v2 ((σ).1 6) r30 (v1.toNatClampNeg) σ (fun g31 =>
              Qp (1 : Int32) g31))) ∧ (r28 = 0 →
          Qp (-16 : Int32) σ))) ∧ (v3 = 0 →
      zq2_empty v2 (v1.toNatClampNeg) σ (fun g32 =>
        Qp (1 : Int32) g32))) ∧ (¬ (0 ≤ r25) →
    Qp r25 σ))
def zq7_racks (v1 : Int32) (v2 : Int32) (v3 : Int32) (σ : zz_St) (Qp : Int32 → zz_St → Prop) : Prop :=
zq7_isRack v1 (fun r33 =>
  ((¬ r33 = 0) →
    ((v3 < 0) →
      zq7_racks_22 σ Qp) ∧ (¬ (v3 < 0) →
      ((v3 ≤ (1 : Int32)) →
        ((¬ v3 = (1 : Int32)) →
          zq7_racks_51 v1 v2 v3 σ Qp) ∧ (v3 = (1 : Int32) →
          zq6_isNone  σ (fun r38 =>
            ((r38 = 0) →
              zq7_racks_51 v1 v2 v3 σ Qp) ∧ (¬ (r38 = 0) →
              zq7_refuse (-3 : Int32) σ (fun r40 g41 =>
                Qp r40 g41))))) ∧ (¬ (v3 ≤ (1 : Int32)) →
        zq7_racks_22 σ Qp))) ∧ (r33 = 0 →
    zq7_refuse (-1 : Int32) σ (fun r42 g43 =>
      Qp r42 g43)))
def zq7_racked_22  (σ : zz_St) (Qp : Int32 → zz_St → Prop) : Prop :=
zq7_refuse (-2 : Int32) σ (fun r14 g15 =>
  Qp r14 g15)
def zq7_racked (v1 : Int32) (v2 : Int32) (v3 : Int32) (σ : zz_St) (Qp : Int32 → zz_St → Prop) : Prop :=
zq7_isRack v1 (fun r16 =>
  ((¬ r16 = 0) →
    ((v3 < 0) →
      zq7_racked_22 σ Qp) ∧ (¬ (v3 < 0) →
      ((v3 ≤ (1 : Int32)) →
        vp_in v1 3 ∧
        zq2_lackAt v2 (v1.toNatClampNeg) σ (fun r21 =>
          ((0 ≤ r21) →
            zq2_isEmptyAt v2 (v1.toNatClampNeg) σ (fun r23 =>
              ((r23 = 0) →
                ((¬ v3 = 0) →
                  vp_in v2 9 ∧
                  Qp ((σ).2.1 (40 + v1.toNatClampNeg) v2.toNatClampNeg) σ) ∧ (v3 = 0 →
                  vp_in v2 9 ∧
                  Qp ((σ).2.1 (37 + v1.toNatClampNeg) v2.toNatClampNeg) σ)) ∧ (¬ (r23 = 0) →
                Qp (-9 : Int32) σ))) ∧ (¬ (0 ≤ r21) →
            Qp r21 σ))) ∧ (¬ (v3 ≤ (1 : Int32)) →
        zq7_racked_22 σ Qp))) ∧ (r16 = 0 →
    zq7_refuse (-1 : Int32) σ (fun r26 g27 =>
      Qp r26 g27)))
def zq7_like_14  (σ : zz_St) (Qp : Int32 → zz_St → Prop) : Prop :=
zq7_refuse (-1 : Int32) σ (fun r10 g11 =>
  Qp r10 g11)
def zq7_like (v1 : Int32) (v2 : Int32) (σ : zz_St) (Qp : Int32 → zz_St → Prop) : Prop :=
zq7_isRack v1 (fun r12 =>
  ((r12 = 0) →
    zq7_like_14 σ Qp) ∧ (¬ (r12 = 0) →
    zq7_isRack v2 (fun r14 =>
      ((¬ r14 = 0) →
        vp_in v2 3 ∧
        zq2_isMissing (v2.toNatClampNeg) σ (fun r17 =>
          ((r17 = 0) →
            vp_in v1 3 ∧
            vp_in v2 3 ∧
            zq2_copyFrom (v2.toNatClampNeg) (v1.toNatClampNeg) σ (fun g21 =>
              vp_in v1 3 ∧
              Qp (g21.1 (28 + v1.toNatClampNeg)) g21)) ∧ (¬ (r17 = 0) →
            Qp (-11 : Int32) σ))) ∧ (r14 = 0 →
        zq7_like_14 σ Qp))))
def zq7_placeOrNothing  (σ : zz_St) (Qp : Int32 → Prop) : Prop :=
zq6_isNone  σ (fun r4 =>
  ((r4 = 0) →
    zq6_placeNow  σ (fun r6 =>
      Qp r6 )) ∧ (¬ (r4 = 0) →
    Qp (-9 : Int32) ))
def zq7_image  (σ : zz_St) (Qp : Int32 → zz_St → Prop) : Prop :=
zq6_copyFrom (0) (1) σ (fun g4 =>
  ∀ g5 : zz_St, g5 = zz_I g4 0 (1 : Int32) →
  zq7_placeOrNothing  g5 (fun r6 =>
    Qp r6 g5))
def zq7_on  (σ : zz_St) (Qp : Int32 → zz_St → Prop) : Prop :=
((¬ ((σ).1 0) = 0) →
  zq6_copyFrom (1) (0) σ (fun g8 =>
    zq0_forget  g8 (fun g9 =>
      zq7_placeOrNothing  g9 (fun r10 =>
        Qp r10 g9)))) ∧ (((σ).1 0) = 0 →
  zq7_refuse (-3 : Int32) σ (fun r11 g12 =>
    Qp r11 g12))
def zq7_count_22 (v1 : Int32) (σ : zz_St) (Qp : Int32 → Prop) : Prop :=
(v1 = (0 : Int32) →
  Qp ((σ).1 2) ) ∧ (¬ v1 = (0 : Int32) →
(v1 = (1 : Int32) →
  Qp ((σ).1 4) ) ∧ (¬ v1 = (1 : Int32) →
(v1 = (2 : Int32) →
  zq6_countTiles (1 : Int32) σ (fun r6 =>
    Qp r6 )) ∧ (¬ v1 = (2 : Int32) →
(v1 = (3 : Int32) →
  zq6_countTiles (2 : Int32) σ (fun r7 =>
    Qp r7 )) ∧ (¬ v1 = (3 : Int32) →
(v1 = (4 : Int32) →
  zq6_countPrints  σ (fun r8 =>
    Qp r8 )) ∧ (¬ v1 = (4 : Int32) →
(v1 = (5 : Int32) →
  Qp ((σ).1 10) ) ∧ (¬ v1 = (5 : Int32) →
(v1 = (6 : Int32) →
  Qp ((σ).1 12) ) ∧ (¬ v1 = (6 : Int32) →
(v1 = (7 : Int32) →
  Qp ((σ).1 15) ) ∧ (¬ v1 = (7 : Int32) →
(v1 = (8 : Int32) →
  Qp ((σ).1 6) ) ∧ (¬ v1 = (8 : Int32) →
  Qp (-9 : Int32) )))))))))
def zq7_count (v1 : Int32) (σ : zz_St) (Qp : Int32 → Prop) : Prop :=
((v1 < (11 : Int32)) →
  zq7_count_22 v1 σ Qp) ∧ (¬ (v1 < (11 : Int32)) →
  (((16 : Int32) < v1) →
    zq7_count_22 v1 σ Qp) ∧ (¬ ((16 : Int32) < v1) →
    vp_in (v1 - (10 : Int32)) 7 ∧
    Qp ((σ).2.1 45 (v1 - (10 : Int32)).toNatClampNeg) ))
