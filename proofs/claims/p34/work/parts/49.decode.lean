/-! LAYER 2, data as numbers: digits of 44 bits; ints as even and odd ones. -/
def am_zg (n : Nat) : Int := match n % 2 with
  | 0 => Int.ofNat (n / 2)
  | _ => Int.negSucc (n / 2)
def am_dg (n : Nat) : Nat := n % 17592186044416
def am_rs (n : Nat) : Nat := n / 17592186044416
def am_sT : Nat → Nat → List (Nat × Int) × Nat
  | 0, n => ([], n)
  | k + 1, n => match am_sT k (am_rs (am_rs n)) with
    | (l, m) => ((am_dg n, am_zg (am_dg (am_rs n))) :: l, m)
/-- a form -/
def am_sF (n : Nat) : am_L × Nat := match am_sT (am_dg (am_rs n)) (am_rs (am_rs n)) with
  | (l, m) => ((am_zg (am_dg n), l), m)
def am_sFs : Nat → Nat → List am_L × Nat
  | 0, n => ([], n)
  | k + 1, n => match am_sF n with
    | (f, m) => match am_sFs k m with
      | (l, m') => (f :: l, m')
/-- forms, their number first -/
def am_nF (n : Nat) : List am_L := (am_sFs (am_dg n) (am_rs n)).1
def am_sO (n : Nat) : am_O × Nat := match am_sF (am_rs n) with
  | (i, m) => match am_sF m with
    | (v, m') => (((am_dg n, i), v), m')
def am_sOs : Nat → Nat → List am_O
  | 0, _ => []
  | k + 1, n => match am_sO n with
    | (o, m) => o :: am_sOs k m
def am_nO (n : Nat) : List am_O := am_sOs (am_dg n) (am_rs n)
def am_sEs : Nat → Nat → am_E
  | 0, _ => []
  | k + 1, n => (am_zg (am_dg n), am_zg (am_dg (am_rs n))) :: am_sEs k (am_rs (am_rs n))
def am_nE (n : Nat) : am_E := am_sEs (am_dg n) (am_rs n)
def am_sAs : Nat → Nat → List am_A
  | 0, _ => []
  | k + 1, n => match am_sF (am_rs n) with
    | (f, m) => (am_dg n, f) :: am_sAs k m
def am_nA (n : Nat) : List am_A := am_sAs (am_dg n) (am_rs n)
def am_sPs : Nat → Nat → List (Nat × Nat)
  | 0, _ => []
  | k + 1, n => (am_dg n, am_dg (am_rs n)) :: am_sPs k (am_rs (am_rs n))
def am_nP (n : Nat) : List (Nat × Nat) := am_sPs (am_dg n) (am_rs n)
def am_sIs : Nat → Nat → List Int × Nat
  | 0, n => ([], n)
  | k + 1, n => match am_sIs k (am_rs n) with
    | (l, m) => (am_zg (am_dg n) :: l, m)
def am_sAt (n : Nat) : am_At × Nat := match am_rs n with
  | n1 => match am_rs n1 with
    | n2 => match am_rs n2 with
      | n3 => match am_rs n3 with
        | n4 => match am_rs n4 with
          | n5 => match am_sIs (am_dg n5) (am_rs n5) with
            | (t, m) => ((am_dg n, am_dg n1, am_dg n2, am_dg n3, am_dg n4, t), m)
def am_sTs : Nat → Nat → List (Int × am_At) × Nat
  | 0, n => ([], n)
  | k + 1, n => match am_sAt (am_rs n) with
    | (a, m) => match am_sTs k m with
      | (l, m') => ((am_zg (am_dg n), a) :: l, m')
def am_sSr (n : Nat) : am_Sr × Nat := match am_sTs (am_dg (am_rs n)) (am_rs (am_rs n)) with
  | (l, m) => ((1, am_zg (am_dg n), l), m)
def am_sSs : Nat → Nat → List am_Sr
  | 0, _ => []
  | k + 1, n => match am_sSr n with
    | (s, m) => s :: am_sSs k m
def am_nS (n : Nat) : List am_Sr := am_sSs (am_dg n) (am_rs n)
def am_al (e f o : Nat) (r : Option am_A) (s : Nat) : am_Al := (am_nE e, am_nF f, am_nO o, r, am_nS s)
def am_rf (n : Nat) : Option am_A := some (0, (am_sF n).1)
def am_mk (m pc e f o l rk me de ms : Nat) (alts : List am_Al) (s : Nat) : am_Ct := ((m, pc), (am_nE e, am_nF f, am_nO o), am_nA l, (rk, (am_sF me).1, (am_sF de).1), am_nP ms, alts, am_nS s)
