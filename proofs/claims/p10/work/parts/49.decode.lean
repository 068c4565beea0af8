noncomputable section
/-! LAYER 2, data as numbers: digits of 60 bits; ints as even and odd ones. -/
def am_zg (n : Nat) : Int := match n % 2 with
  | 0 => Int.ofNat (n / 2)
  | _ => Int.negSucc (n / 2)
def am_dg (n : Nat) : Nat := Nat.mod n 1152921504606846976
def am_rs (n : Nat) : Nat := Nat.div n 1152921504606846976
def am_sT (k n : Nat) : List (Nat × Int) × Nat := Nat.rec (motive := fun _ => Nat → List (Nat × Int) × Nat) (fun n => ([], n)) (fun _ ih n => ((am_dg n, am_zg (am_dg (am_rs n))) :: (ih (am_rs (am_rs n))).1, (ih (am_rs (am_rs n))).2)) k n
/-- a form -/
def am_sF (n : Nat) : am_L × Nat := ((am_zg (am_dg n), (am_sT (am_dg (am_rs n)) (am_rs (am_rs n))).1), (am_sT (am_dg (am_rs n)) (am_rs (am_rs n))).2)
def am_sFs (k n : Nat) : List am_L × Nat := Nat.rec (motive := fun _ => Nat → List am_L × Nat) (fun n => ([], n)) (fun _ ih n => ((am_sF n).1 :: (ih (am_sF n).2).1, (ih (am_sF n).2).2)) k n
/-- forms, their number first -/
def am_nF (n : Nat) : List am_L := (am_sFs (am_dg n) (am_rs n)).1
def am_sO (n : Nat) : am_O × Nat := (((am_dg n, (am_sF (am_rs n)).1), (am_sF (am_sF (am_rs n)).2).1), (am_sF (am_sF (am_rs n)).2).2)
def am_sOs (k n : Nat) : List am_O := Nat.rec (motive := fun _ => Nat → List am_O) (fun _ => []) (fun _ ih n => (am_sO n).1 :: ih (am_sO n).2) k n
def am_nO (n : Nat) : List am_O := am_sOs (am_dg n) (am_rs n)
def am_sEs (k n : Nat) : am_EL := Nat.rec (motive := fun _ => Nat → am_EL) (fun _ => []) (fun _ ih n => (am_zg (am_dg n), am_zg (am_dg (am_rs n))) :: ih (am_rs (am_rs n))) k n
def am_nE (n : Nat) : am_EL := am_sEs (am_dg n) (am_rs n)
def am_sAs (k n : Nat) : List am_A := Nat.rec (motive := fun _ => Nat → List am_A) (fun _ => []) (fun _ ih n => (am_dg n, (am_sF (am_rs n)).1) :: ih (am_sF (am_rs n)).2) k n
def am_nA (n : Nat) : List am_A := am_sAs (am_dg n) (am_rs n)
def am_sPs (k n : Nat) : List (Nat × Nat) := Nat.rec (motive := fun _ => Nat → List (Nat × Nat)) (fun _ => []) (fun _ ih n => (am_dg n, am_dg (am_rs n)) :: ih (am_rs (am_rs n))) k n
def am_nP (n : Nat) : List (Nat × Nat) := am_sPs (am_dg n) (am_rs n)
def am_sIs (k n : Nat) : List Int × Nat := Nat.rec (motive := fun _ => Nat → List Int × Nat) (fun n => ([], n)) (fun _ ih n => (am_zg (am_dg n) :: (ih (am_rs n)).1, (ih (am_rs n)).2)) k n
def am_sAt (n : Nat) : am_At × Nat := ((am_dg n, am_dg (am_rs n), am_dg (am_rs (am_rs n)), am_dg (am_rs (am_rs (am_rs n))), am_dg (am_rs (am_rs (am_rs (am_rs n)))), (am_sIs (am_dg (am_rs (am_rs (am_rs (am_rs (am_rs n)))))) (am_rs (am_rs (am_rs (am_rs (am_rs (am_rs n))))))).1), (am_sIs (am_dg (am_rs (am_rs (am_rs (am_rs (am_rs n)))))) (am_rs (am_rs (am_rs (am_rs (am_rs (am_rs n))))))).2)
def am_sTs (k n : Nat) : List (Int × am_At) × Nat := Nat.rec (motive := fun _ => Nat → List (Int × am_At) × Nat) (fun n => ([], n)) (fun _ ih n => ((am_zg (am_dg n), (am_sAt (am_rs n)).1) :: (ih (am_sAt (am_rs n)).2).1, (ih (am_sAt (am_rs n)).2).2)) k n
def am_sSr (n : Nat) : am_Sr × Nat := ((1, am_zg (am_dg n), (am_sTs (am_dg (am_rs n)) (am_rs (am_rs n))).1), (am_sTs (am_dg (am_rs n)) (am_rs (am_rs n))).2)
def am_sSs (k n : Nat) : List am_Sr := Nat.rec (motive := fun _ => Nat → List am_Sr) (fun _ => []) (fun _ ih n => (am_sSr n).1 :: ih (am_sSr n).2) k n
def am_nS (n : Nat) : List am_Sr := am_sSs (am_dg n) (am_rs n)
def am_al (e f o : Nat) (r : Option am_A) (s : Nat) : am_Al := (am_nE e, am_nF f, am_nO o, r, am_nS s)
def am_rf (n : Nat) : Option am_A := some (0, (am_sF n).1)
def am_mk (m pc e f o l rk me de ms : Nat) (alts : List am_Al) (s : Nat) : am_Ct := ((m, pc), (am_nE e, am_nF f, am_nO o), am_nA l, (rk, (am_sF me).1, (am_sF de).1), am_nP ms, alts, am_nS s)
end
