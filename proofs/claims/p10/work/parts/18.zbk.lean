noncomputable section
/-! LAYER 2, the machine that reads a tape byte by byte: its state, its place, counts, an aux number; its last word. -/
def bk_by (t : List Term) (a : Int) : Int := match t[a.toNat]? with
  | some (.int x) => x.toInt
  | _ => 0
/-- which bytes lead from a state to which -/
def bk_tab (q : Nat) : List (Int × Int × Nat) := match q with
  | 0 => [(112, 112, 1), (103, 103, 2)]
  | 2 => [(112, 112, 3), (108, 108, 3), (114, 114, 3), (102, 102, 3)]
  | 3 => [(48, 51, 4)]
  | 4 => [(49, 52, 5)]
  | 5 => [(120, 120, 6)]
  | 6 => [(49, 52, 7)]
  | 7 => [(61, 61, 8)]
  | 9 => [(44, 44, 10)]
  | 10 => [(49, 52, 11)]
  | 11 => [(120, 120, 12)]
  | 12 => [(49, 52, 13)]
  | 13 => [(61, 61, 14)]
  | 26 => [(111, 111, 27), (102, 102, 27), (101, 101, 27), (110, 110, 33), (118, 118, 33), (104, 104, 33)]
  | 27 => [(43, 43, 28), (45, 45, 28)]
  | _ => []
def bk_lk (c : Int) : List (Int × Int × Nat) → Option Nat
  | [] => none
  | (lo, hi, q) :: l => if lo ≤ c ∧ c ≤ hi then some q else bk_lk c l
/-- a number is due; one is being read: its most, what is due behind it; a clause is at its end -/
def bk_num (q : Nat) : Option Nat := match q with
  | 1 => some 41
  | 8 => some 48
  | 14 => some 54
  | 28 => some 58
  | _ => none
def bk_pro (q : Nat) : Option (Int × Nat) := match q with
  | 41 => some (60, 31)
  | 48 => some (999, 9)
  | 54 => some (999, 32)
  | 58 => some (99, 33)
  | _ => none
def bk_eps (q : Nat) : Option Int := match q with
  | 31 => some 17
  | 32 => some 257
  | 33 => some 8193
  | _ => none
abbrev bk_St : Type := Nat × Int × Int × Int
def bk_fin (c : Int) : Int := if 3 < c / 16 % 16 ∨ 6 < c / 256 % 32 ∨ 12 < c / 8192 then 197 else 200 + c % 16 + 256 * (c / 16 % 16) + 1024 * (c / 256 % 32) + 8192 * (c / 8192)
def bk_val (v b : Int) : Int := if 1000 ≤ 10 * v + b - 48 then 1000 else 10 * v + b - 48
def bk_step (t : List Term) (L : Int) (q : Nat) (a c w : Int) : bk_St ⊕ Int := match bk_pro q with
  | some (mo, nx) => if a < L ∧ 48 ≤ bk_by t a ∧ bk_by t a ≤ 57 then .inl (q, a + 1, c, w % 128 + 128 * bk_val (w / 128) (bk_by t a))
    else if w / 128 ≤ mo then .inl (nx, a, c, 0) else .inr (180 - w % 128)
  | none => match bk_eps q with
    | some d => .inl (30, a, c + d, 0)
    | none => if L ≤ a then (if q = 30 then .inr (bk_fin c) else .inr (180 - a))
      else if bk_by t a = 32 then .inl (q, a + 1, c, w)
      else match bk_num q with
        | some q2 => if 48 ≤ bk_by t a ∧ bk_by t a ≤ 57 then .inl (q2, a, c, a) else .inr (180 - a)
        | none => if q = 30 then (if bk_by t a = 59 ∧ c % 16 < 12 then .inl (0, a + 1, c, 0) else .inr (180 - a))
          else match bk_lk (bk_by t a) (bk_tab q) with
            | some q2 => .inl (q2, a + 1, c, 0)
            | none => if q = 0 ∧ 97 ≤ bk_by t a ∧ bk_by t a ≤ 102 ∧ bk_by t a - 97 < c / 256 % 32 then .inl (20, a + 1, c, bk_by t a - 97)
              else if q = 20 ∧ 97 ≤ bk_by t a ∧ bk_by t a ≤ 102 ∧ bk_by t a - 97 < c / 256 % 32 ∧ bk_by t a - 97 ≠ w then .inl (26, a + 1, c, 0) else .inr (180 - a)
def bk_run (t : List Term) (L : Int) : Nat → bk_St → Option Int
  | 0, _ => none
  | n + 1, s => match bk_step t L s.1 s.2.1 s.2.2.1 s.2.2.2 with
    | .inr v => some v
    | .inl s' => bk_run t L n s'
/-- the last word -/
def bk_Res (t : List Term) (L : Int) (s : bk_St) (R : Int) : Prop := ∃ n, bk_run t L n s = some R
theorem bk_go {t : List Term} {L : Int} {q : Nat} {a c w : Int} {s' : bk_St} {R : Int} (h : bk_step t L q a c w = .inl s') (hr : bk_Res t L (q, a, c, w) R) : bk_Res t L s' R := by
  obtain ⟨n, hn⟩ := hr
  cases n with
  | zero => simp [bk_run] at hn
  | succ n =>
    simp only [bk_run, h] at hn
    exact ⟨n, hn⟩
theorem bk_word {t : List Term} {L : Int} {q : Nat} {a c w v R : Int} (h : bk_step t L q a c w = .inr v) (hr : bk_Res t L (q, a, c, w) R) : R = v := by
  obtain ⟨n, hn⟩ := hr
  cases n with
  | zero => simp [bk_run] at hn
  | succ n =>
    simp only [bk_run, h] at hn
    injection hn with hn
    exact hn.symm
def bk_rk (q : Nat) : Nat := match q with
  | 1 => 3
  | 8 => 3
  | 14 => 3
  | 28 => 3
  | 41 => 2
  | 48 => 2
  | 54 => 2
  | 58 => 2
  | 31 => 1
  | 32 => 1
  | 33 => 1
  | _ => 0
theorem bk_rk_le (q : Nat) : bk_rk q ≤ 3 := by
  unfold bk_rk
  split <;> omega
theorem bk_pro_rk {q nx : Nat} {mo : Int} (h : bk_pro q = some (mo, nx)) : bk_rk q = 2 ∧ bk_rk nx ≤ 1 := by
  unfold bk_pro at h
  split at h
  · injection h with h; injection h with h1 h2; subst h2; exact ⟨rfl, by decide⟩
  · injection h with h; injection h with h1 h2; subst h2; exact ⟨rfl, by decide⟩
  · injection h with h; injection h with h1 h2; subst h2; exact ⟨rfl, by decide⟩
  · injection h with h; injection h with h1 h2; subst h2; exact ⟨rfl, by decide⟩
  · simp at h
theorem bk_eps_rk {q : Nat} {d : Int} (h : bk_eps q = some d) : bk_rk q = 1 ∧ 0 ≤ d := by
  unfold bk_eps at h
  split at h
  · injection h with h; subst h; exact ⟨rfl, by decide⟩
  · injection h with h; subst h; exact ⟨rfl, by decide⟩
  · injection h with h; subst h; exact ⟨rfl, by decide⟩
  · simp at h
theorem bk_num_rk {q q2 : Nat} (h : bk_num q = some q2) : bk_rk q = 3 ∧ bk_rk q2 = 2 := by
  unfold bk_num at h
  split at h
  · injection h with h; subst h; exact ⟨rfl, rfl⟩
  · injection h with h; subst h; exact ⟨rfl, rfl⟩
  · injection h with h; subst h; exact ⟨rfl, rfl⟩
  · injection h with h; subst h; exact ⟨rfl, rfl⟩
  · simp at h
theorem bk_fin_in {c : Int} (hc : 0 ≤ c) : 0 ≤ bk_fin c ∧ bk_fin c < 131072 := by
  unfold bk_fin
  split
  · omega
  · omega
/-- a step goes on to a state nearer to the end, or says a word within its range -/
def bk_ok (L : Int) (m : Nat) (o : bk_St ⊕ Int) : Prop := match o with
  | .inr v => 0 ≤ v ∧ v < 131072
  | .inl s => 0 ≤ s.2.1 ∧ s.2.1 ≤ L ∧ 0 ≤ s.2.2.1 ∧ 4 * (L - s.2.1).toNat + bk_rk s.1 < m
theorem bk_step_ok {t : List Term} {L : Int} (hL : L ≤ 127) {q : Nat} {a c w : Int} (h0 : 0 ≤ a) (h1 : a ≤ L) (hc : 0 ≤ c) : bk_ok L (4 * (L - a).toNat + bk_rk q) (bk_step t L q a c w) := by
  have hk : ∀ q2 : Nat, a < L → 4 * (L - (a + 1)).toNat + bk_rk q2 < 4 * (L - a).toNat + bk_rk q := fun q2 hlt => by
    have := bk_rk_le q2
    omega
  have hw : bk_ok L (4 * (L - a).toNat + bk_rk q) (.inr (180 - a)) := by
    show 0 ≤ 180 - a ∧ 180 - a < 131072
    omega
  unfold bk_step
  split
  · rename_i mo nx hp
    have hr := bk_pro_rk hp
    split
    · rename_i hd
      exact ⟨by show 0 ≤ a + 1; omega, by show a + 1 ≤ L; omega, hc, hk q hd.1⟩
    · split
      · exact ⟨h0, h1, hc, by show 4 * (L - a).toNat + bk_rk nx < _; omega⟩
      · show 0 ≤ 180 - w % 128 ∧ 180 - w % 128 < 131072
        omega
  · split
    · rename_i d hd
      have hr := bk_eps_rk hd
      have h30 : bk_rk 30 = 0 := rfl
      exact ⟨h0, h1, by show 0 ≤ c + d; omega, by show 4 * (L - a).toNat + bk_rk 30 < _; omega⟩
    · split
      · split
        · exact bk_fin_in hc
        · exact hw
      · rename_i hlt
        have hlt : a < L := by omega
        have hgo : ∀ (q2 : Nat) (w2 : Int), bk_ok L (4 * (L - a).toNat + bk_rk q) (.inl (q2, a + 1, c, w2)) := fun q2 w2 => ⟨by show 0 ≤ a + 1; omega, by show a + 1 ≤ L; omega, hc, hk q2 hlt⟩
        split
        · exact hgo _ _
        · split
          · rename_i q2 hn
            have hr := bk_num_rk hn
            split
            · exact ⟨h0, h1, hc, by show 4 * (L - a).toNat + bk_rk q2 < _; omega⟩
            · exact hw
          · split
            · split
              · exact hgo _ _
              · exact hw
            · split
              · exact hgo _ _
              · split
                · exact hgo _ _
                · split
                  · exact hgo _ _
                  · exact hw
theorem bk_ex (t : List Term) {L : Int} (hL : L ≤ 127) : ∀ (m q : Nat) (a c w : Int), 0 ≤ a → a ≤ L → 0 ≤ c → 4 * (L - a).toNat + bk_rk q < m → ∃ R, bk_Res t L (q, a, c, w) R ∧ 0 ≤ R ∧ R < 131072 := by
  intro m
  induction m with
  | zero => intro q a c w _ _ _ h; omega
  | succ m ih =>
    intro q a c w h0 h1 hc hm
    have hok := bk_step_ok (t := t) hL (q := q) (w := w) h0 h1 hc
    cases hs : bk_step t L q a c w with
    | inr v =>
      rw [hs] at hok
      exact ⟨v, ⟨1, by simp only [bk_run, hs]⟩, hok.1, hok.2⟩
    | inl s =>
      rw [hs] at hok
      obtain ⟨k1, k2, k3, k4⟩ := hok
      obtain ⟨q2, a2, c2, w2⟩ := s
      simp only [] at k1 k2 k3 k4
      obtain ⟨R, ⟨n, hn⟩, hR⟩ := ih q2 a2 c2 w2 k1 k2 k3 (by omega)
      exact ⟨R, ⟨n + 1, by simp only [bk_run, hs]; exact hn⟩, hR⟩
/-- two tapes that are alike up to the end -/
theorem bk_by_eq {t u : List Term} {L a : Int} (h : ∀ j : Nat, (j : Int) < L → t[j]? = u[j]?) (h0 : 0 ≤ a) (h1 : a < L) : bk_by t a = bk_by u a := by
  unfold bk_by
  rw [h a.toNat (by omega)]
theorem bk_step_eq {t u : List Term} {L : Int} (h : ∀ j : Nat, (j : Int) < L → t[j]? = u[j]?) {q : Nat} {a c w : Int} (h0 : 0 ≤ a) : bk_step t L q a c w = bk_step u L q a c w := by
  by_cases hlt : a < L
  · unfold bk_step
    rw [bk_by_eq h h0 hlt]
  · have hle : L ≤ a := by omega
    unfold bk_step
    cases bk_pro q with
    | some p =>
      obtain ⟨mo, nx⟩ := p
      simp only []
      have n1 : ¬ (a < L ∧ 48 ≤ bk_by t a ∧ bk_by t a ≤ 57) := fun hd => hlt hd.1
      have n2 : ¬ (a < L ∧ 48 ≤ bk_by u a ∧ bk_by u a ≤ 57) := fun hd => hlt hd.1
      rw [if_neg n1, if_neg n2]
    | none =>
      simp only []
      cases bk_eps q with
      | some d => rfl
      | none =>
        simp only []
        rw [if_pos hle, if_pos hle]
theorem bk_run_eq {t u : List Term} {L : Int} (hL : L ≤ 127) (h : ∀ j : Nat, (j : Int) < L → t[j]? = u[j]?) : ∀ (n q : Nat) (a c w : Int), 0 ≤ a → a ≤ L → 0 ≤ c → bk_run t L n (q, a, c, w) = bk_run u L n (q, a, c, w) := by
  intro n
  induction n with
  | zero => intro q a c w _ _ _; rfl
  | succ n ih =>
    intro q a c w h0 h1 hc
    have he := bk_step_eq (q := q) (c := c) (w := w) h h0
    have hok := bk_step_ok (t := t) hL (q := q) (w := w) h0 h1 hc
    simp only [bk_run]
    rw [← he]
    cases hs : bk_step t L q a c w with
    | inr v => rfl
    | inl s =>
      rw [hs] at hok
      obtain ⟨k1, k2, k3, k4⟩ := hok
      obtain ⟨q2, a2, c2, w2⟩ := s
      exact ih q2 a2 c2 w2 k1 k2 k3
theorem bk_Res_eq {t u : List Term} {L : Int} (hL : L ≤ 127) (h : ∀ j : Nat, (j : Int) < L → t[j]? = u[j]?) {q : Nat} {a c w R : Int} (h0 : 0 ≤ a) (h1 : a ≤ L) (hc : 0 ≤ c) (hr : bk_Res t L (q, a, c, w) R) : bk_Res u L (q, a, c, w) R := by
  obtain ⟨n, hn⟩ := hr
  exact ⟨n, by rw [← bk_run_eq hL h n q a c w h0 h1 hc]; exact hn⟩
/-- all of a state in one number -/
def bk_R (t : List Term) (x R : Int) : Prop := bk_Res t (x / 128 % 128) ((x / 16384 % 64).toNat, x % 128, x / 1048576 % 262144, x / 274877906944) R
theorem bk_R_iff {t : List Term} {q : Nat} {a L c w R : Int} (hq : q < 64) (ha : 0 ≤ a ∧ a ≤ 127) (hL : 0 ≤ L ∧ L ≤ 127) (hc : 0 ≤ c ∧ c ≤ 262143) : bk_R t (a + 128 * L + 16384 * (q : Int) + 1048576 * c + 274877906944 * w) R ↔ bk_Res t L (q, a, c, w) R := by
  have e1 : (a + 128 * L + 16384 * (q : Int) + 1048576 * c + 274877906944 * w) / 128 % 128 = L := by omega
  have e2 : ((a + 128 * L + 16384 * (q : Int) + 1048576 * c + 274877906944 * w) / 16384 % 64).toNat = q := by omega
  have e3 : (a + 128 * L + 16384 * (q : Int) + 1048576 * c + 274877906944 * w) % 128 = a := by omega
  have e4 : (a + 128 * L + 16384 * (q : Int) + 1048576 * c + 274877906944 * w) / 1048576 % 262144 = c := by omega
  have e5 : (a + 128 * L + 16384 * (q : Int) + 1048576 * c + 274877906944 * w) / 274877906944 = w := by omega
  unfold bk_R
  rw [e1, e2, e3, e4, e5]
/-! its steps, one by one -/
theorem bk_s_blank {t : List Term} {L : Int} {q : Nat} {a c w : Int} (hp : bk_pro q = none) (he : bk_eps q = none) (hl : a < L) (hb : bk_by t a = 32) : bk_step t L q a c w = .inl (q, a + 1, c, w) := by
  unfold bk_step
  rw [hp]; simp only []
  rw [he]; simp only []
  rw [if_neg (by omega), if_pos hb]
theorem bk_s_tok {t : List Term} {L : Int} {q q2 : Nat} {a c w : Int} (hp : bk_pro q = none) (he : bk_eps q = none) (hn : bk_num q = none) (h30 : q ≠ 30) (hl : a < L) (hb : bk_by t a ≠ 32) (hk : bk_lk (bk_by t a) (bk_tab q) = some q2) : bk_step t L q a c w = .inl (q2, a + 1, c, 0) := by
  unfold bk_step
  rw [hp]; simp only []
  rw [he]; simp only []
  rw [if_neg (by omega), if_neg hb, hn]; simp only []
  rw [if_neg h30, hk]
theorem bk_s_l1 {t : List Term} {L : Int} {a c w : Int} (hl : a < L) (h1 : 97 ≤ bk_by t a) (h2 : bk_by t a ≤ 102) (hg : bk_by t a - 97 < c / 256 % 32) : bk_step t L 0 a c w = .inl (20, a + 1, c, bk_by t a - 97) := by
  unfold bk_step
  have hk : bk_lk (bk_by t a) (bk_tab 0) = none := by
    simp only [bk_tab, bk_lk]
    rw [if_neg (by omega), if_neg (by omega)]
  show (if L ≤ a then _ else if bk_by t a = 32 then _ else if (0 : Nat) = 30 then _ else _) = _
  rw [if_neg (by omega), if_neg (by omega), if_neg (by decide), hk]
  simp only []
  rw [if_pos ⟨trivial, h1, h2, hg⟩]
theorem bk_s_l2 {t : List Term} {L : Int} {a c w : Int} (hl : a < L) (h1 : 97 ≤ bk_by t a) (h2 : bk_by t a ≤ 102) (hg : bk_by t a - 97 < c / 256 % 32) (hw : bk_by t a - 97 ≠ w) : bk_step t L 20 a c w = .inl (26, a + 1, c, 0) := by
  unfold bk_step
  have hk : bk_lk (bk_by t a) (bk_tab 20) = none := rfl
  show (if L ≤ a then _ else if bk_by t a = 32 then _ else if (20 : Nat) = 30 then _ else _) = _
  rw [if_neg (by omega), if_neg (by omega), if_neg (by decide), hk]
  simp only []
  rw [if_neg (by simp), if_pos ⟨trivial, h1, h2, hg, hw⟩]
theorem bk_s_sc {t : List Term} {L : Int} {a c w : Int} (hl : a < L) (hb : bk_by t a = 59) (hk : c % 16 < 12) : bk_step t L 30 a c w = .inl (0, a + 1, c, 0) := by
  unfold bk_step
  show (if L ≤ a then _ else if bk_by t a = 32 then _ else if (30 : Nat) = 30 then _ else _) = _
  rw [if_neg (by omega), if_neg (by omega), if_pos rfl, if_pos ⟨hb, hk⟩]
theorem bk_s_num {t : List Term} {L : Int} {q q2 : Nat} {a c w : Int} (hp : bk_pro q = none) (he : bk_eps q = none) (hn : bk_num q = some q2) (hl : a < L) (h1 : 48 ≤ bk_by t a) (h2 : bk_by t a ≤ 57) : bk_step t L q a c w = .inl (q2, a, c, a) := by
  unfold bk_step
  rw [hp]; simp only []
  rw [he]; simp only []
  rw [if_neg (by omega), if_neg (by omega), hn]; simp only []
  rw [if_pos ⟨h1, h2⟩]
theorem bk_s_dig {t : List Term} {L : Int} {q nx : Nat} {mo a c w f v : Int} (hp : bk_pro q = some (mo, nx)) (hl : a < L) (h1 : 48 ≤ bk_by t a) (h2 : bk_by t a ≤ 57) (hw : w = f + 128 * v) (hf : 0 ≤ f ∧ f ≤ 127) : bk_step t L q a c w = .inl (q, a + 1, c, f + 128 * bk_val v (bk_by t a)) := by
  have e1 : w % 128 = f := by omega
  have e2 : w / 128 = v := by omega
  unfold bk_step
  rw [hp]; simp only []
  rw [if_pos ⟨hl, h1, h2⟩, e1, e2]
theorem bk_s_nend {t : List Term} {L : Int} {q nx : Nat} {mo a c w f v : Int} (hp : bk_pro q = some (mo, nx)) (hd : ¬ (a < L ∧ 48 ≤ bk_by t a ∧ bk_by t a ≤ 57)) (hw : w = f + 128 * v) (hf : 0 ≤ f ∧ f ≤ 127) : bk_step t L q a c w = if v ≤ mo then .inl (nx, a, c, 0) else .inr (180 - f) := by
  have e1 : w % 128 = f := by omega
  have e2 : w / 128 = v := by omega
  unfold bk_step
  rw [hp]; simp only []
  rw [if_neg hd, e1, e2]
theorem bk_s_eps {t : List Term} {L : Int} {q : Nat} {a c w d : Int} (hp : bk_pro q = none) (he : bk_eps q = some d) : bk_step t L q a c w = .inl (30, a, c + d, 0) := by
  unfold bk_step
  rw [hp]; simp only []
  rw [he]
theorem bk_s_fin {t : List Term} {L : Int} {a c w : Int} (hl : L ≤ a) : bk_step t L 30 a c w = .inr (bk_fin c) := by
  unfold bk_step
  show (if L ≤ a then _ else _) = _
  rw [if_pos hl]
  rfl
theorem bk_s_end {t : List Term} {L : Int} {q : Nat} {a c w : Int} (hp : bk_pro q = none) (he : bk_eps q = none) (h30 : q ≠ 30) (hl : L ≤ a) : bk_step t L q a c w = .inr (180 - a) := by
  unfold bk_step
  rw [hp]; simp only []
  rw [he]; simp only []
  rw [if_pos hl, if_neg h30]
theorem bk_s_nf {t : List Term} {L : Int} {q q2 : Nat} {a c w : Int} (hp : bk_pro q = none) (he : bk_eps q = none) (hn : bk_num q = some q2) (hl : a < L) (hb : bk_by t a ≠ 32) (hd : ¬ (48 ≤ bk_by t a ∧ bk_by t a ≤ 57)) : bk_step t L q a c w = .inr (180 - a) := by
  unfold bk_step
  rw [hp]; simp only []
  rw [he]; simp only []
  rw [if_neg (by omega), if_neg hb, hn]; simp only []
  rw [if_neg hd]
theorem bk_s_scf {t : List Term} {L : Int} {a c w : Int} (hl : a < L) (hb : bk_by t a ≠ 32) (hk : ¬ (bk_by t a = 59 ∧ c % 16 < 12)) : bk_step t L 30 a c w = .inr (180 - a) := by
  unfold bk_step
  show (if L ≤ a then _ else if bk_by t a = 32 then _ else if (30 : Nat) = 30 then _ else _) = _
  rw [if_neg (by omega), if_neg hb, if_pos rfl, if_neg hk]
theorem bk_s_f {t : List Term} {L : Int} {q : Nat} {a c w : Int} (hp : bk_pro q = none) (he : bk_eps q = none) (hn : bk_num q = none) (h30 : q ≠ 30) (hl : a < L) (hb : bk_by t a ≠ 32) (hk : bk_lk (bk_by t a) (bk_tab q) = none)
    (hx : (q = 0 → ¬ (97 ≤ bk_by t a ∧ bk_by t a ≤ 102 ∧ bk_by t a - 97 < c / 256 % 32)) ∧ (q = 20 → ¬ (97 ≤ bk_by t a ∧ bk_by t a ≤ 102 ∧ bk_by t a - 97 < c / 256 % 32 ∧ bk_by t a - 97 ≠ w))) : bk_step t L q a c w = .inr (180 - a) := by
  unfold bk_step
  rw [hp]; simp only []
  rw [he]; simp only []
  rw [if_neg (by omega), if_neg hb, hn]; simp only []
  rw [if_neg h30, hk]; simp only []
  rw [if_neg (fun h => hx.1 h.1 h.2), if_neg (fun h => hx.2 h.1 h.2)]
end
