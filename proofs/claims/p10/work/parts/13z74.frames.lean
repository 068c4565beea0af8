noncomputable section
/-! L3: what calls leave that change no contents. -/
def fr (S : Nat → Nat → Bool) (H H' : fl_H) : Prop := ∀ c i, S c i = true → H' c i = H c i
abbrev fpV (S : Nat → Nat → Bool) (H : fl_H) (r : Option Int) (H' : fl_H) : Prop := r = none ∧ fr S H H'
abbrev fpI (S : Nat → Nat → Bool) (H : fl_H) (r : Option Int) (H' : fl_H) : Prop := (∃ x, r = some x) ∧ fr S H H'
theorem fr_refl (S : Nat → Nat → Bool) (H : fl_H) : fr S H H := fun _ _ _ => rfl
theorem fr_trans {S : Nat → Nat → Bool} {H G F : fl_H} (h : fr S H G) (g : fr S G F) : fr S H F := fun c i k => (g c i k).trans (h c i k)
theorem fr_up {S : Nat → Nat → Bool} {H G F : fl_H} {c i : Nat} {v : Int} (h : fr S H G) (hs : S c i = false) (e : F = fl_up G c i v) : fr S H F := fun d j k => by
  rw [e]
  unfold fl_up
  by_cases hh : d = c ∧ j = i
  · rw [hh.1, hh.2, hs] at k; simp at k
  · rw [if_neg hh]; exact h d j k
theorem fr_cp {S : Nat → Nat → Bool} {H G F : fl_H} {a b n : Nat} (h : fr S H G) (hs : ∀ i, S b i = false) (e : F = fl_cp G a b n) : fr S H F := fun d j k => by
  rw [e]
  unfold fl_cp
  by_cases hh : d = b ∧ j < n
  · rw [hh.1, hs] at k; simp at k
  · rw [if_neg hh]; exact h d j k
/-- what is to stay: the book that is now, the one kept, the tape; z, its kept one, the tape -/
def sT (c i : Nat) : Bool := (Nat.beq c 0 && Nat.beq i 3) || ((Nat.ble 1 c && Nat.ble c 19) || ((Nat.ble 39 c && Nat.ble c 59) || ((Nat.beq c 94 && (Nat.beq i 13 || Nat.beq i 18)) || (Nat.beq c 95 || (Nat.beq c 104 || Nat.beq c 106)))))
/-- and what the reference has laid aside -/
def sU (c i : Nat) : Bool := sT c i || Nat.beq c 103
theorem fr_UT {H G : fl_H} (h : fr sU H G) : fr sT H G := fun c i k => h c i (by unfold sU; rw [k]; rfl)
theorem fa_GoodsBook_isGood_0 {X : Term} {xs : List Int32} (N : Nat) : (∀ (H : fl_H) (a1 : Int), ck (cm_pg X xs) N cm_m139 [.index 0, fl_t a1] H (fpI sU H)) := by
  induction N using Nat.strongRecOn with
  | ind N IH =>
    have hdE : (∀ (H : fl_H) (a1 : Int), ck (cm_pg X xs) N cm_m139 [.index 0, fl_t a1] H (fpI sU H)) := fun H a1 => ve_GoodsBook_isGood_0 (have p := fr_refl sU H
      ⟨⟨_, rfl⟩, p⟩)
    exact hdE

theorem fa_Goods_fact_3 {X : Term} {xs : List Int32} (N : Nat) : (∀ (H : fl_H) (a1 : Int) (a2 : Int), ck (cm_pg X xs) N cm_m46 [.index 3, fl_t a1, fl_t a2] H (fpI sU H)) := by
  induction N using Nat.strongRecOn with
  | ind N IH =>
    have hdE : (∀ (H : fl_H) (a1 : Int) (a2 : Int), ck (cm_pg X xs) N cm_m46 [.index 3, fl_t a1, fl_t a2] H (fpI sU H)) := fun H a1 a2 => ve_Goods_fact_3 (have p := fr_refl sU H
      ⟨fun _ => (fun _ => ⟨⟨_, rfl⟩, p⟩), fun _ => (fun _ => ⟨⟨_, rfl⟩, p⟩), fun _ => (fun _ => ⟨⟨_, rfl⟩, p⟩), fun _ => (fun _ => ⟨⟨_, rfl⟩, p⟩), fun _ => (fun _ => ⟨⟨_, rfl⟩, p⟩), fun _ => (fun _ => ⟨⟨_, rfl⟩, p⟩), fun _ => (fun _ => ⟨⟨_, rfl⟩, p⟩), fun _ => (fun _ => ⟨⟨_, rfl⟩, p⟩)⟩)
    exact hdE

theorem fa_GoodsBook_told_0 {X : Term} {xs : List Int32} (N : Nat) : (∀ (H : fl_H) (a1 : Int) (a2 : Int), ck (cm_pg X xs) N cm_m104 [.index 0, fl_t a1, fl_t a2] H (fpI sU H)) := by
  induction N using Nat.strongRecOn with
  | ind N IH =>
    have hdE : (∀ (H : fl_H) (a1 : Int) (a2 : Int), ck (cm_pg X xs) N cm_m104 [.index 0, fl_t a1, fl_t a2] H (fpI sU H)) := fun H a1 a2 => ve_GoodsBook_told_0 (have p := fr_refl sU H
      (fun m hm => ck_mono ((fa_GoodsBook_isGood_0 m) _ _) (fun _ _ ⟨⟨x, hx⟩, w2⟩ => ⟨x, hx, ⟨fun _ => ⟨⟨_, rfl⟩, (fr_trans p w2)⟩, fun _ => ⟨fun _ => (fun m hm => ck_mono ((fa_Goods_fact_3 m) _ _ _) (fun _ _ ⟨⟨x, hx⟩, w7⟩ => ⟨x, hx, ⟨⟨_, rfl⟩, (fr_trans (fr_trans p w2) w7)⟩⟩)), fun _ => ⟨⟨_, rfl⟩, (fr_trans p w2)⟩⟩⟩⟩)))
    exact hdE

theorem fa_Book_countIn_1 {X : Term} {xs : List Int32} (N : Nat) : (∀ (H : fl_H) (a1 : Int) (a2 : Int), hd_Book_countIn_1_4 (cm_pg X xs) N H a1 a2 (fpI sU H)) ∧ (∀ (H : fl_H), ck (cm_pg X xs) N cm_m10 [.index 1] H (fpI sU H)) := by
  induction N using Nat.strongRecOn with
  | ind N IH =>
    have hdBook_countIn_1_4 : (∀ (H : fl_H) (a1 : Int) (a2 : Int), hd_Book_countIn_1_4 (cm_pg X xs) N H a1 a2 (fpI sU H)) := fun H a1 a2 => vh_Book_countIn_1_4 (have p := fr_refl sU H
      ⟨fun _ => ⟨⟨_, rfl⟩, p⟩, fun _ => (fun _ => ⟨fun _ => (fun m hm => (fun lv l0 l1 l2 => vt_mono (Nat.le_refl _) (fun _ _ kk => ⟨kk.1, fr_trans p kk.2⟩) ((IH m hm).1 _ _ _ lv l0 l1 l2))), fun _ => (fun m hm => (fun lv l0 l1 l2 => vt_mono (Nat.le_refl _) (fun _ _ kk => ⟨kk.1, fr_trans p kk.2⟩) ((IH m hm).1 _ _ _ lv l0 l1 l2)))⟩)⟩)
    have hdE : (∀ (H : fl_H), ck (cm_pg X xs) N cm_m10 [.index 1] H (fpI sU H)) := fun H => ve_Book_countIn_1 (have p := fr_refl sU H
      (fun lv l0 l1 l2 => vt_mono (Nat.le_refl _) (fun _ _ kk => ⟨kk.1, fr_trans p kk.2⟩) (hdBook_countIn_1_4 _ _ _ lv l0 l1 l2)))
    exact ⟨hdBook_countIn_1_4, hdE⟩

theorem fa_GoodsBook_count_0 {X : Term} {xs : List Int32} (N : Nat) : (∀ (H : fl_H) (a1 : Int), ck (cm_pg X xs) N cm_m110 [.index 0, fl_t a1] H (fpI sU H)) := by
  induction N using Nat.strongRecOn with
  | ind N IH =>
    have hdE : (∀ (H : fl_H) (a1 : Int), ck (cm_pg X xs) N cm_m110 [.index 0, fl_t a1] H (fpI sU H)) := fun H a1 => ve_GoodsBook_count_0 (have p := fr_refl sU H
      ⟨fun _ => ⟨⟨_, rfl⟩, p⟩, fun _ => ⟨⟨_, rfl⟩, p⟩, fun _ => ⟨⟨_, rfl⟩, p⟩, fun _ => ⟨⟨_, rfl⟩, p⟩, fun _ => (fun m hm => ck_mono ((fa_Book_countIn_1 m).2 _) (fun _ _ ⟨⟨x, hx⟩, w7⟩ => ⟨x, hx, ⟨⟨_, rfl⟩, (fr_trans p w7)⟩⟩)), fun _ => ⟨⟨_, rfl⟩, p⟩⟩)
    exact hdE

theorem fa_Arrays_fill_71 {X : Term} {xs : List Int32} (N : Nat) : (∀ (H : fl_H) (a1 : Int) (a2 : Int) (a3 : Int), hd_Arrays_fill_71_5 (cm_pg X xs) N H a1 a2 a3 (fpV sU H)) ∧ (∀ (H : fl_H) (a1 : Int), ck (cm_pg X xs) N cm_m249 [.index 71, fl_t a1] H (fpV sU H)) := by
  induction N using Nat.strongRecOn with
  | ind N IH =>
    have hdArrays_fill_71_5 : (∀ (H : fl_H) (a1 : Int) (a2 : Int) (a3 : Int), hd_Arrays_fill_71_5 (cm_pg X xs) N H a1 a2 a3 (fpV sU H)) := fun H a1 a2 a3 => vh_Arrays_fill_71_5 (have p := fr_refl sU H
      ⟨fun _ => ⟨rfl, p⟩, fun _ => (fun _ H2 e3 => (fun m hm => (fun lv l0 l1 l2 l3 => vt_mono (Nat.le_refl _) (fun _ _ kk => ⟨kk.1, fr_trans (fr_up p (by intros; rfl) e3) kk.2⟩) ((IH m hm).1 _ _ _ _ lv l0 l1 l2 l3))))⟩)
    have hdE : (∀ (H : fl_H) (a1 : Int), ck (cm_pg X xs) N cm_m249 [.index 71, fl_t a1] H (fpV sU H)) := fun H a1 => ve_Arrays_fill_71 (have p := fr_refl sU H
      (fun lv l0 l1 l2 l3 => vt_mono (Nat.le_refl _) (fun _ _ kk => ⟨kk.1, fr_trans p kk.2⟩) (hdArrays_fill_71_5 _ _ _ _ lv l0 l1 l2 l3)))
    exact ⟨hdArrays_fill_71_5, hdE⟩

theorem fa_Arrays_fill_72 {X : Term} {xs : List Int32} (N : Nat) : (∀ (H : fl_H) (a1 : Int) (a2 : Int) (a3 : Int), hd_Arrays_fill_72_5 (cm_pg X xs) N H a1 a2 a3 (fpV sU H)) ∧ (∀ (H : fl_H) (a1 : Int), ck (cm_pg X xs) N cm_m249 [.index 72, fl_t a1] H (fpV sU H)) := by
  induction N using Nat.strongRecOn with
  | ind N IH =>
    have hdArrays_fill_72_5 : (∀ (H : fl_H) (a1 : Int) (a2 : Int) (a3 : Int), hd_Arrays_fill_72_5 (cm_pg X xs) N H a1 a2 a3 (fpV sU H)) := fun H a1 a2 a3 => vh_Arrays_fill_72_5 (have p := fr_refl sU H
      ⟨fun _ => ⟨rfl, p⟩, fun _ => (fun _ H2 e3 => (fun m hm => (fun lv l0 l1 l2 l3 => vt_mono (Nat.le_refl _) (fun _ _ kk => ⟨kk.1, fr_trans (fr_up p (by intros; rfl) e3) kk.2⟩) ((IH m hm).1 _ _ _ _ lv l0 l1 l2 l3))))⟩)
    have hdE : (∀ (H : fl_H) (a1 : Int), ck (cm_pg X xs) N cm_m249 [.index 72, fl_t a1] H (fpV sU H)) := fun H a1 => ve_Arrays_fill_72 (have p := fr_refl sU H
      (fun lv l0 l1 l2 l3 => vt_mono (Nat.le_refl _) (fun _ _ kk => ⟨kk.1, fr_trans p kk.2⟩) (hdArrays_fill_72_5 _ _ _ _ lv l0 l1 l2 l3)))
    exact ⟨hdArrays_fill_72_5, hdE⟩

theorem fa_Arrays_fill_74 {X : Term} {xs : List Int32} (N : Nat) : (∀ (H : fl_H) (a1 : Int) (a2 : Int) (a3 : Int), hd_Arrays_fill_74_5 (cm_pg X xs) N H a1 a2 a3 (fpV sU H)) ∧ (∀ (H : fl_H) (a1 : Int), ck (cm_pg X xs) N cm_m249 [.index 74, fl_t a1] H (fpV sU H)) := by
  induction N using Nat.strongRecOn with
  | ind N IH =>
    have hdArrays_fill_74_5 : (∀ (H : fl_H) (a1 : Int) (a2 : Int) (a3 : Int), hd_Arrays_fill_74_5 (cm_pg X xs) N H a1 a2 a3 (fpV sU H)) := fun H a1 a2 a3 => vh_Arrays_fill_74_5 (have p := fr_refl sU H
      ⟨fun _ => ⟨rfl, p⟩, fun _ => (fun _ H2 e3 => (fun m hm => (fun lv l0 l1 l2 l3 => vt_mono (Nat.le_refl _) (fun _ _ kk => ⟨kk.1, fr_trans (fr_up p (by intros; rfl) e3) kk.2⟩) ((IH m hm).1 _ _ _ _ lv l0 l1 l2 l3))))⟩)
    have hdE : (∀ (H : fl_H) (a1 : Int), ck (cm_pg X xs) N cm_m249 [.index 74, fl_t a1] H (fpV sU H)) := fun H a1 => ve_Arrays_fill_74 (have p := fr_refl sU H
      (fun lv l0 l1 l2 l3 => vt_mono (Nat.le_refl _) (fun _ _ kk => ⟨kk.1, fr_trans p kk.2⟩) (hdArrays_fill_74_5 _ _ _ _ lv l0 l1 l2 l3)))
    exact ⟨hdArrays_fill_74_5, hdE⟩

theorem fa_Arrays_fill_75 {X : Term} {xs : List Int32} (N : Nat) : (∀ (H : fl_H) (a1 : Int) (a2 : Int) (a3 : Int), hd_Arrays_fill_75_5 (cm_pg X xs) N H a1 a2 a3 (fpV sU H)) ∧ (∀ (H : fl_H) (a1 : Int), ck (cm_pg X xs) N cm_m249 [.index 75, fl_t a1] H (fpV sU H)) := by
  induction N using Nat.strongRecOn with
  | ind N IH =>
    have hdArrays_fill_75_5 : (∀ (H : fl_H) (a1 : Int) (a2 : Int) (a3 : Int), hd_Arrays_fill_75_5 (cm_pg X xs) N H a1 a2 a3 (fpV sU H)) := fun H a1 a2 a3 => vh_Arrays_fill_75_5 (have p := fr_refl sU H
      ⟨fun _ => ⟨rfl, p⟩, fun _ => (fun _ H2 e3 => (fun m hm => (fun lv l0 l1 l2 l3 => vt_mono (Nat.le_refl _) (fun _ _ kk => ⟨kk.1, fr_trans (fr_up p (by intros; rfl) e3) kk.2⟩) ((IH m hm).1 _ _ _ _ lv l0 l1 l2 l3))))⟩)
    have hdE : (∀ (H : fl_H) (a1 : Int), ck (cm_pg X xs) N cm_m249 [.index 75, fl_t a1] H (fpV sU H)) := fun H a1 => ve_Arrays_fill_75 (have p := fr_refl sU H
      (fun lv l0 l1 l2 l3 => vt_mono (Nat.le_refl _) (fun _ _ kk => ⟨kk.1, fr_trans p kk.2⟩) (hdArrays_fill_75_5 _ _ _ _ lv l0 l1 l2 l3)))
    exact ⟨hdArrays_fill_75_5, hdE⟩

theorem fa_Arrays_fill_76 {X : Term} {xs : List Int32} (N : Nat) : (∀ (H : fl_H) (a1 : Int) (a2 : Int) (a3 : Int), hd_Arrays_fill_76_5 (cm_pg X xs) N H a1 a2 a3 (fpV sU H)) ∧ (∀ (H : fl_H) (a1 : Int), ck (cm_pg X xs) N cm_m249 [.index 76, fl_t a1] H (fpV sU H)) := by
  induction N using Nat.strongRecOn with
  | ind N IH =>
    have hdArrays_fill_76_5 : (∀ (H : fl_H) (a1 : Int) (a2 : Int) (a3 : Int), hd_Arrays_fill_76_5 (cm_pg X xs) N H a1 a2 a3 (fpV sU H)) := fun H a1 a2 a3 => vh_Arrays_fill_76_5 (have p := fr_refl sU H
      ⟨fun _ => ⟨rfl, p⟩, fun _ => (fun _ H2 e3 => (fun m hm => (fun lv l0 l1 l2 l3 => vt_mono (Nat.le_refl _) (fun _ _ kk => ⟨kk.1, fr_trans (fr_up p (by intros; rfl) e3) kk.2⟩) ((IH m hm).1 _ _ _ _ lv l0 l1 l2 l3))))⟩)
    have hdE : (∀ (H : fl_H) (a1 : Int), ck (cm_pg X xs) N cm_m249 [.index 76, fl_t a1] H (fpV sU H)) := fun H a1 => ve_Arrays_fill_76 (have p := fr_refl sU H
      (fun lv l0 l1 l2 l3 => vt_mono (Nat.le_refl _) (fun _ _ kk => ⟨kk.1, fr_trans p kk.2⟩) (hdArrays_fill_76_5 _ _ _ _ lv l0 l1 l2 l3)))
    exact ⟨hdArrays_fill_76_5, hdE⟩

theorem fa_Arrays_fill_77 {X : Term} {xs : List Int32} (N : Nat) : (∀ (H : fl_H) (a1 : Int) (a2 : Int) (a3 : Int), hd_Arrays_fill_77_5 (cm_pg X xs) N H a1 a2 a3 (fpV sU H)) ∧ (∀ (H : fl_H) (a1 : Int), ck (cm_pg X xs) N cm_m249 [.index 77, fl_t a1] H (fpV sU H)) := by
  induction N using Nat.strongRecOn with
  | ind N IH =>
    have hdArrays_fill_77_5 : (∀ (H : fl_H) (a1 : Int) (a2 : Int) (a3 : Int), hd_Arrays_fill_77_5 (cm_pg X xs) N H a1 a2 a3 (fpV sU H)) := fun H a1 a2 a3 => vh_Arrays_fill_77_5 (have p := fr_refl sU H
      ⟨fun _ => ⟨rfl, p⟩, fun _ => (fun _ H2 e3 => (fun m hm => (fun lv l0 l1 l2 l3 => vt_mono (Nat.le_refl _) (fun _ _ kk => ⟨kk.1, fr_trans (fr_up p (by intros; rfl) e3) kk.2⟩) ((IH m hm).1 _ _ _ _ lv l0 l1 l2 l3))))⟩)
    have hdE : (∀ (H : fl_H) (a1 : Int), ck (cm_pg X xs) N cm_m249 [.index 77, fl_t a1] H (fpV sU H)) := fun H a1 => ve_Arrays_fill_77 (have p := fr_refl sU H
      (fun lv l0 l1 l2 l3 => vt_mono (Nat.le_refl _) (fun _ _ kk => ⟨kk.1, fr_trans p kk.2⟩) (hdArrays_fill_77_5 _ _ _ _ lv l0 l1 l2 l3)))
    exact ⟨hdArrays_fill_77_5, hdE⟩

theorem fa_Arrays_fill_65 {X : Term} {xs : List Int32} (N : Nat) : (∀ (H : fl_H) (a1 : Int) (a2 : Int) (a3 : Int), hd_Arrays_fill_65_5 (cm_pg X xs) N H a1 a2 a3 (fpV sU H)) ∧ (∀ (H : fl_H) (a1 : Int), ck (cm_pg X xs) N cm_m250 [.index 65, fl_t a1] H (fpV sU H)) := by
  induction N using Nat.strongRecOn with
  | ind N IH =>
    have hdArrays_fill_65_5 : (∀ (H : fl_H) (a1 : Int) (a2 : Int) (a3 : Int), hd_Arrays_fill_65_5 (cm_pg X xs) N H a1 a2 a3 (fpV sU H)) := fun H a1 a2 a3 => vh_Arrays_fill_65_5 (have p := fr_refl sU H
      ⟨fun _ => ⟨rfl, p⟩, fun _ => (fun _ H2 e3 => (fun m hm => (fun lv l0 l1 l2 l3 => vt_mono (Nat.le_refl _) (fun _ _ kk => ⟨kk.1, fr_trans (fr_up p (by intros; rfl) e3) kk.2⟩) ((IH m hm).1 _ _ _ _ lv l0 l1 l2 l3))))⟩)
    have hdE : (∀ (H : fl_H) (a1 : Int), ck (cm_pg X xs) N cm_m250 [.index 65, fl_t a1] H (fpV sU H)) := fun H a1 => ve_Arrays_fill_65 (have p := fr_refl sU H
      (fun lv l0 l1 l2 l3 => vt_mono (Nat.le_refl _) (fun _ _ kk => ⟨kk.1, fr_trans p kk.2⟩) (hdArrays_fill_65_5 _ _ _ _ lv l0 l1 l2 l3)))
    exact ⟨hdArrays_fill_65_5, hdE⟩

theorem fa_Goods_area_3 {X : Term} {xs : List Int32} (N : Nat) : (∀ (H : fl_H) (a1 : Int), ck (cm_pg X xs) N cm_m45 [.index 3, fl_t a1] H (fpI sU H)) := by
  induction N using Nat.strongRecOn with
  | ind N IH =>
    have hdE : (∀ (H : fl_H) (a1 : Int), ck (cm_pg X xs) N cm_m45 [.index 3, fl_t a1] H (fpI sU H)) := fun H a1 => ve_Goods_area_3 (have p := fr_refl sU H
      (fun _ => (fun _ => ⟨⟨_, rfl⟩, p⟩)))
    exact hdE

theorem fa_Floor_cover_64 {X : Term} {xs : List Int32} (N : Nat) : (∀ (H : fl_H) (a1 : Int) (a2 : Int) (a3 : Int) (a4 : Int) (a5 : Int), hd_Floor_cover_64_56 (cm_pg X xs) N H a1 a2 a3 a4 a5 (fpI sU H)) ∧ (∀ (H : fl_H) (a1 : Int) (a2 : Int), ck (cm_pg X xs) N cm_m33 [.index 64, fl_t a1, fl_t a2] H (fpI sU H)) := by
  induction N using Nat.strongRecOn with
  | ind N IH =>
    have hdFloor_cover_64_56 : (∀ (H : fl_H) (a1 : Int) (a2 : Int) (a3 : Int) (a4 : Int) (a5 : Int), hd_Floor_cover_64_56 (cm_pg X xs) N H a1 a2 a3 a4 a5 (fpI sU H)) := fun H a1 a2 a3 a4 a5 => vh_Floor_cover_64_56 (have p := fr_refl sU H
      (fun _ => ⟨fun _ => ⟨⟨_, rfl⟩, p⟩, fun _ => (fun m hm => (fun lv l0 l1 l2 l3 l4 l5 => vt_mono (Nat.le_refl _) (fun _ _ kk => ⟨kk.1, fr_trans p kk.2⟩) ((IH m hm).1 _ _ _ _ _ _ lv l0 l1 l2 l3 l4 l5)))⟩))
    have hdE : (∀ (H : fl_H) (a1 : Int) (a2 : Int), ck (cm_pg X xs) N cm_m33 [.index 64, fl_t a1, fl_t a2] H (fpI sU H)) := fun H a1 a2 => ve_Floor_cover_64 (have p := fr_refl sU H
      (fun _ => ⟨fun _ => ⟨⟨_, rfl⟩, p⟩, fun _ => (fun _ => ⟨fun _ => (fun _ => (fun lv l0 l1 l2 l3 l4 l5 => vt_mono (Nat.le_refl _) (fun _ _ kk => ⟨kk.1, fr_trans p kk.2⟩) (hdFloor_cover_64_56 _ _ _ _ _ _ lv l0 l1 l2 l3 l4 l5))), fun _ => ⟨⟨_, rfl⟩, p⟩⟩)⟩))
    exact ⟨hdFloor_cover_64_56, hdE⟩

theorem fa_Floor_measureOnce_64 {X : Term} {xs : List Int32} (N : Nat) : (∀ (H : fl_H) (a1 : Int) (a2 : Int), hd_Floor_measureOnce_64_47 (cm_pg X xs) N H a1 a2 (fpV sU H)) ∧ (∀ (H : fl_H) (a1 : Int), hd_Floor_measureOnce_64_18 (cm_pg X xs) N H a1 (fpV sU H)) ∧ (∀ (H : fl_H), ck (cm_pg X xs) N cm_m32 [.index 64] H (fpV sU H)) := by
  induction N using Nat.strongRecOn with
  | ind N IH =>
    have hdFloor_measureOnce_64_47 : (∀ (H : fl_H) (a1 : Int) (a2 : Int), hd_Floor_measureOnce_64_47 (cm_pg X xs) N H a1 a2 (fpV sU H)) := fun H a1 a2 => vh_Floor_measureOnce_64_47 (have p := fr_refl sU H
      ⟨fun _ => (fun m hm => (fun lv l0 l1 => vt_mono (Nat.le_refl _) (fun _ _ kk => ⟨kk.1, fr_trans p kk.2⟩) ((IH m hm).2.1 _ _ lv l0 l1))), fun _ => (fun m hm => ck_mono ((fa_Floor_cover_64 m).2 _ _ _) (fun _ _ ⟨⟨x, hx⟩, w4⟩ => ⟨x, hx, (fun _ H6 e7 => (fun m hm => (fun lv l0 l1 l2 => vt_mono (Nat.le_refl _) (fun _ _ kk => ⟨kk.1, fr_trans (fr_up (fr_trans p w4) (by intros; rfl) e7) kk.2⟩) ((IH m hm).1 _ _ _ lv l0 l1 l2))))⟩))⟩)
    have hdFloor_measureOnce_64_18 : (∀ (H : fl_H) (a1 : Int), hd_Floor_measureOnce_64_18 (cm_pg X xs) N H a1 (fpV sU H)) := fun H a1 => vh_Floor_measureOnce_64_18 (have p := fr_refl sU H
      ⟨fun _ => (fun H2 e3 => ⟨rfl, (fr_up p (by intros; rfl) e3)⟩), fun _ => (fun m hm => ck_mono ((fa_Goods_area_3 m) _ _) (fun _ _ ⟨⟨x, hx⟩, w5⟩ => ⟨x, hx, (fun _ H7 e8 => (fun lv l0 l1 l2 => vt_mono (Nat.le_refl _) (fun _ _ kk => ⟨kk.1, fr_trans (fr_up (fr_trans p w5) (by intros; rfl) e8) kk.2⟩) (hdFloor_measureOnce_64_47 _ _ _ lv l0 l1 l2)))⟩))⟩)
    have hdE : (∀ (H : fl_H), ck (cm_pg X xs) N cm_m32 [.index 64] H (fpV sU H)) := fun H => ve_Floor_measureOnce_64 (have p := fr_refl sU H
      ⟨fun _ => (fun m hm => ck_mono ((fa_Arrays_fill_65 m).2 _ _) (fun _ _ ⟨hx, w3⟩ => ⟨hx, (fun lv l0 l1 => vt_mono (Nat.le_refl _) (fun _ _ kk => ⟨kk.1, fr_trans (fr_trans p w3) kk.2⟩) (hdFloor_measureOnce_64_18 _ _ lv l0 l1))⟩)), fun _ => ⟨rfl, p⟩⟩)
    exact ⟨hdFloor_measureOnce_64_47, hdFloor_measureOnce_64_18, hdE⟩

theorem fa_Draft_measureOpen_69 {X : Term} {xs : List Int32} (N : Nat) : (∀ (H : fl_H) (a1 : Int), hd_Draft_measureOpen_69_29 (cm_pg X xs) N H a1 (fpV sU H)) ∧ (∀ (H : fl_H), ck (cm_pg X xs) N cm_m14 [.index 69] H (fpV sU H)) := by
  induction N using Nat.strongRecOn with
  | ind N IH =>
    have hdDraft_measureOpen_69_29 : (∀ (H : fl_H) (a1 : Int), hd_Draft_measureOpen_69_29 (cm_pg X xs) N H a1 (fpV sU H)) := fun H a1 => vh_Draft_measureOpen_69_29 (have p := fr_refl sU H
      ⟨fun _ => ⟨rfl, p⟩, fun _ => (fun m hm => ck_mono ((fa_Goods_area_3 m) _ _) (fun _ _ ⟨⟨x, hx⟩, w3⟩ => ⟨x, hx, (fun m hm => ck_mono ((fa_Goods_area_3 m) _ _) (fun _ _ ⟨⟨x, hx⟩, w6⟩ => ⟨x, hx, (fun _ => (fun _ H10 e11 => (fun m hm => (fun lv l0 l1 => vt_mono (Nat.le_refl _) (fun _ _ kk => ⟨kk.1, fr_trans (fr_up (fr_trans (fr_trans p w3) w6) (by intros; rfl) e11) kk.2⟩) ((IH m hm).1 _ _ lv l0 l1)))))⟩))⟩))⟩)
    have hdE : (∀ (H : fl_H), ck (cm_pg X xs) N cm_m14 [.index 69] H (fpV sU H)) := fun H => ve_Draft_measureOpen_69 (have p := fr_refl sU H
      (fun _ H1 e2 => (fun lv l0 l1 => vt_mono (Nat.le_refl _) (fun _ _ kk => ⟨kk.1, fr_trans (fr_up p (by intros; rfl) e2) kk.2⟩) (hdDraft_measureOpen_69_29 _ _ lv l0 l1))))
    exact ⟨hdDraft_measureOpen_69_29, hdE⟩

theorem fa_Draft_begin_69 {X : Term} {xs : List Int32} (N : Nat) : (∀ (H : fl_H) (a1 : Int) (a2 : Int) (a3 : Int), hd_Draft_begin_69_7 (cm_pg X xs) N H a1 a2 a3 (fpV sU H)) ∧ (∀ (H : fl_H) (a1 : Int) (a2 : Int), ck (cm_pg X xs) N cm_m13 [.index 69, fl_t a1, fl_t a2] H (fpV sU H)) := by
  induction N using Nat.strongRecOn with
  | ind N IH =>
    have hdDraft_begin_69_7 : (∀ (H : fl_H) (a1 : Int) (a2 : Int) (a3 : Int), hd_Draft_begin_69_7 (cm_pg X xs) N H a1 a2 a3 (fpV sU H)) := fun H a1 a2 a3 => vh_Draft_begin_69_7 (have p := fr_refl sU H
      ⟨fun _ => ⟨fun _ => (fun m hm => ck_mono ((fa_Arrays_fill_71 m).2 _ _) (fun _ _ ⟨hx, w4⟩ => ⟨hx, (fun m hm => ck_mono ((fa_Arrays_fill_72 m).2 _ _) (fun _ _ ⟨hx, w6⟩ => ⟨hx, (fun m hm => ck_mono ((fa_Arrays_fill_74 m).2 _ _) (fun _ _ ⟨hx, w8⟩ => ⟨hx, (fun m hm => ck_mono ((fa_Arrays_fill_75 m).2 _ _) (fun _ _ ⟨hx, w10⟩ => ⟨hx, (fun m hm => ck_mono ((fa_Arrays_fill_76 m).2 _ _) (fun _ _ ⟨hx, w12⟩ => ⟨hx, (fun m hm => ck_mono ((fa_Arrays_fill_77 m).2 _ _) (fun _ _ ⟨hx, w14⟩ => ⟨hx, (fun m hm => ck_mono ((fa_Floor_measureOnce_64 m).2.2 _) (fun _ _ ⟨hx, w16⟩ => ⟨hx, (fun m hm => ck_mono ((fa_Draft_measureOpen_69 m).2 _) (fun _ _ ⟨hx, w18⟩ => ⟨hx, ⟨rfl, (fr_trans (fr_trans (fr_trans (fr_trans (fr_trans (fr_trans (fr_trans (fr_trans p w4) w6) w8) w10) w12) w14) w16) w18)⟩⟩))⟩))⟩))⟩))⟩))⟩))⟩))⟩)), fun _ => ⟨fun _ => (fun m hm => ck_mono ((fa_Arrays_fill_71 m).2 _ _) (fun _ _ ⟨hx, w21⟩ => ⟨hx, (fun m hm => ck_mono ((fa_Arrays_fill_72 m).2 _ _) (fun _ _ ⟨hx, w23⟩ => ⟨hx, (fun m hm => ck_mono ((fa_Arrays_fill_74 m).2 _ _) (fun _ _ ⟨hx, w25⟩ => ⟨hx, (fun m hm => ck_mono ((fa_Arrays_fill_75 m).2 _ _) (fun _ _ ⟨hx, w27⟩ => ⟨hx, (fun m hm => ck_mono ((fa_Arrays_fill_76 m).2 _ _) (fun _ _ ⟨hx, w29⟩ => ⟨hx, (fun m hm => ck_mono ((fa_Arrays_fill_77 m).2 _ _) (fun _ _ ⟨hx, w31⟩ => ⟨hx, (fun m hm => ck_mono ((fa_Floor_measureOnce_64 m).2.2 _) (fun _ _ ⟨hx, w33⟩ => ⟨hx, (fun m hm => ck_mono ((fa_Draft_measureOpen_69 m).2 _) (fun _ _ ⟨hx, w35⟩ => ⟨hx, ⟨rfl, (fr_trans (fr_trans (fr_trans (fr_trans (fr_trans (fr_trans (fr_trans (fr_trans p w21) w23) w25) w27) w29) w31) w33) w35)⟩⟩))⟩))⟩))⟩))⟩))⟩))⟩))⟩)), fun _ => (fun H36 e37 => (fun _ H38 e39 => (fun m hm => ck_mono ((fa_Arrays_fill_71 m).2 _ _) (fun _ _ ⟨hx, w42⟩ => ⟨hx, (fun m hm => ck_mono ((fa_Arrays_fill_72 m).2 _ _) (fun _ _ ⟨hx, w44⟩ => ⟨hx, (fun m hm => ck_mono ((fa_Arrays_fill_74 m).2 _ _) (fun _ _ ⟨hx, w46⟩ => ⟨hx, (fun m hm => ck_mono ((fa_Arrays_fill_75 m).2 _ _) (fun _ _ ⟨hx, w48⟩ => ⟨hx, (fun m hm => ck_mono ((fa_Arrays_fill_76 m).2 _ _) (fun _ _ ⟨hx, w50⟩ => ⟨hx, (fun m hm => ck_mono ((fa_Arrays_fill_77 m).2 _ _) (fun _ _ ⟨hx, w52⟩ => ⟨hx, (fun m hm => ck_mono ((fa_Floor_measureOnce_64 m).2.2 _) (fun _ _ ⟨hx, w54⟩ => ⟨hx, (fun m hm => ck_mono ((fa_Draft_measureOpen_69 m).2 _) (fun _ _ ⟨hx, w56⟩ => ⟨hx, ⟨rfl, (fr_trans (fr_trans (fr_trans (fr_trans (fr_trans (fr_trans (fr_trans (fr_trans (fr_up (fr_up p (by intros; rfl) e37) (by intros; rfl) e39) w42) w44) w46) w48) w50) w52) w54) w56)⟩⟩))⟩))⟩))⟩))⟩))⟩))⟩))⟩))))⟩⟩, fun _ => ⟨fun _ => (fun m hm => (fun lv l0 l1 l2 l3 => vt_mono (Nat.le_refl _) (fun _ _ kk => ⟨kk.1, fr_trans p kk.2⟩) ((IH m hm).1 _ _ _ _ lv l0 l1 l2 l3))), fun _ => (fun H59 e60 => (fun _ => (fun _ H62 e63 => (fun m hm => (fun lv l0 l1 l2 l3 => vt_mono (Nat.le_refl _) (fun _ _ kk => ⟨kk.1, fr_trans (fr_up (fr_up p (by intros; rfl) e60) (by intros; rfl) e63) kk.2⟩) ((IH m hm).1 _ _ _ _ lv l0 l1 l2 l3))))))⟩⟩)
    have hdE : (∀ (H : fl_H) (a1 : Int) (a2 : Int), ck (cm_pg X xs) N cm_m13 [.index 69, fl_t a1, fl_t a2] H (fpV sU H)) := fun H a1 a2 => ve_Draft_begin_69 (have p := fr_refl sU H
      (fun H1 e2 => (fun lv l0 l1 l2 l3 => vt_mono (Nat.le_refl _) (fun _ _ kk => ⟨kk.1, fr_trans (fr_up p (by intros; rfl) e2) kk.2⟩) (hdDraft_begin_69_7 _ _ _ _ lv l0 l1 l2 l3))))
    exact ⟨hdDraft_begin_69_7, hdE⟩

theorem fa_GoodsBook_pageOf {X : Term} {xs : List Int32} (N : Nat) : (∀ (H : fl_H) (a0 : Int), ck (cm_pg X xs) N cm_m136 [fl_t a0] H (fpI sU H)) := by
  induction N using Nat.strongRecOn with
  | ind N IH =>
    have hdE : (∀ (H : fl_H) (a0 : Int), ck (cm_pg X xs) N cm_m136 [fl_t a0] H (fpI sU H)) := fun H a0 => ve_GoodsBook_pageOf (have p := fr_refl sU H
      ⟨⟨_, rfl⟩, p⟩)
    exact hdE

theorem fa_GoodsBook_sizeOf {X : Term} {xs : List Int32} (N : Nat) : (∀ (H : fl_H) (a0 : Int), ck (cm_pg X xs) N cm_m137 [fl_t a0] H (fpI sU H)) := by
  induction N using Nat.strongRecOn with
  | ind N IH =>
    have hdE : (∀ (H : fl_H) (a0 : Int), ck (cm_pg X xs) N cm_m137 [fl_t a0] H (fpI sU H)) := fun H a0 => ve_GoodsBook_sizeOf (have p := fr_refl sU H
      ⟨⟨_, rfl⟩, p⟩)
    exact hdE

theorem fa_Draft_mark_69 {X : Term} {xs : List Int32} (N : Nat) : (∀ (H : fl_H) (a1 : Int) (a2 : Int) (a3 : Int), ck (cm_pg X xs) N cm_m18 [.index 69, fl_t a1, fl_t a2, fl_t a3] H (fpV sU H)) := by
  induction N using Nat.strongRecOn with
  | ind N IH =>
    have hdE : (∀ (H : fl_H) (a1 : Int) (a2 : Int) (a3 : Int), ck (cm_pg X xs) N cm_m18 [.index 69, fl_t a1, fl_t a2, fl_t a3] H (fpV sU H)) := fun H a1 a2 a3 => ve_Draft_mark_69 (have p := fr_refl sU H
      (fun m hm => ck_mono ((fa_GoodsBook_pageOf m) _ _) (fun _ _ ⟨⟨x, hx⟩, w2⟩ => ⟨x, hx, (fun m hm => ck_mono ((fa_GoodsBook_sizeOf m) _ _) (fun _ _ ⟨⟨x, hx⟩, w5⟩ => ⟨x, hx, (fun _ => (fun _ H8 e9 => (fun _ => (fun m hm => ck_mono ((fa_Goods_area_3 m) _ _) (fun _ _ ⟨⟨x, hx⟩, w13⟩ => ⟨x, hx, (fun _ H15 e16 => (fun _ => (fun _ => (fun _ H20 e21 => (fun _ => ⟨fun _ => (fun _ => (fun _ => (fun _ H27 e28 => ⟨rfl, (fr_up (fr_up (fr_up (fr_trans (fr_up (fr_trans (fr_trans p w2) w5) (by intros; rfl) e9) w13) (by intros; rfl) e16) (by intros; rfl) e21) (by intros; rfl) e28)⟩))), fun _ => ⟨rfl, (fr_up (fr_up (fr_trans (fr_up (fr_trans (fr_trans p w2) w5) (by intros; rfl) e9) w13) (by intros; rfl) e16) (by intros; rfl) e21)⟩⟩)))))⟩)))))⟩))⟩)))
    exact hdE

theorem fa_Draft_put_69 {X : Term} {xs : List Int32} (N : Nat) : (∀ (H : fl_H) (a1 : Int) (a2 : Int), ck (cm_pg X xs) N cm_m17 [.index 69, fl_t a1, fl_t a2] H (fpV sU H)) := by
  induction N using Nat.strongRecOn with
  | ind N IH =>
    have hdE : (∀ (H : fl_H) (a1 : Int) (a2 : Int), ck (cm_pg X xs) N cm_m17 [.index 69, fl_t a1, fl_t a2] H (fpV sU H)) := fun H a1 a2 => ve_Draft_put_69 (have p := fr_refl sU H
      (fun _ => ⟨fun _ => (fun _ H3 e4 => (fun _ H6 e7 => ⟨fun _ => ⟨rfl, (fr_up (fr_up p (by intros; rfl) e4) (by intros; rfl) e7)⟩, fun _ => (fun m hm => ck_mono ((fa_Draft_mark_69 m) _ _ _ _) (fun _ _ ⟨hx, w11⟩ => ⟨hx, (fun m hm => ck_mono ((fa_GoodsBook_pageOf m) _ _) (fun _ _ ⟨⟨x, hx⟩, w13⟩ => ⟨x, hx, (fun _ H15 e16 => (fun m hm => ck_mono ((fa_GoodsBook_sizeOf m) _ _) (fun _ _ ⟨⟨x, hx⟩, w19⟩ => ⟨x, hx, (fun _ => (fun _ => (fun _ => (fun _ H24 e25 => ⟨rfl, (fr_up (fr_trans (fr_up (fr_trans (fr_trans (fr_up (fr_up p (by intros; rfl) e4) (by intros; rfl) e7) w11) w13) (by intros; rfl) e16) w19) (by intros; rfl) e25)⟩))))⟩)))⟩))⟩))⟩)), fun _ => (fun _ => (fun m hm => ck_mono ((fa_Draft_mark_69 m) _ _ _ _) (fun _ _ ⟨hx, w29⟩ => ⟨hx, (fun _ H30 e31 => (fun _ H33 e34 => ⟨fun _ => ⟨rfl, (fr_up (fr_up (fr_trans p w29) (by intros; rfl) e31) (by intros; rfl) e34)⟩, fun _ => (fun m hm => ck_mono ((fa_Draft_mark_69 m) _ _ _ _) (fun _ _ ⟨hx, w38⟩ => ⟨hx, (fun m hm => ck_mono ((fa_GoodsBook_pageOf m) _ _) (fun _ _ ⟨⟨x, hx⟩, w40⟩ => ⟨x, hx, (fun _ H42 e43 => (fun m hm => ck_mono ((fa_GoodsBook_sizeOf m) _ _) (fun _ _ ⟨⟨x, hx⟩, w46⟩ => ⟨x, hx, (fun _ => (fun _ => (fun _ => (fun _ H51 e52 => ⟨rfl, (fr_up (fr_trans (fr_up (fr_trans (fr_trans (fr_up (fr_up (fr_trans p w29) (by intros; rfl) e31) (by intros; rfl) e34) w38) w40) (by intros; rfl) e43) w46) (by intros; rfl) e52)⟩))))⟩)))⟩))⟩))⟩))⟩)))⟩))
    exact hdE

theorem fa_Draft_putAll_69_19 {X : Term} {xs : List Int32} (N : Nat) : (∀ (H : fl_H) (a2 : Int), hd_Draft_putAll_69_19_2 (cm_pg X xs) N H a2 (fpV sU H)) ∧ (∀ (H : fl_H), ck (cm_pg X xs) N cm_m16 [.index 69, .index 19] H (fpV sU H)) := by
  induction N using Nat.strongRecOn with
  | ind N IH =>
    have hdDraft_putAll_69_19_2 : (∀ (H : fl_H) (a2 : Int), hd_Draft_putAll_69_19_2 (cm_pg X xs) N H a2 (fpV sU H)) := fun H a2 => vh_Draft_putAll_69_19_2 (have p := fr_refl sU H
      ⟨fun _ => ⟨rfl, p⟩, fun _ => (fun _ => (fun m hm => ck_mono ((fa_Draft_put_69 m) _ _ _) (fun _ _ ⟨hx, w4⟩ => ⟨hx, (fun m hm => (fun lv l0 l1 l2 => vt_mono (Nat.le_refl _) (fun _ _ kk => ⟨kk.1, fr_trans (fr_trans p w4) kk.2⟩) ((IH m hm).1 _ _ lv l0 l1 l2)))⟩)))⟩)
    have hdE : (∀ (H : fl_H), ck (cm_pg X xs) N cm_m16 [.index 69, .index 19] H (fpV sU H)) := fun H => ve_Draft_putAll_69_19 (have p := fr_refl sU H
      (fun lv l0 l1 l2 => vt_mono (Nat.le_refl _) (fun _ _ kk => ⟨kk.1, fr_trans p kk.2⟩) (hdDraft_putAll_69_19_2 _ _ lv l0 l1 l2)))
    exact ⟨hdDraft_putAll_69_19_2, hdE⟩

theorem fa_GoodsBook_drawPlan_0 {X : Term} {xs : List Int32} (N : Nat) : (∀ (H : fl_H), ck (cm_pg X xs) N cm_m143 [.index 0] H (fpV sU H)) := by
  induction N using Nat.strongRecOn with
  | ind N IH =>
    have hdE : (∀ (H : fl_H), ck (cm_pg X xs) N cm_m143 [.index 0] H (fpV sU H)) := fun H => ve_GoodsBook_drawPlan_0 (have p := fr_refl sU H
      (fun m hm => ck_mono ((fa_Draft_begin_69 m).2 _ _ _) (fun _ _ ⟨hx, w2⟩ => ⟨hx, (fun m hm => ck_mono ((fa_Draft_putAll_69_19 m).2 _) (fun _ _ ⟨hx, w4⟩ => ⟨hx, ⟨rfl, (fr_trans (fr_trans p w2) w4)⟩⟩))⟩)))
    exact hdE

theorem fa_Draft_share_69 {X : Term} {xs : List Int32} (N : Nat) : (∀ (H : fl_H) (a1 : Int) (a2 : Int), ck (cm_pg X xs) N cm_m21 [.index 69, fl_t a1, fl_t a2] H (fpI sU H)) := by
  induction N using Nat.strongRecOn with
  | ind N IH =>
    have hdE : (∀ (H : fl_H) (a1 : Int) (a2 : Int), ck (cm_pg X xs) N cm_m21 [.index 69, fl_t a1, fl_t a2] H (fpI sU H)) := fun H a1 a2 => ve_Draft_share_69 (have p := fr_refl sU H
      (fun _ => (fun _ => ⟨fun _ => (fun _ => (fun _ => (fun _ => ⟨⟨_, rfl⟩, p⟩))), fun _ => (fun _ => (fun _ => ⟨fun _ => (fun _ => ⟨⟨_, rfl⟩, p⟩), fun _ => (fun _ => ⟨⟨_, rfl⟩, p⟩)⟩)), fun _ => (fun _ => ⟨fun _ => (fun _ => ⟨⟨_, rfl⟩, p⟩), fun _ => (fun _ => (fun _ => ⟨fun _ => (fun _ => ⟨⟨_, rfl⟩, p⟩), fun _ => (fun _ => ⟨⟨_, rfl⟩, p⟩)⟩))⟩), fun _ => (fun _ => ⟨⟨_, rfl⟩, p⟩)⟩)))
    exact hdE

theorem fa_GoodsBook_brings_0 {X : Term} {xs : List Int32} (N : Nat) : (∀ (H : fl_H) (a1 : Int), ck (cm_pg X xs) N cm_m113 [.index 0, fl_t a1] H (fpI sU H)) := by
  induction N using Nat.strongRecOn with
  | ind N IH =>
    have hdE : (∀ (H : fl_H) (a1 : Int), ck (cm_pg X xs) N cm_m113 [.index 0, fl_t a1] H (fpI sU H)) := fun H a1 => ve_GoodsBook_brings_0 (have p := fr_refl sU H
      (fun m hm => ck_mono ((fa_GoodsBook_isGood_0 m) _ _) (fun _ _ ⟨⟨x, hx⟩, w2⟩ => ⟨x, hx, ⟨fun _ => ⟨⟨_, rfl⟩, (fr_trans p w2)⟩, fun _ => (fun _ => ⟨fun _ => ⟨⟨_, rfl⟩, (fr_trans p w2)⟩, fun _ => (fun m hm => ck_mono ((fa_GoodsBook_drawPlan_0 m) _) (fun _ _ ⟨hx, w8⟩ => ⟨hx, (fun m hm => ck_mono ((fa_Draft_share_69 m) _ _ _) (fun _ _ ⟨⟨x, hx⟩, w10⟩ => ⟨x, hx, ⟨⟨_, rfl⟩, (fr_trans (fr_trans (fr_trans p w2) w8) w10)⟩⟩))⟩))⟩)⟩⟩)))
    exact hdE

theorem fa_Draft_brought_69 {X : Term} {xs : List Int32} (N : Nat) : (∀ (H : fl_H) (a2 : Int) (a3 : Int) (a4 : Int), hd_Draft_brought_69_49 (cm_pg X xs) N H a2 a3 a4 (fpI sU H)) ∧ (∀ (H : fl_H) (a1 : Int) (a2 : Int) (a3 : Int), hd_Draft_brought_69_4 (cm_pg X xs) N H a1 a2 a3 (fpI sU H)) ∧ (∀ (H : fl_H) (a1 : Int), ck (cm_pg X xs) N cm_m20 [.index 69, fl_t a1] H (fpI sU H)) := by
  induction N using Nat.strongRecOn with
  | ind N IH =>
    have hdDraft_brought_69_49 : (∀ (H : fl_H) (a2 : Int) (a3 : Int) (a4 : Int), hd_Draft_brought_69_49 (cm_pg X xs) N H a2 a3 a4 (fpI sU H)) := fun H a2 a3 a4 => vh_Draft_brought_69_49 (have p := fr_refl sU H
      ⟨fun _ => ⟨⟨_, rfl⟩, p⟩, fun _ => (fun _ => ⟨fun _ => (fun m hm => (fun lv l0 l1 l2 l3 => vt_mono (Nat.le_refl _) (fun _ _ kk => ⟨kk.1, fr_trans p kk.2⟩) ((IH m hm).1 _ _ _ _ lv l0 l1 l2 l3))), fun _ => (fun m hm => (fun lv l0 l1 l2 l3 => vt_mono (Nat.le_refl _) (fun _ _ kk => ⟨kk.1, fr_trans p kk.2⟩) ((IH m hm).1 _ _ _ _ lv l0 l1 l2 l3)))⟩)⟩)
    have hdDraft_brought_69_4 : (∀ (H : fl_H) (a1 : Int) (a2 : Int) (a3 : Int), hd_Draft_brought_69_4 (cm_pg X xs) N H a1 a2 a3 (fpI sU H)) := fun H a1 a2 a3 => vh_Draft_brought_69_4 (have p := fr_refl sU H
      ⟨fun _ => (fun lv l0 l1 l2 l3 => vt_mono (Nat.le_refl _) (fun _ _ kk => ⟨kk.1, fr_trans p kk.2⟩) (hdDraft_brought_69_49 _ _ _ _ lv l0 l1 l2 l3)), fun _ => (fun _ => ⟨fun _ => (fun m hm => (fun lv l0 l1 l2 l3 => vt_mono (Nat.le_refl _) (fun _ _ kk => ⟨kk.1, fr_trans p kk.2⟩) ((IH m hm).2.1 _ _ _ _ lv l0 l1 l2 l3))), fun _ => (fun m hm => ck_mono ((fa_Draft_share_69 m) _ _ _) (fun _ _ ⟨⟨x, hx⟩, w8⟩ => ⟨x, hx, (fun m hm => (fun lv l0 l1 l2 l3 => vt_mono (Nat.le_refl _) (fun _ _ kk => ⟨kk.1, fr_trans (fr_trans p w8) kk.2⟩) ((IH m hm).2.1 _ _ _ _ lv l0 l1 l2 l3)))⟩))⟩)⟩)
    have hdE : (∀ (H : fl_H) (a1 : Int), ck (cm_pg X xs) N cm_m20 [.index 69, fl_t a1] H (fpI sU H)) := fun H a1 => ve_Draft_brought_69 (have p := fr_refl sU H
      (fun lv l0 l1 l2 l3 => vt_mono (Nat.le_refl _) (fun _ _ kk => ⟨kk.1, fr_trans p kk.2⟩) (hdDraft_brought_69_4 _ _ _ _ lv l0 l1 l2 l3)))
    exact ⟨hdDraft_brought_69_49, hdDraft_brought_69_4, hdE⟩

theorem fa_Draft_gain_69 {X : Term} {xs : List Int32} (N : Nat) : (∀ (H : fl_H) (a1 : Int), ck (cm_pg X xs) N cm_m24 [.index 69, fl_t a1] H (fpI sU H)) := by
  induction N using Nat.strongRecOn with
  | ind N IH =>
    have hdE : (∀ (H : fl_H) (a1 : Int), ck (cm_pg X xs) N cm_m24 [.index 69, fl_t a1] H (fpI sU H)) := fun H a1 => ve_Draft_gain_69 (have p := fr_refl sU H
      (fun _ => (fun _ => (fun _ => (fun _ => ⟨fun _ => ⟨⟨_, rfl⟩, p⟩, fun _ => ⟨fun _ => ⟨⟨_, rfl⟩, p⟩, fun _ => (fun _ => ⟨fun _ => ⟨fun _ => ⟨fun _ => ⟨fun _ => ⟨fun _ => (fun _ => (fun _ => (fun _ => ⟨⟨_, rfl⟩, p⟩))), fun _ => ⟨⟨_, rfl⟩, p⟩⟩, fun _ => ⟨⟨_, rfl⟩, p⟩⟩, fun _ => (fun _ => (fun _ => (fun _ => ⟨⟨_, rfl⟩, p⟩)))⟩, fun _ => ⟨⟨_, rfl⟩, p⟩⟩, fun _ => ⟨fun _ => ⟨fun _ => ⟨fun _ => (fun _ => (fun _ => (fun _ => ⟨⟨_, rfl⟩, p⟩))), fun _ => ⟨⟨_, rfl⟩, p⟩⟩, fun _ => ⟨⟨_, rfl⟩, p⟩⟩, fun _ => (fun _ => (fun _ => (fun _ => ⟨⟨_, rfl⟩, p⟩)))⟩⟩)⟩⟩)))))
    exact hdE

theorem fa_Draft_amount_69 {X : Term} {xs : List Int32} (N : Nat) : (∀ (H : fl_H) (a1 : Int) (a2 : Int), hd_Draft_amount_69_17 (cm_pg X xs) N H a1 a2 (fpI sU H)) ∧ (∀ (H : fl_H), ck (cm_pg X xs) N cm_m19 [.index 69] H (fpI sU H)) := by
  induction N using Nat.strongRecOn with
  | ind N IH =>
    have hdDraft_amount_69_17 : (∀ (H : fl_H) (a1 : Int) (a2 : Int), hd_Draft_amount_69_17 (cm_pg X xs) N H a1 a2 (fpI sU H)) := fun H a1 a2 => vh_Draft_amount_69_17 (have p := fr_refl sU H
      ⟨fun _ => ⟨⟨_, rfl⟩, p⟩, fun _ => (fun m hm => ck_mono ((fa_Draft_gain_69 m) _ _) (fun _ _ ⟨⟨x, hx⟩, w3⟩ => ⟨x, hx, (fun m hm => (fun lv l0 l1 l2 => vt_mono (Nat.le_refl _) (fun _ _ kk => ⟨kk.1, fr_trans (fr_trans p w3) kk.2⟩) ((IH m hm).1 _ _ _ lv l0 l1 l2)))⟩))⟩)
    have hdE : (∀ (H : fl_H), ck (cm_pg X xs) N cm_m19 [.index 69] H (fpI sU H)) := fun H => ve_Draft_amount_69 (have p := fr_refl sU H
      (fun m hm => ck_mono ((fa_Draft_brought_69 m).2.2 _ _) (fun _ _ ⟨⟨x, hx⟩, w2⟩ => ⟨x, hx, (fun lv l0 l1 l2 => vt_mono (Nat.le_refl _) (fun _ _ kk => ⟨kk.1, fr_trans (fr_trans p w2) kk.2⟩) (hdDraft_amount_69_17 _ _ _ lv l0 l1 l2))⟩)))
    exact ⟨hdDraft_amount_69_17, hdE⟩

theorem fa_GoodsBook_worth_0 {X : Term} {xs : List Int32} (N : Nat) : (∀ (H : fl_H), ck (cm_pg X xs) N cm_m114 [.index 0] H (fpI sU H)) := by
  induction N using Nat.strongRecOn with
  | ind N IH =>
    have hdE : (∀ (H : fl_H), ck (cm_pg X xs) N cm_m114 [.index 0] H (fpI sU H)) := fun H => ve_GoodsBook_worth_0 (have p := fr_refl sU H
      (fun m hm => ck_mono ((fa_GoodsBook_drawPlan_0 m) _) (fun _ _ ⟨hx, w2⟩ => ⟨hx, (fun m hm => ck_mono ((fa_Draft_amount_69 m).2 _) (fun _ _ ⟨⟨x, hx⟩, w4⟩ => ⟨x, hx, ⟨⟨_, rfl⟩, (fr_trans (fr_trans p w2) w4)⟩⟩))⟩)))
    exact hdE

theorem fa_Draft_keeps_69 {X : Term} {xs : List Int32} (N : Nat) : (∀ (H : fl_H) (a1 : Int), ck (cm_pg X xs) N cm_m25 [.index 69, fl_t a1] H (fpI sU H)) := by
  induction N using Nat.strongRecOn with
  | ind N IH =>
    have hdE : (∀ (H : fl_H) (a1 : Int), ck (cm_pg X xs) N cm_m25 [.index 69, fl_t a1] H (fpI sU H)) := fun H a1 => ve_Draft_keeps_69 (have p := fr_refl sU H
      (fun _ => (fun _ => (fun _ => (fun _ => (fun _ => ⟨fun _ => ⟨⟨_, rfl⟩, p⟩, fun _ => ⟨fun _ => ⟨fun _ => ⟨⟨_, rfl⟩, p⟩, fun _ => ⟨⟨_, rfl⟩, p⟩⟩, fun _ => ⟨fun _ => ⟨fun _ => ⟨⟨_, rfl⟩, p⟩, fun _ => ⟨⟨_, rfl⟩, p⟩⟩, fun _ => ⟨fun _ => ⟨fun _ => ⟨⟨_, rfl⟩, p⟩, fun _ => ⟨⟨_, rfl⟩, p⟩⟩, fun _ => ⟨⟨_, rfl⟩, p⟩⟩⟩⟩⟩))))))
    exact hdE

theorem fa_Draft_firstBroken_69 {X : Term} {xs : List Int32} (N : Nat) : (∀ (H : fl_H) (a1 : Int), hd_Draft_firstBroken_69_2 (cm_pg X xs) N H a1 (fpI sU H)) ∧ (∀ (H : fl_H), ck (cm_pg X xs) N cm_m27 [.index 69] H (fpI sU H)) := by
  induction N using Nat.strongRecOn with
  | ind N IH =>
    have hdDraft_firstBroken_69_2 : (∀ (H : fl_H) (a1 : Int), hd_Draft_firstBroken_69_2 (cm_pg X xs) N H a1 (fpI sU H)) := fun H a1 => vh_Draft_firstBroken_69_2 (have p := fr_refl sU H
      ⟨fun _ => ⟨⟨_, rfl⟩, p⟩, fun _ => (fun m hm => ck_mono ((fa_Draft_keeps_69 m) _ _) (fun _ _ ⟨⟨x, hx⟩, w3⟩ => ⟨x, hx, ⟨fun _ => ⟨⟨_, rfl⟩, (fr_trans p w3)⟩, fun _ => (fun m hm => (fun lv l0 l1 => vt_mono (Nat.le_refl _) (fun _ _ kk => ⟨kk.1, fr_trans (fr_trans p w3) kk.2⟩) ((IH m hm).1 _ _ lv l0 l1)))⟩⟩))⟩)
    have hdE : (∀ (H : fl_H), ck (cm_pg X xs) N cm_m27 [.index 69] H (fpI sU H)) := fun H => ve_Draft_firstBroken_69 (have p := fr_refl sU H
      (fun lv l0 l1 => vt_mono (Nat.le_refl _) (fun _ _ kk => ⟨kk.1, fr_trans p kk.2⟩) (hdDraft_firstBroken_69_2 _ _ lv l0 l1)))
    exact ⟨hdDraft_firstBroken_69_2, hdE⟩

theorem fa_Floor_pick_64 {X : Term} {xs : List Int32} (N : Nat) : (∀ (H : fl_H) (a2 : Int) (a3 : Int) (a4 : Int), hd_Floor_pick_64_7 (cm_pg X xs) N H a2 a3 a4 (fpI sU H)) ∧ (∀ (H : fl_H) (a1 : Int), ck (cm_pg X xs) N cm_m39 [.index 64, fl_t a1] H (fpI sU H)) := by
  induction N using Nat.strongRecOn with
  | ind N IH =>
    have hdFloor_pick_64_7 : (∀ (H : fl_H) (a2 : Int) (a3 : Int) (a4 : Int), hd_Floor_pick_64_7 (cm_pg X xs) N H a2 a3 a4 (fpI sU H)) := fun H a2 a3 a4 => vh_Floor_pick_64_7 (have p := fr_refl sU H
      ⟨fun _ => ⟨⟨_, rfl⟩, p⟩, fun _ => ⟨fun _ => (fun m hm => (fun lv l0 l1 l2 l3 => vt_mono (Nat.le_refl _) (fun _ _ kk => ⟨kk.1, fr_trans p kk.2⟩) ((IH m hm).1 _ _ _ _ lv l0 l1 l2 l3))), fun _ => (fun _ H6 e7 => (fun m hm => (fun lv l0 l1 l2 l3 => vt_mono (Nat.le_refl _) (fun _ _ kk => ⟨kk.1, fr_trans (fr_up p (by intros; rfl) e7) kk.2⟩) ((IH m hm).1 _ _ _ _ lv l0 l1 l2 l3))))⟩⟩)
    have hdE : (∀ (H : fl_H) (a1 : Int), ck (cm_pg X xs) N cm_m39 [.index 64, fl_t a1] H (fpI sU H)) := fun H a1 => ve_Floor_pick_64 (have p := fr_refl sU H
      (fun lv l0 l1 l2 l3 => vt_mono (Nat.le_refl _) (fun _ _ kk => ⟨kk.1, fr_trans p kk.2⟩) (hdFloor_pick_64_7 _ _ _ _ lv l0 l1 l2 l3)))
    exact ⟨hdFloor_pick_64_7, hdE⟩

theorem fa_Floor_larger_64 {X : Term} {xs : List Int32} (N : Nat) : (∀ (H : fl_H) (a1 : Int) (a2 : Int) (a3 : Int), hd_Floor_larger_64_4 (cm_pg X xs) N H a1 a2 a3 (fpI sU H)) ∧ (∀ (H : fl_H) (a1 : Int), ck (cm_pg X xs) N cm_m40 [.index 64, fl_t a1] H (fpI sU H)) := by
  induction N using Nat.strongRecOn with
  | ind N IH =>
    have hdFloor_larger_64_4 : (∀ (H : fl_H) (a1 : Int) (a2 : Int) (a3 : Int), hd_Floor_larger_64_4 (cm_pg X xs) N H a1 a2 a3 (fpI sU H)) := fun H a1 a2 a3 => vh_Floor_larger_64_4 (have p := fr_refl sU H
      ⟨fun _ => ⟨⟨_, rfl⟩, p⟩, fun _ => ⟨fun _ => (fun m hm => (fun lv l0 l1 l2 l3 => vt_mono (Nat.le_refl _) (fun _ _ kk => ⟨kk.1, fr_trans p kk.2⟩) ((IH m hm).1 _ _ _ _ lv l0 l1 l2 l3))), fun _ => (fun _ => (fun _ => ⟨fun _ => (fun m hm => (fun lv l0 l1 l2 l3 => vt_mono (Nat.le_refl _) (fun _ _ kk => ⟨kk.1, fr_trans p kk.2⟩) ((IH m hm).1 _ _ _ _ lv l0 l1 l2 l3))), fun _ => (fun m hm => (fun lv l0 l1 l2 l3 => vt_mono (Nat.le_refl _) (fun _ _ kk => ⟨kk.1, fr_trans p kk.2⟩) ((IH m hm).1 _ _ _ _ lv l0 l1 l2 l3)))⟩))⟩⟩)
    have hdE : (∀ (H : fl_H) (a1 : Int), ck (cm_pg X xs) N cm_m40 [.index 64, fl_t a1] H (fpI sU H)) := fun H a1 => ve_Floor_larger_64 (have p := fr_refl sU H
      (fun lv l0 l1 l2 l3 => vt_mono (Nat.le_refl _) (fun _ _ kk => ⟨kk.1, fr_trans p kk.2⟩) (hdFloor_larger_64_4 _ _ _ _ lv l0 l1 l2 l3)))
    exact ⟨hdFloor_larger_64_4, hdE⟩

theorem fa_Floor_areaOf_64 {X : Term} {xs : List Int32} (N : Nat) : (∀ (H : fl_H) (a1 : Int) (a2 : Int) (a3 : Int), hd_Floor_areaOf_64_4 (cm_pg X xs) N H a1 a2 a3 (fpI sU H)) ∧ (∀ (H : fl_H) (a1 : Int), ck (cm_pg X xs) N cm_m41 [.index 64, fl_t a1] H (fpI sU H)) := by
  induction N using Nat.strongRecOn with
  | ind N IH =>
    have hdFloor_areaOf_64_4 : (∀ (H : fl_H) (a1 : Int) (a2 : Int) (a3 : Int), hd_Floor_areaOf_64_4 (cm_pg X xs) N H a1 a2 a3 (fpI sU H)) := fun H a1 a2 a3 => vh_Floor_areaOf_64_4 (have p := fr_refl sU H
      ⟨fun _ => ⟨⟨_, rfl⟩, p⟩, fun _ => ⟨fun _ => (fun m hm => (fun lv l0 l1 l2 l3 => vt_mono (Nat.le_refl _) (fun _ _ kk => ⟨kk.1, fr_trans p kk.2⟩) ((IH m hm).1 _ _ _ _ lv l0 l1 l2 l3))), fun _ => (fun _ => (fun _ => (fun m hm => (fun lv l0 l1 l2 l3 => vt_mono (Nat.le_refl _) (fun _ _ kk => ⟨kk.1, fr_trans p kk.2⟩) ((IH m hm).1 _ _ _ _ lv l0 l1 l2 l3)))))⟩⟩)
    have hdE : (∀ (H : fl_H) (a1 : Int), ck (cm_pg X xs) N cm_m41 [.index 64, fl_t a1] H (fpI sU H)) := fun H a1 => ve_Floor_areaOf_64 (have p := fr_refl sU H
      (fun lv l0 l1 l2 l3 => vt_mono (Nat.le_refl _) (fun _ _ kk => ⟨kk.1, fr_trans p kk.2⟩) (hdFloor_areaOf_64_4 _ _ _ _ lv l0 l1 l2 l3)))
    exact ⟨hdFloor_areaOf_64_4, hdE⟩

theorem fa_Floor_canLie_64 {X : Term} {xs : List Int32} (N : Nat) : (∀ (H : fl_H) (a1 : Int) (a2 : Int) (a4 : Int) (a5 : Int) (a6 : Int), hd_Floor_canLie_64_43 (cm_pg X xs) N H a1 a2 a4 a5 a6 (fpI sU H)) ∧ (∀ (H : fl_H) (a1 : Int) (a2 : Int) (a4 : Int) (a5 : Int), hd_Floor_canLie_64_9 (cm_pg X xs) N H a1 a2 a4 a5 (fpI sU H)) ∧ (∀ (H : fl_H) (a1 : Int) (a2 : Int) (a3 : Int) (a4 : Int), ck (cm_pg X xs) N cm_m38 [.index 64, fl_t a1, fl_t a2, fl_t a3, fl_t a4] H (fpI sU H)) := by
  induction N using Nat.strongRecOn with
  | ind N IH =>
    have hdFloor_canLie_64_43 : (∀ (H : fl_H) (a1 : Int) (a2 : Int) (a4 : Int) (a5 : Int) (a6 : Int), hd_Floor_canLie_64_43 (cm_pg X xs) N H a1 a2 a4 a5 a6 (fpI sU H)) := fun H a1 a2 a4 a5 a6 => vh_Floor_canLie_64_43 (have p := fr_refl sU H
      ⟨fun _ => ⟨fun _ => ⟨⟨_, rfl⟩, p⟩, fun _ => (fun m hm => ck_mono ((IH m hm).2.2 _ _ _ _ _) (fun _ _ ⟨⟨x, hx⟩, w4⟩ => ⟨x, hx, ⟨fun _ => ⟨⟨_, rfl⟩, (fr_trans p w4)⟩, fun _ => ⟨⟨_, rfl⟩, (fr_trans p w4)⟩⟩⟩))⟩, fun _ => ⟨fun _ => (fun m hm => (fun lv l0 l1 l2 l3 l4 l5 => vt_mono (Nat.le_refl _) (fun _ _ kk => ⟨kk.1, fr_trans p kk.2⟩) ((IH m hm).1 _ _ _ _ _ _ lv l0 l1 l2 l3 l4 l5))), fun _ => (fun _ => (fun _ => ⟨fun _ => (fun m hm => (fun lv l0 l1 l2 l3 l4 l5 => vt_mono (Nat.le_refl _) (fun _ _ kk => ⟨kk.1, fr_trans p kk.2⟩) ((IH m hm).1 _ _ _ _ _ _ lv l0 l1 l2 l3 l4 l5))), fun _ => ⟨fun _ => (fun m hm => ck_mono ((IH m hm).2.2 _ _ _ _ _) (fun _ _ ⟨⟨x, hx⟩, w16⟩ => ⟨x, hx, ⟨fun _ => (fun m hm => (fun lv l0 l1 l2 l3 l4 l5 => vt_mono (Nat.le_refl _) (fun _ _ kk => ⟨kk.1, fr_trans (fr_trans p w16) kk.2⟩) ((IH m hm).1 _ _ _ _ _ _ lv l0 l1 l2 l3 l4 l5))), fun _ => ⟨⟨_, rfl⟩, (fr_trans p w16)⟩⟩⟩)), fun _ => (fun m hm => (fun lv l0 l1 l2 l3 l4 l5 => vt_mono (Nat.le_refl _) (fun _ _ kk => ⟨kk.1, fr_trans p kk.2⟩) ((IH m hm).1 _ _ _ _ _ _ lv l0 l1 l2 l3 l4 l5)))⟩⟩))⟩⟩)
    have hdFloor_canLie_64_9 : (∀ (H : fl_H) (a1 : Int) (a2 : Int) (a4 : Int) (a5 : Int), hd_Floor_canLie_64_9 (cm_pg X xs) N H a1 a2 a4 a5 (fpI sU H)) := fun H a1 a2 a4 a5 => vh_Floor_canLie_64_9 (have p := fr_refl sU H
      ⟨fun _ => ⟨fun _ => (fun lv l0 l1 l2 l3 l4 l5 => vt_mono (Nat.le_refl _) (fun _ _ kk => ⟨kk.1, fr_trans p kk.2⟩) (hdFloor_canLie_64_43 _ _ _ _ _ _ lv l0 l1 l2 l3 l4 l5)), fun _ => ⟨⟨_, rfl⟩, p⟩⟩, fun _ => ⟨fun _ => ⟨fun _ => (fun lv l0 l1 l2 l3 l4 l5 => vt_mono (Nat.le_refl _) (fun _ _ kk => ⟨kk.1, fr_trans p kk.2⟩) (hdFloor_canLie_64_43 _ _ _ _ _ _ lv l0 l1 l2 l3 l4 l5)), fun _ => ⟨⟨_, rfl⟩, p⟩⟩, fun _ => (fun m hm => (fun lv l0 l1 l2 l3 l4 => vt_mono (Nat.le_refl _) (fun _ _ kk => ⟨kk.1, fr_trans p kk.2⟩) ((IH m hm).2.1 _ _ _ _ _ lv l0 l1 l2 l3 l4)))⟩⟩)
    have hdE : (∀ (H : fl_H) (a1 : Int) (a2 : Int) (a3 : Int) (a4 : Int), ck (cm_pg X xs) N cm_m38 [.index 64, fl_t a1, fl_t a2, fl_t a3, fl_t a4] H (fpI sU H)) := fun H a1 a2 a3 a4 => ve_Floor_canLie_64 (have p := fr_refl sU H
      ⟨fun _ => ⟨⟨_, rfl⟩, p⟩, fun _ => (fun lv l0 l1 l2 l3 l4 => vt_mono (Nat.le_refl _) (fun _ _ kk => ⟨kk.1, fr_trans p kk.2⟩) (hdFloor_canLie_64_9 _ _ _ _ _ lv l0 l1 l2 l3 l4))⟩)
    exact ⟨hdFloor_canLie_64_43, hdFloor_canLie_64_9, hdE⟩

theorem fa_Floor_lies_64 {X : Term} {xs : List Int32} (N : Nat) : (∀ (H : fl_H) (a1 : Int), ck (cm_pg X xs) N cm_m35 [.index 64, fl_t a1] H (fpI sU H)) := by
  induction N using Nat.strongRecOn with
  | ind N IH =>
    have hdE : (∀ (H : fl_H) (a1 : Int), ck (cm_pg X xs) N cm_m35 [.index 64, fl_t a1] H (fpI sU H)) := fun H a1 => ve_Floor_lies_64 (have p := fr_refl sU H
      (fun _ => ⟨fun _ => (fun m hm => ck_mono ((fa_Floor_pick_64 m).2 _ _) (fun _ _ ⟨⟨x, hx⟩, w4⟩ => ⟨x, hx, (fun m hm => ck_mono ((fa_Floor_larger_64 m).2 _ _) (fun _ _ ⟨⟨x, hx⟩, w7⟩ => ⟨x, hx, (fun m hm => ck_mono ((fa_Floor_areaOf_64 m).2 _ _) (fun _ _ ⟨⟨x, hx⟩, w10⟩ => ⟨x, hx, ⟨fun _ => (fun _ H14 e15 => (fun _ => ⟨fun _ => ⟨⟨_, rfl⟩, (fr_up (fr_trans (fr_trans (fr_trans p w4) w7) w10) (by intros; rfl) e15)⟩, fun _ => ⟨⟨_, rfl⟩, (fr_up (fr_trans (fr_trans (fr_trans p w4) w7) w10) (by intros; rfl) e15)⟩⟩)), fun _ => (fun m hm => ck_mono ((fa_Floor_areaOf_64 m).2 _ _) (fun _ _ ⟨⟨x, hx⟩, w20⟩ => ⟨x, hx, (fun m hm => ck_mono ((fa_Floor_canLie_64 m).2.2 _ _ _ _ _) (fun _ _ ⟨⟨x, hx⟩, w23⟩ => ⟨x, hx, ⟨fun _ => (fun _ H27 e28 => (fun _ => ⟨fun _ => ⟨⟨_, rfl⟩, (fr_up (fr_trans (fr_trans (fr_trans (fr_trans (fr_trans p w4) w7) w10) w20) w23) (by intros; rfl) e28)⟩, fun _ => ⟨⟨_, rfl⟩, (fr_up (fr_trans (fr_trans (fr_trans (fr_trans (fr_trans p w4) w7) w10) w20) w23) (by intros; rfl) e28)⟩⟩)), fun _ => (fun _ H33 e34 => (fun _ => ⟨fun _ => ⟨⟨_, rfl⟩, (fr_up (fr_trans (fr_trans (fr_trans (fr_trans (fr_trans p w4) w7) w10) w20) w23) (by intros; rfl) e34)⟩, fun _ => ⟨⟨_, rfl⟩, (fr_up (fr_trans (fr_trans (fr_trans (fr_trans (fr_trans p w4) w7) w10) w20) w23) (by intros; rfl) e34)⟩⟩))⟩⟩))⟩))⟩⟩))⟩))⟩)), fun _ => (fun _ => ⟨fun _ => ⟨⟨_, rfl⟩, p⟩, fun _ => ⟨⟨_, rfl⟩, p⟩⟩)⟩))
    exact hdE

theorem fa_Draft_firstCrowded_69 {X : Term} {xs : List Int32} (N : Nat) : (∀ (H : fl_H) (a1 : Int), hd_Draft_firstCrowded_69_2 (cm_pg X xs) N H a1 (fpI sU H)) ∧ (∀ (H : fl_H), ck (cm_pg X xs) N cm_m28 [.index 69] H (fpI sU H)) := by
  induction N using Nat.strongRecOn with
  | ind N IH =>
    have hdDraft_firstCrowded_69_2 : (∀ (H : fl_H) (a1 : Int), hd_Draft_firstCrowded_69_2 (cm_pg X xs) N H a1 (fpI sU H)) := fun H a1 => vh_Draft_firstCrowded_69_2 (have p := fr_refl sU H
      ⟨fun _ => ⟨⟨_, rfl⟩, p⟩, fun _ => (fun _ => (fun m hm => ck_mono ((fa_Floor_lies_64 m) _ _) (fun _ _ ⟨⟨x, hx⟩, w4⟩ => ⟨x, hx, ⟨fun _ => ⟨⟨_, rfl⟩, (fr_trans p w4)⟩, fun _ => (fun m hm => (fun lv l0 l1 => vt_mono (Nat.le_refl _) (fun _ _ kk => ⟨kk.1, fr_trans (fr_trans p w4) kk.2⟩) ((IH m hm).1 _ _ lv l0 l1)))⟩⟩)))⟩)
    have hdE : (∀ (H : fl_H), ck (cm_pg X xs) N cm_m28 [.index 69] H (fpI sU H)) := fun H => ve_Draft_firstCrowded_69 (have p := fr_refl sU H
      (fun lv l0 l1 => vt_mono (Nat.le_refl _) (fun _ _ kk => ⟨kk.1, fr_trans p kk.2⟩) (hdDraft_firstCrowded_69_2 _ _ lv l0 l1)))
    exact ⟨hdDraft_firstCrowded_69_2, hdE⟩

theorem fa_GoodsBook_breaks_0 {X : Term} {xs : List Int32} (N : Nat) : (∀ (H : fl_H) (a1 : Int), ck (cm_pg X xs) N cm_m115 [.index 0, fl_t a1] H (fpI sU H)) := by
  induction N using Nat.strongRecOn with
  | ind N IH =>
    have hdE : (∀ (H : fl_H) (a1 : Int), ck (cm_pg X xs) N cm_m115 [.index 0, fl_t a1] H (fpI sU H)) := fun H a1 => ve_GoodsBook_breaks_0 (have p := fr_refl sU H
      ⟨fun _ => (fun m hm => ck_mono ((fa_GoodsBook_drawPlan_0 m) _) (fun _ _ ⟨hx, w3⟩ => ⟨hx, ⟨fun _ => (fun m hm => ck_mono ((fa_Draft_firstBroken_69 m).2 _) (fun _ _ ⟨⟨x, hx⟩, w6⟩ => ⟨x, hx, ⟨⟨_, rfl⟩, (fr_trans (fr_trans p w3) w6)⟩⟩)), fun _ => (fun m hm => ck_mono ((fa_Draft_firstCrowded_69 m).2 _) (fun _ _ ⟨⟨x, hx⟩, w9⟩ => ⟨x, hx, ⟨⟨_, rfl⟩, (fr_trans (fr_trans p w3) w9)⟩⟩))⟩⟩)), fun _ => ⟨⟨_, rfl⟩, p⟩⟩)
    exact hdE

theorem fa_Integer_bitCount {X : Term} {xs : List Int32} (N : Nat) : (∀ (H : fl_H) (a0 : Int), ck (cm_pg X xs) N cm_m242 [fl_t a0] H (fpI sU H)) := by
  induction N using Nat.strongRecOn with
  | ind N IH =>
    have hdE : (∀ (H : fl_H) (a0 : Int), ck (cm_pg X xs) N cm_m242 [fl_t a0] H (fpI sU H)) := fun H a0 => ve_Integer_bitCount (have p := fr_refl sU H
      ⟨⟨_, rfl⟩, p⟩)
    exact hdE

theorem fa_Floor_firstSquare_64 {X : Term} {xs : List Int32} (N : Nat) : (∀ (H : fl_H) (a1 : Int) (a2 : Int) (a3 : Int) (a4 : Int), hd_Floor_firstSquare_64_3 (cm_pg X xs) N H a1 a2 a3 a4 (fpI sU H)) ∧ (∀ (H : fl_H) (a1 : Int) (a2 : Int) (a3 : Int), ck (cm_pg X xs) N cm_m37 [.index 64, fl_t a1, fl_t a2, fl_t a3] H (fpI sU H)) := by
  induction N using Nat.strongRecOn with
  | ind N IH =>
    have hdFloor_firstSquare_64_3 : (∀ (H : fl_H) (a1 : Int) (a2 : Int) (a3 : Int) (a4 : Int), hd_Floor_firstSquare_64_3 (cm_pg X xs) N H a1 a2 a3 a4 (fpI sU H)) := fun H a1 a2 a3 a4 => vh_Floor_firstSquare_64_3 (have p := fr_refl sU H
      ⟨fun _ => ⟨⟨_, rfl⟩, p⟩, fun _ => (fun _ => (fun _ => ⟨fun _ => (fun m hm => (fun lv l0 l1 l2 l3 l4 => vt_mono (Nat.le_refl _) (fun _ _ kk => ⟨kk.1, fr_trans p kk.2⟩) ((IH m hm).1 _ _ _ _ _ lv l0 l1 l2 l3 l4))), fun _ => ⟨fun _ => (fun m hm => ck_mono ((fa_Integer_bitCount m) _ _) (fun _ _ ⟨⟨x, hx⟩, w9⟩ => ⟨x, hx, (fun m hm => ck_mono ((fa_Floor_areaOf_64 m).2 _ _) (fun _ _ ⟨⟨x, hx⟩, w12⟩ => ⟨x, hx, (fun m hm => ck_mono ((fa_Floor_canLie_64 m).2.2 _ _ _ _ _) (fun _ _ ⟨⟨x, hx⟩, w16⟩ => ⟨x, hx, ⟨fun _ => (fun m hm => (fun lv l0 l1 l2 l3 l4 => vt_mono (Nat.le_refl _) (fun _ _ kk => ⟨kk.1, fr_trans (fr_trans (fr_trans (fr_trans p w9) w12) w16) kk.2⟩) ((IH m hm).1 _ _ _ _ _ lv l0 l1 l2 l3 l4))), fun _ => ⟨⟨_, rfl⟩, (fr_trans (fr_trans (fr_trans p w9) w12) w16)⟩⟩⟩))⟩))⟩)), fun _ => (fun m hm => (fun lv l0 l1 l2 l3 l4 => vt_mono (Nat.le_refl _) (fun _ _ kk => ⟨kk.1, fr_trans p kk.2⟩) ((IH m hm).1 _ _ _ _ _ lv l0 l1 l2 l3 l4)))⟩⟩))⟩)
    have hdE : (∀ (H : fl_H) (a1 : Int) (a2 : Int) (a3 : Int), ck (cm_pg X xs) N cm_m37 [.index 64, fl_t a1, fl_t a2, fl_t a3] H (fpI sU H)) := fun H a1 a2 a3 => ve_Floor_firstSquare_64 (have p := fr_refl sU H
      (fun lv l0 l1 l2 l3 l4 => vt_mono (Nat.le_refl _) (fun _ _ kk => ⟨kk.1, fr_trans p kk.2⟩) (hdFloor_firstSquare_64_3 _ _ _ _ _ lv l0 l1 l2 l3 l4)))
    exact ⟨hdFloor_firstSquare_64_3, hdE⟩

theorem fa_Floor_lay_64_87 {X : Term} {xs : List Int32} (N : Nat) : (∀ (H : fl_H) (a3 : Int) (a4 : Int) (a5 : Int), hd_Floor_lay_64_87_22 (cm_pg X xs) N H a3 a4 a5 (fpI sU H)) ∧ (∀ (H : fl_H) (a1 : Int), ck (cm_pg X xs) N cm_m36 [.index 64, fl_t a1, .index 87] H (fpI sU H)) := by
  induction N using Nat.strongRecOn with
  | ind N IH =>
    have hdFloor_lay_64_87_22 : (∀ (H : fl_H) (a3 : Int) (a4 : Int) (a5 : Int), hd_Floor_lay_64_87_22 (cm_pg X xs) N H a3 a4 a5 (fpI sU H)) := fun H a3 a4 a5 => vh_Floor_lay_64_87_22 (have p := fr_refl sU H
      ⟨fun _ => ⟨⟨_, rfl⟩, p⟩, fun _ => ⟨fun _ => (fun m hm => (fun lv l0 l1 l2 l3 l4 => vt_mono (Nat.le_refl _) (fun _ _ kk => ⟨kk.1, fr_trans p kk.2⟩) ((IH m hm).1 _ _ _ _ lv l0 l1 l2 l3 l4))), fun _ => (fun m hm => ck_mono ((fa_Floor_larger_64 m).2 _ _) (fun _ _ ⟨⟨x, hx⟩, w6⟩ => ⟨x, hx, (fun m hm => ck_mono ((fa_Floor_firstSquare_64 m).2 _ _ _ _) (fun _ _ ⟨⟨x, hx⟩, w9⟩ => ⟨x, hx, (fun _ H11 e12 => (fun _ => (fun _ => (fun _ => (fun m hm => (fun lv l0 l1 l2 l3 l4 => vt_mono (Nat.le_refl _) (fun _ _ kk => ⟨kk.1, fr_trans (fr_up (fr_trans (fr_trans p w6) w9) (by intros; rfl) e12) kk.2⟩) ((IH m hm).1 _ _ _ _ lv l0 l1 l2 l3 l4)))))))⟩))⟩))⟩⟩)
    have hdE : (∀ (H : fl_H) (a1 : Int), ck (cm_pg X xs) N cm_m36 [.index 64, fl_t a1, .index 87] H (fpI sU H)) := fun H a1 => ve_Floor_lay_64_87 (have p := fr_refl sU H
      (fun m hm => ck_mono ((fa_Floor_lies_64 m) _ _) (fun _ _ ⟨⟨x, hx⟩, w2⟩ => ⟨x, hx, ⟨fun _ => ⟨⟨_, rfl⟩, (fr_trans p w2)⟩, fun _ => (fun m hm => ck_mono ((fa_Floor_pick_64 m).2 _ _) (fun _ _ ⟨⟨x, hx⟩, w6⟩ => ⟨x, hx, (fun lv l0 l1 l2 l3 l4 => vt_mono (Nat.le_refl _) (fun _ _ kk => ⟨kk.1, fr_trans (fr_trans (fr_trans p w2) w6) kk.2⟩) (hdFloor_lay_64_87_22 _ _ _ _ lv l0 l1 l2 l3 l4))⟩))⟩⟩)))
    exact ⟨hdFloor_lay_64_87_22, hdE⟩

theorem fa_GoodsBook_square_0 {X : Term} {xs : List Int32} (N : Nat) : (∀ (H : fl_H) (a1 : Int), ck (cm_pg X xs) N cm_m116 [.index 0, fl_t a1] H (fpI sU H)) := by
  induction N using Nat.strongRecOn with
  | ind N IH =>
    have hdE : (∀ (H : fl_H) (a1 : Int), ck (cm_pg X xs) N cm_m116 [.index 0, fl_t a1] H (fpI sU H)) := fun H a1 => ve_GoodsBook_square_0 (have p := fr_refl sU H
      (fun m hm => ck_mono ((fa_GoodsBook_isGood_0 m) _ _) (fun _ _ ⟨⟨x, hx⟩, w2⟩ => ⟨x, hx, ⟨fun _ => ⟨⟨_, rfl⟩, (fr_trans p w2)⟩, fun _ => (fun _ => ⟨fun _ => ⟨⟨_, rfl⟩, (fr_trans p w2)⟩, fun _ => (fun m hm => ck_mono ((fa_GoodsBook_drawPlan_0 m) _) (fun _ _ ⟨hx, w8⟩ => ⟨hx, (fun m hm => ck_mono ((fa_GoodsBook_pageOf m) _ _) (fun _ _ ⟨⟨x, hx⟩, w10⟩ => ⟨x, hx, (fun _ => (fun m hm => ck_mono ((fa_Floor_lay_64_87 m).2 _ _) (fun _ _ ⟨⟨x, hx⟩, w14⟩ => ⟨x, hx, ⟨fun _ => ⟨⟨_, rfl⟩, (fr_trans (fr_trans (fr_trans (fr_trans p w2) w8) w10) w14)⟩, fun _ => (fun _ => ⟨⟨_, rfl⟩, (fr_trans (fr_trans (fr_trans (fr_trans p w2) w8) w10) w14)⟩)⟩⟩)))⟩))⟩))⟩)⟩⟩)))
    exact hdE

theorem fa_GoodsBook_isPage_0 {X : Term} {xs : List Int32} (N : Nat) : (∀ (H : fl_H) (a1 : Int), ck (cm_pg X xs) N cm_m138 [.index 0, fl_t a1] H (fpI sU H)) := by
  induction N using Nat.strongRecOn with
  | ind N IH =>
    have hdE : (∀ (H : fl_H) (a1 : Int), ck (cm_pg X xs) N cm_m138 [.index 0, fl_t a1] H (fpI sU H)) := fun H a1 => ve_GoodsBook_isPage_0 (have p := fr_refl sU H
      ⟨⟨_, rfl⟩, p⟩)
    exact hdE

theorem fa_Sheets_isNamed {X : Term} {xs : List Int32} (N : Nat) : (∀ (H : fl_H) (a0 : Int) (a1 : Int), ck (cm_pg X xs) N cm_m73 [fl_t a0, fl_t a1] H (fpI sU H)) := by
  induction N using Nat.strongRecOn with
  | ind N IH =>
    have hdE : (∀ (H : fl_H) (a0 : Int) (a1 : Int), ck (cm_pg X xs) N cm_m73 [fl_t a0, fl_t a1] H (fpI sU H)) := fun H a0 a1 => ve_Sheets_isNamed (have p := fr_refl sU H
      ⟨fun _ => ⟨fun _ => ⟨⟨_, rfl⟩, p⟩, fun _ => ⟨⟨_, rfl⟩, p⟩⟩, fun _ => ⟨⟨_, rfl⟩, p⟩⟩)
    exact hdE

theorem fa_Sheets_refusal_60 {X : Term} {xs : List Int32} (N : Nat) : (∀ (H : fl_H) (a1 : Int) (a2 : Int) (a3 : Int) (a4 : Int), ck (cm_pg X xs) N cm_m70 [.index 60, fl_t a1, fl_t a2, fl_t a3, fl_t a4] H (fpI sU H)) := by
  induction N using Nat.strongRecOn with
  | ind N IH =>
    have hdE : (∀ (H : fl_H) (a1 : Int) (a2 : Int) (a3 : Int) (a4 : Int), ck (cm_pg X xs) N cm_m70 [.index 60, fl_t a1, fl_t a2, fl_t a3, fl_t a4] H (fpI sU H)) := fun H a1 a2 a3 a4 => ve_Sheets_refusal_60 (have p := fr_refl sU H
      (fun m hm => ck_mono ((fa_Sheets_isNamed m) _ _ _) (fun _ _ ⟨⟨x, hx⟩, w2⟩ => ⟨x, hx, ⟨fun _ => ⟨⟨_, rfl⟩, (fr_trans p w2)⟩, fun _ => (fun _ => ⟨fun _ => ⟨⟨_, rfl⟩, (fr_trans p w2)⟩, fun _ => (fun _ => ⟨fun _ => ⟨fun _ => ⟨⟨_, rfl⟩, (fr_trans p w2)⟩, fun _ => (fun _ => ⟨fun _ => ⟨⟨_, rfl⟩, (fr_trans p w2)⟩, fun _ => ⟨⟨_, rfl⟩, (fr_trans p w2)⟩⟩)⟩, fun _ => ⟨⟨_, rfl⟩, (fr_trans p w2)⟩⟩)⟩)⟩⟩)))
    exact hdE

theorem fa_Sheets_value_60 {X : Term} {xs : List Int32} (N : Nat) : (∀ (H : fl_H) (a1 : Int) (a2 : Int), ck (cm_pg X xs) N cm_m71 [.index 60, fl_t a1, fl_t a2] H (fpI sU H)) := by
  induction N using Nat.strongRecOn with
  | ind N IH =>
    have hdE : (∀ (H : fl_H) (a1 : Int) (a2 : Int), ck (cm_pg X xs) N cm_m71 [.index 60, fl_t a1, fl_t a2] H (fpI sU H)) := fun H a1 a2 => ve_Sheets_value_60 (have p := fr_refl sU H
      (fun _ => ⟨⟨_, rfl⟩, p⟩))
    exact hdE

theorem fa_Floor_spot_64 {X : Term} {xs : List Int32} (N : Nat) : (∀ (H : fl_H) (a1 : Int) (a2 : Int), ck (cm_pg X xs) N cm_m34 [.index 64, fl_t a1, fl_t a2] H (fpI sU H)) := by
  induction N using Nat.strongRecOn with
  | ind N IH =>
    have hdE : (∀ (H : fl_H) (a1 : Int) (a2 : Int), ck (cm_pg X xs) N cm_m34 [.index 64, fl_t a1, fl_t a2] H (fpI sU H)) := fun H a1 a2 => ve_Floor_spot_64 (have p := fr_refl sU H
      ⟨fun _ => (fun _ => ⟨⟨_, rfl⟩, p⟩), fun _ => ⟨⟨_, rfl⟩, p⟩⟩)
    exact hdE

theorem fa_GoodsBook_judge_0 {X : Term} {xs : List Int32} (N : Nat) : (∀ (H : fl_H) (a1 : Int) (a2 : Int) (a6 : Int) (a7 : Int) (a8 : Int), hd_GoodsBook_judge_0_54 (cm_pg X xs) N H a1 a2 a6 a7 a8 (fpI sU H)) ∧ (∀ (H : fl_H) (a1 : Int) (a2 : Int) (a3 : Int) (a4 : Int), ck (cm_pg X xs) N cm_m117 [.index 0, fl_t a1, fl_t a2, fl_t a3, fl_t a4] H (fpI sU H)) := by
  induction N using Nat.strongRecOn with
  | ind N IH =>
    have hdGoodsBook_judge_0_54 : (∀ (H : fl_H) (a1 : Int) (a2 : Int) (a6 : Int) (a7 : Int) (a8 : Int), hd_GoodsBook_judge_0_54 (cm_pg X xs) N H a1 a2 a6 a7 a8 (fpI sU H)) := fun H a1 a2 a6 a7 a8 => vh_GoodsBook_judge_0_54 (have p := fr_refl sU H
      ⟨fun _ => ⟨⟨_, rfl⟩, p⟩, fun _ => (fun _ => ⟨fun _ => (fun m hm => (fun lv l0 l1 l2 l3 l4 l5 => vt_mono (Nat.le_refl _) (fun _ _ kk => ⟨kk.1, fr_trans p kk.2⟩) ((IH m hm).1 _ _ _ _ _ _ lv l0 l1 l2 l3 l4 l5))), fun _ => (fun m hm => ck_mono ((fa_GoodsBook_pageOf m) _ _) (fun _ _ ⟨⟨x, hx⟩, w7⟩ => ⟨x, hx, ⟨fun _ => (fun m hm => ck_mono ((fa_GoodsBook_sizeOf m) _ _) (fun _ _ ⟨⟨x, hx⟩, w11⟩ => ⟨x, hx, (fun m hm => ck_mono ((fa_Sheets_value_60 m) _ _ _) (fun _ _ ⟨⟨x, hx⟩, w14⟩ => ⟨x, hx, (fun m hm => ck_mono ((fa_Floor_spot_64 m) _ _ _) (fun _ _ ⟨⟨x, hx⟩, w17⟩ => ⟨x, hx, ⟨fun _ => ⟨⟨_, rfl⟩, (fr_trans (fr_trans (fr_trans (fr_trans p w7) w11) w14) w17)⟩, fun _ => ⟨fun _ => (fun m hm => (fun lv l0 l1 l2 l3 l4 l5 => vt_mono (Nat.le_refl _) (fun _ _ kk => ⟨kk.1, fr_trans (fr_trans (fr_trans (fr_trans (fr_trans p w7) w11) w14) w17) kk.2⟩) ((IH m hm).1 _ _ _ _ _ _ lv l0 l1 l2 l3 l4 l5))), fun _ => ⟨⟨_, rfl⟩, (fr_trans (fr_trans (fr_trans (fr_trans p w7) w11) w14) w17)⟩⟩⟩⟩))⟩))⟩)), fun _ => (fun m hm => (fun lv l0 l1 l2 l3 l4 l5 => vt_mono (Nat.le_refl _) (fun _ _ kk => ⟨kk.1, fr_trans (fr_trans p w7) kk.2⟩) ((IH m hm).1 _ _ _ _ _ _ lv l0 l1 l2 l3 l4 l5)))⟩⟩))⟩)⟩)
    have hdE : (∀ (H : fl_H) (a1 : Int) (a2 : Int) (a3 : Int) (a4 : Int), ck (cm_pg X xs) N cm_m117 [.index 0, fl_t a1, fl_t a2, fl_t a3, fl_t a4] H (fpI sU H)) := fun H a1 a2 a3 a4 => ve_GoodsBook_judge_0 (have p := fr_refl sU H
      (fun m hm => ck_mono ((fa_GoodsBook_isPage_0 m) _ _) (fun _ _ ⟨⟨x, hx⟩, w2⟩ => ⟨x, hx, ⟨fun _ => ⟨⟨_, rfl⟩, (fr_trans p w2)⟩, fun _ => (fun m hm => ck_mono ((fa_GoodsBook_drawPlan_0 m) _) (fun _ _ ⟨hx, w6⟩ => ⟨hx, (fun _ => (fun m hm => ck_mono ((fa_Sheets_refusal_60 m) _ _ _ _ _) (fun _ _ ⟨⟨x, hx⟩, w9⟩ => ⟨x, hx, ⟨fun _ => (fun lv l0 l1 l2 l3 l4 l5 => vt_mono (Nat.le_refl _) (fun _ _ kk => ⟨kk.1, fr_trans (fr_trans (fr_trans (fr_trans p w2) w6) w9) kk.2⟩) (hdGoodsBook_judge_0_54 _ _ _ _ _ _ lv l0 l1 l2 l3 l4 l5)), fun _ => ⟨⟨_, rfl⟩, (fr_trans (fr_trans (fr_trans p w2) w6) w9)⟩⟩⟩)))⟩))⟩⟩)))
    exact ⟨hdGoodsBook_judge_0_54, hdE⟩

theorem fa_GoodsBook_fits_0 {X : Term} {xs : List Int32} (N : Nat) : (∀ (H : fl_H) (a1 : Int), ck (cm_pg X xs) N cm_m118 [.index 0, fl_t a1] H (fpI sU H)) := by
  induction N using Nat.strongRecOn with
  | ind N IH =>
    have hdE : (∀ (H : fl_H) (a1 : Int), ck (cm_pg X xs) N cm_m118 [.index 0, fl_t a1] H (fpI sU H)) := fun H a1 => ve_GoodsBook_fits_0 (have p := fr_refl sU H
      ⟨fun _ => ⟨fun _ => (fun m hm => ck_mono ((fa_Floor_measureOnce_64 m).2.2 _) (fun _ _ ⟨hx, w4⟩ => ⟨hx, (fun m hm => ck_mono ((fa_Floor_lies_64 m) _ _) (fun _ _ ⟨⟨x, hx⟩, w6⟩ => ⟨x, hx, ⟨fun _ => ⟨⟨_, rfl⟩, (fr_trans (fr_trans p w4) w6)⟩, fun _ => ⟨⟨_, rfl⟩, (fr_trans (fr_trans p w4) w6)⟩⟩⟩))⟩)), fun _ => ⟨⟨_, rfl⟩, p⟩⟩, fun _ => (fun _ => ⟨fun _ => (fun m hm => ck_mono ((fa_Floor_measureOnce_64 m).2.2 _) (fun _ _ ⟨hx, w12⟩ => ⟨hx, (fun m hm => ck_mono ((fa_Floor_lies_64 m) _ _) (fun _ _ ⟨⟨x, hx⟩, w14⟩ => ⟨x, hx, ⟨fun _ => ⟨⟨_, rfl⟩, (fr_trans (fr_trans p w12) w14)⟩, fun _ => ⟨⟨_, rfl⟩, (fr_trans (fr_trans p w12) w14)⟩⟩⟩))⟩)), fun _ => ⟨⟨_, rfl⟩, p⟩⟩)⟩)
    exact hdE

theorem fa_Draft_goods_69 {X : Term} {xs : List Int32} (N : Nat) : (∀ (H : fl_H), ck (cm_pg X xs) N cm_m15 [.index 69] H (fpI sU H)) := by
  induction N using Nat.strongRecOn with
  | ind N IH =>
    have hdE : (∀ (H : fl_H), ck (cm_pg X xs) N cm_m15 [.index 69] H (fpI sU H)) := fun H => ve_Draft_goods_69 (have p := fr_refl sU H
      ⟨⟨_, rfl⟩, p⟩)
    exact hdE

theorem fa_Draft_putAll_69_81 {X : Term} {xs : List Int32} (N : Nat) : (∀ (H : fl_H) (a2 : Int), hd_Draft_putAll_69_81_2 (cm_pg X xs) N H a2 (fpV sU H)) ∧ (∀ (H : fl_H), ck (cm_pg X xs) N cm_m16 [.index 69, .index 81] H (fpV sU H)) := by
  induction N using Nat.strongRecOn with
  | ind N IH =>
    have hdDraft_putAll_69_81_2 : (∀ (H : fl_H) (a2 : Int), hd_Draft_putAll_69_81_2 (cm_pg X xs) N H a2 (fpV sU H)) := fun H a2 => vh_Draft_putAll_69_81_2 (have p := fr_refl sU H
      ⟨fun _ => ⟨rfl, p⟩, fun _ => (fun _ => (fun m hm => ck_mono ((fa_Draft_put_69 m) _ _ _) (fun _ _ ⟨hx, w4⟩ => ⟨hx, (fun m hm => (fun lv l0 l1 l2 => vt_mono (Nat.le_refl _) (fun _ _ kk => ⟨kk.1, fr_trans (fr_trans p w4) kk.2⟩) ((IH m hm).1 _ _ lv l0 l1 l2)))⟩)))⟩)
    have hdE : (∀ (H : fl_H), ck (cm_pg X xs) N cm_m16 [.index 69, .index 81] H (fpV sU H)) := fun H => ve_Draft_putAll_69_81 (have p := fr_refl sU H
      (fun lv l0 l1 l2 => vt_mono (Nat.le_refl _) (fun _ _ kk => ⟨kk.1, fr_trans p kk.2⟩) (hdDraft_putAll_69_81_2 _ _ lv l0 l1 l2)))
    exact ⟨hdDraft_putAll_69_81_2, hdE⟩

theorem fa_Draft_isAheadOf_69_81 {X : Term} {xs : List Int32} (N : Nat) : (∀ (H : fl_H) (a2 : Int), hd_Draft_isAheadOf_69_81_2 (cm_pg X xs) N H a2 (fpI sU H)) ∧ (∀ (H : fl_H), ck (cm_pg X xs) N cm_m29 [.index 69, .index 81] H (fpI sU H)) := by
  induction N using Nat.strongRecOn with
  | ind N IH =>
    have hdDraft_isAheadOf_69_81_2 : (∀ (H : fl_H) (a2 : Int), hd_Draft_isAheadOf_69_81_2 (cm_pg X xs) N H a2 (fpI sU H)) := fun H a2 => vh_Draft_isAheadOf_69_81_2 (have p := fr_refl sU H
      ⟨fun _ => ⟨⟨_, rfl⟩, p⟩, fun _ => (fun _ => (fun _ => ⟨fun _ => (fun m hm => (fun lv l0 l1 l2 => vt_mono (Nat.le_refl _) (fun _ _ kk => ⟨kk.1, fr_trans p kk.2⟩) ((IH m hm).1 _ _ lv l0 l1 l2))), fun _ => (fun _ => (fun _ => ⟨fun _ => ⟨⟨_, rfl⟩, p⟩, fun _ => ⟨⟨_, rfl⟩, p⟩⟩))⟩))⟩)
    have hdE : (∀ (H : fl_H), ck (cm_pg X xs) N cm_m29 [.index 69, .index 81] H (fpI sU H)) := fun H => ve_Draft_isAheadOf_69_81 (have p := fr_refl sU H
      (fun lv l0 l1 l2 => vt_mono (Nat.le_refl _) (fun _ _ kk => ⟨kk.1, fr_trans p kk.2⟩) (hdDraft_isAheadOf_69_81_2 _ _ lv l0 l1 l2)))
    exact ⟨hdDraft_isAheadOf_69_81_2, hdE⟩

theorem fa_Search_keep_79 {X : Term} {xs : List Int32} (N : Nat) : (∀ (H : fl_H) (a1 : Int), ck (cm_pg X xs) N cm_m66 [.index 79, fl_t a1] H (fpV sU H)) := by
  induction N using Nat.strongRecOn with
  | ind N IH =>
    have hdE : (∀ (H : fl_H) (a1 : Int), ck (cm_pg X xs) N cm_m66 [.index 79, fl_t a1] H (fpV sU H)) := fun H a1 => ve_Search_keep_79 (have p := fr_refl sU H
      (fun H1 e2 => (fun H3 e4 => (fun H5 e6 => ⟨rfl, (fr_cp (fr_up (fr_up p (by intros; rfl) e2) (by intros; rfl) e4) (by intros; rfl) e6)⟩))))
    exact hdE

theorem fa_Search_weigh_79 {X : Term} {xs : List Int32} (N : Nat) : (∀ (H : fl_H), ck (cm_pg X xs) N cm_m59 [.index 79] H (fpV sU H)) := by
  induction N using Nat.strongRecOn with
  | ind N IH =>
    have hdE : (∀ (H : fl_H), ck (cm_pg X xs) N cm_m59 [.index 79] H (fpV sU H)) := fun H => ve_Search_weigh_79 (have p := fr_refl sU H
      (fun m hm => ck_mono ((fa_Draft_amount_69 m).2 _) (fun _ _ ⟨⟨x, hx⟩, w2⟩ => ⟨x, hx, ⟨fun _ => ⟨fun _ => ⟨fun _ => ⟨rfl, (fr_trans p w2)⟩, fun _ => (fun m hm => ck_mono ((fa_Draft_isAheadOf_69_81 m).2 _) (fun _ _ ⟨⟨x, hx⟩, w8⟩ => ⟨x, hx, ⟨fun _ => ⟨rfl, (fr_trans (fr_trans p w2) w8)⟩, fun _ => (fun m hm => ck_mono ((fa_Draft_firstBroken_69 m).2 _) (fun _ _ ⟨⟨x, hx⟩, w12⟩ => ⟨x, hx, ⟨fun _ => (fun m hm => ck_mono ((fa_Draft_firstCrowded_69 m).2 _) (fun _ _ ⟨⟨x, hx⟩, w16⟩ => ⟨x, hx, ⟨fun _ => (fun m hm => ck_mono ((fa_Search_keep_79 m) _ _) (fun _ _ ⟨hx, w20⟩ => ⟨hx, ⟨rfl, (fr_trans (fr_trans (fr_trans (fr_trans (fr_trans p w2) w8) w12) w16) w20)⟩⟩)), fun _ => ⟨rfl, (fr_trans (fr_trans (fr_trans (fr_trans p w2) w8) w12) w16)⟩⟩⟩)), fun _ => ⟨rfl, (fr_trans (fr_trans (fr_trans p w2) w8) w12)⟩⟩⟩))⟩⟩))⟩, fun _ => (fun m hm => ck_mono ((fa_Draft_firstBroken_69 m).2 _) (fun _ _ ⟨⟨x, hx⟩, w22⟩ => ⟨x, hx, ⟨fun _ => (fun m hm => ck_mono ((fa_Draft_firstCrowded_69 m).2 _) (fun _ _ ⟨⟨x, hx⟩, w26⟩ => ⟨x, hx, ⟨fun _ => (fun m hm => ck_mono ((fa_Search_keep_79 m) _ _) (fun _ _ ⟨hx, w30⟩ => ⟨hx, ⟨rfl, (fr_trans (fr_trans (fr_trans (fr_trans p w2) w22) w26) w30)⟩⟩)), fun _ => ⟨rfl, (fr_trans (fr_trans (fr_trans p w2) w22) w26)⟩⟩⟩)), fun _ => ⟨rfl, (fr_trans (fr_trans p w2) w22)⟩⟩⟩))⟩, fun _ => ⟨rfl, (fr_trans p w2)⟩⟩⟩)))
    exact hdE

theorem fa_Search_tryChoices_79 {X : Term} {xs : List Int32} (N : Nat) : (∀ (H : fl_H) (a1 : Int) (a2 : Int) (a3 : Int), hd_Search_tryChoices_79_12 (cm_pg X xs) N H a1 a2 a3 (fpV sU H)) ∧ (∀ (H : fl_H) (a1 : Int), ck (cm_pg X xs) N cm_m57 [.index 79, fl_t a1] H (fpV sU H)) := by
  induction N using Nat.strongRecOn with
  | ind N IH =>
    have hdSearch_tryChoices_79_12 : (∀ (H : fl_H) (a1 : Int) (a2 : Int) (a3 : Int), hd_Search_tryChoices_79_12 (cm_pg X xs) N H a1 a2 a3 (fpV sU H)) := fun H a1 a2 a3 => vh_Search_tryChoices_79_12 (have p := fr_refl sU H
      ⟨fun _ => (fun m hm => ck_mono ((fa_Draft_put_69 m) _ _ _) (fun _ _ ⟨hx, w3⟩ => ⟨hx, ⟨rfl, (fr_trans p w3)⟩⟩)), fun _ => ⟨fun _ => (fun m hm => (fun lv l0 l1 l2 l3 => vt_mono (Nat.le_refl _) (fun _ _ kk => ⟨kk.1, fr_trans p kk.2⟩) ((IH m hm).1 _ _ _ _ lv l0 l1 l2 l3))), fun _ => (fun m hm => ck_mono ((fa_Draft_put_69 m) _ _ _) (fun _ _ ⟨hx, w7⟩ => ⟨hx, (fun m hm => ck_mono ((fa_Search_weigh_79 m) _) (fun _ _ ⟨hx, w9⟩ => ⟨hx, (fun m hm => (fun lv l0 l1 l2 l3 => vt_mono (Nat.le_refl _) (fun _ _ kk => ⟨kk.1, fr_trans (fr_trans (fr_trans p w7) w9) kk.2⟩) ((IH m hm).1 _ _ _ _ lv l0 l1 l2 l3)))⟩))⟩))⟩⟩)
    have hdE : (∀ (H : fl_H) (a1 : Int), ck (cm_pg X xs) N cm_m57 [.index 79, fl_t a1] H (fpV sU H)) := fun H a1 => ve_Search_tryChoices_79 (have p := fr_refl sU H
      (fun _ => (fun lv l0 l1 l2 l3 => vt_mono (Nat.le_refl _) (fun _ _ kk => ⟨kk.1, fr_trans p kk.2⟩) (hdSearch_tryChoices_79_12 _ _ _ _ lv l0 l1 l2 l3))))
    exact ⟨hdSearch_tryChoices_79_12, hdE⟩

theorem fa_Search_tryRounds_79 {X : Term} {xs : List Int32} (N : Nat) : (∀ (H : fl_H) (a1 : Int) (a2 : Int) (a3 : Int), hd_Search_tryRounds_79_14 (cm_pg X xs) N H a1 a2 a3 (fpV sU H)) ∧ (∀ (H : fl_H) (a1 : Int), ck (cm_pg X xs) N cm_m58 [.index 79, fl_t a1] H (fpV sU H)) := by
  induction N using Nat.strongRecOn with
  | ind N IH =>
    have hdSearch_tryRounds_79_14 : (∀ (H : fl_H) (a1 : Int) (a2 : Int) (a3 : Int), hd_Search_tryRounds_79_14 (cm_pg X xs) N H a1 a2 a3 (fpV sU H)) := fun H a1 a2 a3 => vh_Search_tryRounds_79_14 (have p := fr_refl sU H
      (fun m hm => ck_mono ((fa_Draft_goods_69 m) _) (fun _ _ ⟨⟨x, hx⟩, w2⟩ => ⟨x, hx, ⟨fun _ => (fun m hm => ck_mono ((fa_Draft_put_69 m) _ _ _) (fun _ _ ⟨hx, w6⟩ => ⟨hx, ⟨rfl, (fr_trans (fr_trans p w2) w6)⟩⟩)), fun _ => (fun _ => ⟨fun _ => (fun m hm => (fun lv l0 l1 l2 l3 => vt_mono (Nat.le_refl _) (fun _ _ kk => ⟨kk.1, fr_trans (fr_trans p w2) kk.2⟩) ((IH m hm).1 _ _ _ _ lv l0 l1 l2 l3))), fun _ => (fun m hm => ck_mono ((fa_Draft_put_69 m) _ _ _) (fun _ _ ⟨hx, w12⟩ => ⟨hx, (fun m hm => ck_mono ((fa_Draft_put_69 m) _ _ _) (fun _ _ ⟨hx, w14⟩ => ⟨hx, (fun m hm => ck_mono ((fa_Search_weigh_79 m) _) (fun _ _ ⟨hx, w16⟩ => ⟨hx, (fun m hm => ck_mono ((fa_Draft_put_69 m) _ _ _) (fun _ _ ⟨hx, w18⟩ => ⟨hx, (fun m hm => (fun lv l0 l1 l2 l3 => vt_mono (Nat.le_refl _) (fun _ _ kk => ⟨kk.1, fr_trans (fr_trans (fr_trans (fr_trans (fr_trans (fr_trans p w2) w12) w14) w16) w18) kk.2⟩) ((IH m hm).1 _ _ _ _ lv l0 l1 l2 l3)))⟩))⟩))⟩))⟩))⟩)⟩⟩)))
    have hdE : (∀ (H : fl_H) (a1 : Int), ck (cm_pg X xs) N cm_m58 [.index 79, fl_t a1] H (fpV sU H)) := fun H a1 => ve_Search_tryRounds_79 (have p := fr_refl sU H
      (fun _ => (fun lv l0 l1 l2 l3 => vt_mono (Nat.le_refl _) (fun _ _ kk => ⟨kk.1, fr_trans p kk.2⟩) (hdSearch_tryRounds_79_14 _ _ _ _ lv l0 l1 l2 l3))))
    exact ⟨hdSearch_tryRounds_79_14, hdE⟩

theorem fa_Search_climb_79 {X : Term} {xs : List Int32} (N : Nat) : (∀ (H : fl_H) (a1 : Int) (a2 : Int) (a3 : Int), hd_Search_climb_79_34 (cm_pg X xs) N H a1 a2 a3 (fpI sU H)) ∧ (∀ (H : fl_H) (a1 : Int) (a2 : Int), hd_Search_climb_79_10 (cm_pg X xs) N H a1 a2 (fpI sU H)) ∧ (∀ (H : fl_H), ck (cm_pg X xs) N cm_m56 [.index 79] H (fpI sU H)) := by
  induction N using Nat.strongRecOn with
  | ind N IH =>
    have hdSearch_climb_79_34 : (∀ (H : fl_H) (a1 : Int) (a2 : Int) (a3 : Int), hd_Search_climb_79_34 (cm_pg X xs) N H a1 a2 a3 (fpI sU H)) := fun H a1 a2 a3 => vh_Search_climb_79_34 (have p := fr_refl sU H
      ⟨fun _ => ⟨fun _ => ⟨⟨_, rfl⟩, p⟩, fun _ => (fun m hm => ck_mono ((fa_Draft_putAll_69_81 m).2 _) (fun _ _ ⟨hx, w4⟩ => ⟨hx, (fun m hm => (fun lv l0 l1 l2 => vt_mono (Nat.le_refl _) (fun _ _ kk => ⟨kk.1, fr_trans (fr_trans p w4) kk.2⟩) ((IH m hm).2.1 _ _ _ lv l0 l1 l2)))⟩))⟩, fun _ => (fun m hm => ck_mono ((fa_Search_tryChoices_79 m).2 _ _) (fun _ _ ⟨hx, w7⟩ => ⟨hx, (fun m hm => ck_mono ((fa_Search_tryRounds_79 m).2 _ _) (fun _ _ ⟨hx, w9⟩ => ⟨hx, (fun m hm => (fun lv l0 l1 l2 l3 => vt_mono (Nat.le_refl _) (fun _ _ kk => ⟨kk.1, fr_trans (fr_trans (fr_trans p w7) w9) kk.2⟩) ((IH m hm).1 _ _ _ _ lv l0 l1 l2 l3)))⟩))⟩))⟩)
    have hdSearch_climb_79_10 : (∀ (H : fl_H) (a1 : Int) (a2 : Int), hd_Search_climb_79_10 (cm_pg X xs) N H a1 a2 (fpI sU H)) := fun H a1 a2 => vh_Search_climb_79_10 (have p := fr_refl sU H
      ⟨fun _ => ⟨⟨_, rfl⟩, p⟩, fun _ => (fun H2 e3 => (fun m hm => ck_mono ((fa_Draft_amount_69 m).2 _) (fun _ _ ⟨⟨x, hx⟩, w5⟩ => ⟨x, hx, (fun H7 e8 => (fun lv l0 l1 l2 l3 => vt_mono (Nat.le_refl _) (fun _ _ kk => ⟨kk.1, fr_trans (fr_up (fr_trans (fr_up p (by intros; rfl) e3) w5) (by intros; rfl) e8) kk.2⟩) (hdSearch_climb_79_34 _ _ _ _ lv l0 l1 l2 l3)))⟩)))⟩)
    have hdE : (∀ (H : fl_H), ck (cm_pg X xs) N cm_m56 [.index 79] H (fpI sU H)) := fun H => ve_Search_climb_79 (have p := fr_refl sU H
      (fun m hm => ck_mono ((fa_Draft_goods_69 m) _) (fun _ _ ⟨⟨x, hx⟩, w2⟩ => ⟨x, hx, (fun lv l0 l1 l2 => vt_mono (Nat.le_refl _) (fun _ _ kk => ⟨kk.1, fr_trans (fr_trans p w2) kk.2⟩) (hdSearch_climb_79_10 _ _ _ lv l0 l1 l2))⟩)))
    exact ⟨hdSearch_climb_79_34, hdSearch_climb_79_10, hdE⟩

theorem fa_Search_mostGain_79 {X : Term} {xs : List Int32} (N : Nat) : (∀ (H : fl_H) (a1 : Int) (a2 : Int) (a3 : Int), hd_Search_mostGain_79_17 (cm_pg X xs) N H a1 a2 a3 (fpI sU H)) ∧ (∀ (H : fl_H) (a1 : Int), ck (cm_pg X xs) N cm_m62 [.index 79, fl_t a1] H (fpI sU H)) := by
  induction N using Nat.strongRecOn with
  | ind N IH =>
    have hdSearch_mostGain_79_17 : (∀ (H : fl_H) (a1 : Int) (a2 : Int) (a3 : Int), hd_Search_mostGain_79_17 (cm_pg X xs) N H a1 a2 a3 (fpI sU H)) := fun H a1 a2 a3 => vh_Search_mostGain_79_17 (have p := fr_refl sU H
      ⟨fun _ => (fun _ => ⟨⟨_, rfl⟩, p⟩), fun _ => (fun _ => (fun m hm => (fun lv l0 l1 l2 l3 => vt_mono (Nat.le_refl _) (fun _ _ kk => ⟨kk.1, fr_trans p kk.2⟩) ((IH m hm).1 _ _ _ _ lv l0 l1 l2 l3))))⟩)
    have hdE : (∀ (H : fl_H) (a1 : Int), ck (cm_pg X xs) N cm_m62 [.index 79, fl_t a1] H (fpI sU H)) := fun H a1 => ve_Search_mostGain_79 (have p := fr_refl sU H
      (fun _ => ⟨fun _ => ⟨fun _ => (fun _ => ⟨⟨_, rfl⟩, p⟩), fun _ => (fun _ => ⟨⟨_, rfl⟩, p⟩)⟩, fun _ => (fun lv l0 l1 l2 l3 => vt_mono (Nat.le_refl _) (fun _ _ kk => ⟨kk.1, fr_trans p kk.2⟩) (hdSearch_mostGain_79_17 _ _ _ _ lv l0 l1 l2 l3))⟩))
    exact ⟨hdSearch_mostGain_79_17, hdE⟩

theorem fa_Search_sortBonds_79 {X : Term} {xs : List Int32} (N : Nat) : (∀ (H : fl_H) (a1 : Int) (a2 : Int) (a3 : Int) (a4 : Int), hd_Search_sortBonds_79_27 (cm_pg X xs) N H a1 a2 a3 a4 (fpV sU H)) ∧ (∀ (H : fl_H) (a2 : Int) (a3 : Int) (a4 : Int), hd_Search_sortBonds_79_137 (cm_pg X xs) N H a2 a3 a4 (fpV sU H)) ∧ (∀ (H : fl_H) (a2 : Int) (a3 : Int), hd_Search_sortBonds_79_125 (cm_pg X xs) N H a2 a3 (fpV sU H)) ∧ (∀ (H : fl_H) (a1 : Int) (a2 : Int) (a3 : Int), hd_Search_sortBonds_79_6 (cm_pg X xs) N H a1 a2 a3 (fpV sU H)) ∧ (∀ (H : fl_H), ck (cm_pg X xs) N cm_m61 [.index 79] H (fpV sU H)) := by
  induction N using Nat.strongRecOn with
  | ind N IH =>
    have hdSearch_sortBonds_79_27 : (∀ (H : fl_H) (a1 : Int) (a2 : Int) (a3 : Int) (a4 : Int), hd_Search_sortBonds_79_27 (cm_pg X xs) N H a1 a2 a3 a4 (fpV sU H)) := fun H a1 a2 a3 a4 => vh_Search_sortBonds_79_27 (have p := fr_refl sU H
      ⟨fun _ => (fun m hm => (fun lv l0 l1 l2 l3 => vt_mono (Nat.le_refl _) (fun _ _ kk => ⟨kk.1, fr_trans p kk.2⟩) ((IH m hm).2.2.2.1 _ _ _ _ lv l0 l1 l2 l3))), fun _ => (fun _ => (fun _ => ⟨fun _ => (fun _ H7 e8 => (fun m hm => (fun lv l0 l1 l2 l3 l4 => vt_mono (Nat.le_refl _) (fun _ _ kk => ⟨kk.1, fr_trans (fr_up p (by intros; rfl) e8) kk.2⟩) ((IH m hm).1 _ _ _ _ _ lv l0 l1 l2 l3 l4)))), fun _ => (fun m hm => (fun lv l0 l1 l2 l3 l4 => vt_mono (Nat.le_refl _) (fun _ _ kk => ⟨kk.1, fr_trans p kk.2⟩) ((IH m hm).1 _ _ _ _ _ lv l0 l1 l2 l3 l4)))⟩))⟩)
    have hdSearch_sortBonds_79_137 : (∀ (H : fl_H) (a2 : Int) (a3 : Int) (a4 : Int), hd_Search_sortBonds_79_137 (cm_pg X xs) N H a2 a3 a4 (fpV sU H)) := fun H a2 a3 a4 => vh_Search_sortBonds_79_137 (have p := fr_refl sU H
      (fun _ => ⟨fun _ => (fun _ H3 e4 => (fun m hm => (fun lv l0 l1 l2 => vt_mono (Nat.le_refl _) (fun _ _ kk => ⟨kk.1, fr_trans (fr_up p (by intros; rfl) e4) kk.2⟩) ((IH m hm).2.2.1 _ _ _ lv l0 l1 l2)))), fun _ => (fun _ => (fun m hm => ck_mono ((fa_Search_mostGain_79 m).2 _ _) (fun _ _ ⟨⟨x, hx⟩, w9⟩ => ⟨x, hx, (fun m hm => (fun lv l0 l1 l2 l3 => vt_mono (Nat.le_refl _) (fun _ _ kk => ⟨kk.1, fr_trans (fr_trans p w9) kk.2⟩) ((IH m hm).2.1 _ _ _ _ lv l0 l1 l2 l3)))⟩)))⟩))
    have hdSearch_sortBonds_79_125 : (∀ (H : fl_H) (a2 : Int) (a3 : Int), hd_Search_sortBonds_79_125 (cm_pg X xs) N H a2 a3 (fpV sU H)) := fun H a2 a3 => vh_Search_sortBonds_79_125 (have p := fr_refl sU H
      ⟨fun _ => ⟨rfl, p⟩, fun _ => (fun _ => (fun lv l0 l1 l2 l3 => vt_mono (Nat.le_refl _) (fun _ _ kk => ⟨kk.1, fr_trans p kk.2⟩) (hdSearch_sortBonds_79_137 _ _ _ _ lv l0 l1 l2 l3)))⟩)
    have hdSearch_sortBonds_79_6 : (∀ (H : fl_H) (a1 : Int) (a2 : Int) (a3 : Int), hd_Search_sortBonds_79_6 (cm_pg X xs) N H a1 a2 a3 (fpV sU H)) := fun H a1 a2 a3 => vh_Search_sortBonds_79_6 (have p := fr_refl sU H
      (fun m hm => ck_mono ((fa_Draft_goods_69 m) _) (fun _ _ ⟨⟨x, hx⟩, w2⟩ => ⟨x, hx, ⟨fun _ => (fun m hm => ck_mono ((fa_Draft_goods_69 m) _) (fun _ _ ⟨⟨x, hx⟩, w6⟩ => ⟨x, hx, (fun _ H8 e9 => (fun m hm => ck_mono ((fa_Draft_goods_69 m) _) (fun _ _ ⟨⟨x, hx⟩, w12⟩ => ⟨x, hx, (fun _ H14 e15 => (fun m hm => ck_mono ((fa_Draft_goods_69 m) _) (fun _ _ ⟨⟨x, hx⟩, w18⟩ => ⟨x, hx, (fun lv l0 l1 l2 => vt_mono (Nat.le_refl _) (fun _ _ kk => ⟨kk.1, fr_trans (fr_trans (fr_up (fr_trans (fr_up (fr_trans (fr_trans p w2) w6) (by intros; rfl) e9) w12) (by intros; rfl) e15) w18) kk.2⟩) (hdSearch_sortBonds_79_125 _ _ _ lv l0 l1 l2))⟩)))⟩)))⟩)), fun _ => (fun _ H21 e22 => (fun lv l0 l1 l2 l3 l4 => vt_mono (Nat.le_refl _) (fun _ _ kk => ⟨kk.1, fr_trans (fr_up (fr_trans p w2) (by intros; rfl) e22) kk.2⟩) (hdSearch_sortBonds_79_27 _ _ _ _ _ lv l0 l1 l2 l3 l4)))⟩⟩)))
    have hdE : (∀ (H : fl_H), ck (cm_pg X xs) N cm_m61 [.index 79] H (fpV sU H)) := fun H => ve_Search_sortBonds_79 (have p := fr_refl sU H
      (fun lv l0 l1 l2 l3 => vt_mono (Nat.le_refl _) (fun _ _ kk => ⟨kk.1, fr_trans p kk.2⟩) (hdSearch_sortBonds_79_6 _ _ _ _ lv l0 l1 l2 l3)))
    exact ⟨hdSearch_sortBonds_79_27, hdSearch_sortBonds_79_137, hdSearch_sortBonds_79_125, hdSearch_sortBonds_79_6, hdE⟩

theorem fa_Draft_isFitAt_69 {X : Term} {xs : List Int32} (N : Nat) : (∀ (H : fl_H) (a1 : Int), ck (cm_pg X xs) N cm_m26 [.index 69, fl_t a1] H (fpI sU H)) := by
  induction N using Nat.strongRecOn with
  | ind N IH =>
    have hdE : (∀ (H : fl_H) (a1 : Int), ck (cm_pg X xs) N cm_m26 [.index 69, fl_t a1] H (fpI sU H)) := fun H a1 => ve_Draft_isFitAt_69 (have p := fr_refl sU H
      (fun _ => ⟨fun _ => ⟨⟨_, rfl⟩, p⟩, fun _ => (fun _ => (fun _ => (fun m hm => ck_mono ((fa_Floor_lies_64 m) _ _) (fun _ _ ⟨⟨x, hx⟩, w6⟩ => ⟨x, hx, ⟨fun _ => ⟨⟨_, rfl⟩, (fr_trans p w6)⟩, fun _ => ⟨⟨_, rfl⟩, (fr_trans p w6)⟩⟩⟩))))⟩))
    exact hdE

theorem fa_Search_canStay_79 {X : Term} {xs : List Int32} (N : Nat) : (∀ (H : fl_H) (a1 : Int) (a2 : Int), hd_Search_canStay_79_7 (cm_pg X xs) N H a1 a2 (fpI sU H)) ∧ (∀ (H : fl_H) (a1 : Int), ck (cm_pg X xs) N cm_m64 [.index 79, fl_t a1] H (fpI sU H)) := by
  induction N using Nat.strongRecOn with
  | ind N IH =>
    have hdSearch_canStay_79_7 : (∀ (H : fl_H) (a1 : Int) (a2 : Int), hd_Search_canStay_79_7 (cm_pg X xs) N H a1 a2 (fpI sU H)) := fun H a1 a2 => vh_Search_canStay_79_7 (have p := fr_refl sU H
      (fun _ => ⟨fun _ => (fun m hm => ck_mono ((fa_Draft_isFitAt_69 m) _ _) (fun _ _ ⟨⟨x, hx⟩, w4⟩ => ⟨x, hx, ⟨⟨_, rfl⟩, (fr_trans p w4)⟩⟩)), fun _ => (fun _ => (fun m hm => ck_mono ((fa_Draft_keeps_69 m) _ _) (fun _ _ ⟨⟨x, hx⟩, w8⟩ => ⟨x, hx, ⟨fun _ => ⟨⟨_, rfl⟩, (fr_trans p w8)⟩, fun _ => (fun m hm => (fun lv l0 l1 l2 => vt_mono (Nat.le_refl _) (fun _ _ kk => ⟨kk.1, fr_trans (fr_trans p w8) kk.2⟩) ((IH m hm).1 _ _ _ lv l0 l1 l2)))⟩⟩)))⟩))
    have hdE : (∀ (H : fl_H) (a1 : Int), ck (cm_pg X xs) N cm_m64 [.index 79, fl_t a1] H (fpI sU H)) := fun H a1 => ve_Search_canStay_79 (have p := fr_refl sU H
      (fun _ => (fun lv l0 l1 l2 => vt_mono (Nat.le_refl _) (fun _ _ kk => ⟨kk.1, fr_trans p kk.2⟩) (hdSearch_canStay_79_7 _ _ _ lv l0 l1 l2))))
    exact ⟨hdSearch_canStay_79_7, hdE⟩

theorem fa_Search_gainOf_79 {X : Term} {xs : List Int32} (N : Nat) : (∀ (H : fl_H) (a1 : Int) (a2 : Int) (a3 : Int), hd_Search_gainOf_79_9 (cm_pg X xs) N H a1 a2 a3 (fpI sU H)) ∧ (∀ (H : fl_H) (a1 : Int), ck (cm_pg X xs) N cm_m65 [.index 79, fl_t a1] H (fpI sU H)) := by
  induction N using Nat.strongRecOn with
  | ind N IH =>
    have hdSearch_gainOf_79_9 : (∀ (H : fl_H) (a1 : Int) (a2 : Int) (a3 : Int), hd_Search_gainOf_79_9 (cm_pg X xs) N H a1 a2 a3 (fpI sU H)) := fun H a1 a2 a3 => vh_Search_gainOf_79_9 (have p := fr_refl sU H
      (fun _ => ⟨fun _ => ⟨⟨_, rfl⟩, p⟩, fun _ => (fun _ => (fun m hm => ck_mono ((fa_Draft_gain_69 m) _ _) (fun _ _ ⟨⟨x, hx⟩, w5⟩ => ⟨x, hx, (fun m hm => (fun lv l0 l1 l2 l3 => vt_mono (Nat.le_refl _) (fun _ _ kk => ⟨kk.1, fr_trans (fr_trans p w5) kk.2⟩) ((IH m hm).1 _ _ _ _ lv l0 l1 l2 l3)))⟩)))⟩))
    have hdE : (∀ (H : fl_H) (a1 : Int), ck (cm_pg X xs) N cm_m65 [.index 79, fl_t a1] H (fpI sU H)) := fun H a1 => ve_Search_gainOf_79 (have p := fr_refl sU H
      (fun _ => (fun lv l0 l1 l2 l3 => vt_mono (Nat.le_refl _) (fun _ _ kk => ⟨kk.1, fr_trans p kk.2⟩) (hdSearch_gainOf_79_9 _ _ _ _ lv l0 l1 l2 l3))))
    exact ⟨hdSearch_gainOf_79_9, hdE⟩

theorem fa_Draft_mostOf_69 {X : Term} {xs : List Int32} (N : Nat) : (∀ (H : fl_H) (a1 : Int) (a2 : Int) (a4 : Int) (a5 : Int) (a6 : Int) (a7 : Int) (a8 : Int) (a9 : Int), hd_Draft_mostOf_69_99 (cm_pg X xs) N H a1 a2 a4 a5 a6 a7 a8 a9 (fpI sU H)) ∧ (∀ (H : fl_H) (a1 : Int) (a2 : Int) (a4 : Int) (a5 : Int) (a6 : Int) (a7 : Int) (a8 : Int), hd_Draft_mostOf_69_85 (cm_pg X xs) N H a1 a2 a4 a5 a6 a7 a8 (fpI sU H)) ∧ (∀ (H : fl_H) (a1 : Int) (a2 : Int), ck (cm_pg X xs) N cm_m23 [.index 69, fl_t a1, fl_t a2] H (fpI sU H)) := by
  induction N using Nat.strongRecOn with
  | ind N IH =>
    have hdDraft_mostOf_69_99 : (∀ (H : fl_H) (a1 : Int) (a2 : Int) (a4 : Int) (a5 : Int) (a6 : Int) (a7 : Int) (a8 : Int) (a9 : Int), hd_Draft_mostOf_69_99 (cm_pg X xs) N H a1 a2 a4 a5 a6 a7 a8 a9 (fpI sU H)) := fun H a1 a2 a4 a5 a6 a7 a8 a9 => vh_Draft_mostOf_69_99 (have p := fr_refl sU H
      ⟨fun _ => (fun m hm => (fun lv l0 l1 l2 l3 l4 l5 l6 l7 => vt_mono (Nat.le_refl _) (fun _ _ kk => ⟨kk.1, fr_trans p kk.2⟩) ((IH m hm).2.1 _ _ _ _ _ _ _ _ lv l0 l1 l2 l3 l4 l5 l6 l7))), fun _ => (fun _ => (fun m hm => ck_mono ((fa_Goods_area_3 m) _ _) (fun _ _ ⟨⟨x, hx⟩, w5⟩ => ⟨x, hx, ⟨fun _ => (fun _ => (fun _ => (fun _ => (fun m hm => (fun lv l0 l1 l2 l3 l4 l5 l6 l7 l8 => vt_mono (Nat.le_refl _) (fun _ _ kk => ⟨kk.1, fr_trans (fr_trans p w5) kk.2⟩) ((IH m hm).1 _ _ _ _ _ _ _ _ _ lv l0 l1 l2 l3 l4 l5 l6 l7 l8)))))), fun _ => (fun m hm => (fun lv l0 l1 l2 l3 l4 l5 l6 l7 l8 => vt_mono (Nat.le_refl _) (fun _ _ kk => ⟨kk.1, fr_trans (fr_trans p w5) kk.2⟩) ((IH m hm).1 _ _ _ _ _ _ _ _ _ lv l0 l1 l2 l3 l4 l5 l6 l7 l8)))⟩⟩)))⟩)
    have hdDraft_mostOf_69_85 : (∀ (H : fl_H) (a1 : Int) (a2 : Int) (a4 : Int) (a5 : Int) (a6 : Int) (a7 : Int) (a8 : Int), hd_Draft_mostOf_69_85 (cm_pg X xs) N H a1 a2 a4 a5 a6 a7 a8 (fpI sU H)) := fun H a1 a2 a4 a5 a6 a7 a8 => vh_Draft_mostOf_69_85 (have p := fr_refl sU H
      ⟨fun _ => ⟨⟨_, rfl⟩, p⟩, fun _ => (fun lv l0 l1 l2 l3 l4 l5 l6 l7 l8 => vt_mono (Nat.le_refl _) (fun _ _ kk => ⟨kk.1, fr_trans p kk.2⟩) (hdDraft_mostOf_69_99 _ _ _ _ _ _ _ _ _ lv l0 l1 l2 l3 l4 l5 l6 l7 l8))⟩)
    have hdE : (∀ (H : fl_H) (a1 : Int) (a2 : Int), ck (cm_pg X xs) N cm_m23 [.index 69, fl_t a1, fl_t a2] H (fpI sU H)) := fun H a1 a2 => ve_Draft_mostOf_69 (have p := fr_refl sU H
      (fun _ => ⟨fun _ => ⟨fun _ => (fun _ => (fun _ => ⟨fun _ => (fun lv l0 l1 l2 l3 l4 l5 l6 l7 => vt_mono (Nat.le_refl _) (fun _ _ kk => ⟨kk.1, fr_trans p kk.2⟩) (hdDraft_mostOf_69_85 _ _ _ _ _ _ _ _ lv l0 l1 l2 l3 l4 l5 l6 l7)), fun _ => (fun lv l0 l1 l2 l3 l4 l5 l6 l7 => vt_mono (Nat.le_refl _) (fun _ _ kk => ⟨kk.1, fr_trans p kk.2⟩) (hdDraft_mostOf_69_85 _ _ _ _ _ _ _ _ lv l0 l1 l2 l3 l4 l5 l6 l7))⟩)), fun _ => ⟨fun _ => (fun lv l0 l1 l2 l3 l4 l5 l6 l7 => vt_mono (Nat.le_refl _) (fun _ _ kk => ⟨kk.1, fr_trans p kk.2⟩) (hdDraft_mostOf_69_85 _ _ _ _ _ _ _ _ lv l0 l1 l2 l3 l4 l5 l6 l7)), fun _ => (fun lv l0 l1 l2 l3 l4 l5 l6 l7 => vt_mono (Nat.le_refl _) (fun _ _ kk => ⟨kk.1, fr_trans p kk.2⟩) (hdDraft_mostOf_69_85 _ _ _ _ _ _ _ _ lv l0 l1 l2 l3 l4 l5 l6 l7))⟩⟩, fun _ => ⟨fun _ => (fun _ => (fun _ => ⟨fun _ => (fun lv l0 l1 l2 l3 l4 l5 l6 l7 => vt_mono (Nat.le_refl _) (fun _ _ kk => ⟨kk.1, fr_trans p kk.2⟩) (hdDraft_mostOf_69_85 _ _ _ _ _ _ _ _ lv l0 l1 l2 l3 l4 l5 l6 l7)), fun _ => (fun lv l0 l1 l2 l3 l4 l5 l6 l7 => vt_mono (Nat.le_refl _) (fun _ _ kk => ⟨kk.1, fr_trans p kk.2⟩) (hdDraft_mostOf_69_85 _ _ _ _ _ _ _ _ lv l0 l1 l2 l3 l4 l5 l6 l7))⟩)), fun _ => ⟨fun _ => (fun lv l0 l1 l2 l3 l4 l5 l6 l7 => vt_mono (Nat.le_refl _) (fun _ _ kk => ⟨kk.1, fr_trans p kk.2⟩) (hdDraft_mostOf_69_85 _ _ _ _ _ _ _ _ lv l0 l1 l2 l3 l4 l5 l6 l7)), fun _ => (fun lv l0 l1 l2 l3 l4 l5 l6 l7 => vt_mono (Nat.le_refl _) (fun _ _ kk => ⟨kk.1, fr_trans p kk.2⟩) (hdDraft_mostOf_69_85 _ _ _ _ _ _ _ _ lv l0 l1 l2 l3 l4 l5 l6 l7))⟩⟩⟩))
    exact ⟨hdDraft_mostOf_69_99, hdDraft_mostOf_69_85, hdE⟩

theorem fa_Draft_hope_69 {X : Term} {xs : List Int32} (N : Nat) : (∀ (H : fl_H) (a1 : Int) (a2 : Int) (a3 : Int), hd_Draft_hope_69_4 (cm_pg X xs) N H a1 a2 a3 (fpI sU H)) ∧ (∀ (H : fl_H) (a1 : Int), ck (cm_pg X xs) N cm_m22 [.index 69, fl_t a1] H (fpI sU H)) := by
  induction N using Nat.strongRecOn with
  | ind N IH =>
    have hdDraft_hope_69_4 : (∀ (H : fl_H) (a1 : Int) (a2 : Int) (a3 : Int), hd_Draft_hope_69_4 (cm_pg X xs) N H a1 a2 a3 (fpI sU H)) := fun H a1 a2 a3 => vh_Draft_hope_69_4 (have p := fr_refl sU H
      ⟨fun _ => ⟨⟨_, rfl⟩, p⟩, fun _ => (fun m hm => ck_mono ((fa_Draft_mostOf_69 m).2.2 _ _ _) (fun _ _ ⟨⟨x, hx⟩, w3⟩ => ⟨x, hx, (fun m hm => (fun lv l0 l1 l2 l3 => vt_mono (Nat.le_refl _) (fun _ _ kk => ⟨kk.1, fr_trans (fr_trans p w3) kk.2⟩) ((IH m hm).1 _ _ _ _ lv l0 l1 l2 l3)))⟩))⟩)
    have hdE : (∀ (H : fl_H) (a1 : Int), ck (cm_pg X xs) N cm_m22 [.index 69, fl_t a1] H (fpI sU H)) := fun H a1 => ve_Draft_hope_69 (have p := fr_refl sU H
      (fun lv l0 l1 l2 l3 => vt_mono (Nat.le_refl _) (fun _ _ kk => ⟨kk.1, fr_trans p kk.2⟩) (hdDraft_hope_69_4 _ _ _ _ lv l0 l1 l2 l3)))
    exact ⟨hdDraft_hope_69_4, hdE⟩

theorem fa_Search_decide_79 {X : Term} {xs : List Int32} (N : Nat) : (∀ (H : fl_H) (a1 : Int) (a2 : Int) (a3 : Int) (a5 : Int) (a6 : Int) (a7 : Int), hd_Search_decide_79_64 (cm_pg X xs) N H a1 a2 a3 a5 a6 a7 (fpV sU H)) ∧ (∀ (H : fl_H) (a1 : Int) (a2 : Int) (a3 : Int), ck (cm_pg X xs) N cm_m63 [.index 79, fl_t a1, fl_t a2, fl_t a3] H (fpV sU H)) := by
  induction N using Nat.strongRecOn with
  | ind N IH =>
    have hdSearch_decide_79_64 : (∀ (H : fl_H) (a1 : Int) (a2 : Int) (a3 : Int) (a5 : Int) (a6 : Int) (a7 : Int), hd_Search_decide_79_64 (cm_pg X xs) N H a1 a2 a3 a5 a6 a7 (fpV sU H)) := fun H a1 a2 a3 a5 a6 a7 => vh_Search_decide_79_64 (have p := fr_refl sU H
      ⟨fun _ => (fun m hm => ck_mono ((fa_Draft_put_69 m) _ _ _) (fun _ _ ⟨hx, w3⟩ => ⟨hx, ⟨rfl, (fr_trans p w3)⟩⟩)), fun _ => ⟨fun _ => (fun _ => ⟨fun _ => ⟨fun _ => (fun m hm => ck_mono ((fa_Draft_put_69 m) _ _ _) (fun _ _ ⟨hx, w10⟩ => ⟨hx, (fun m hm => ck_mono ((fa_Search_canStay_79 m).2 _ _) (fun _ _ ⟨⟨x, hx⟩, w12⟩ => ⟨x, hx, ⟨fun _ => (fun m hm => (fun lv l0 l1 l2 l3 l4 l5 l6 l7 => vt_mono (Nat.le_refl _) (fun _ _ kk => ⟨kk.1, fr_trans (fr_trans (fr_trans p w10) w12) kk.2⟩) ((IH m hm).1 _ _ _ _ _ _ _ lv l0 l1 l2 l3 l4 l5 l6 l7))), fun _ => (fun m hm => ck_mono ((fa_Search_gainOf_79 m).2 _ _) (fun _ _ ⟨⟨x, hx⟩, w17⟩ => ⟨x, hx, (fun m hm => ck_mono ((fa_Draft_brought_69 m).2.2 _ _) (fun _ _ ⟨⟨x, hx⟩, w21⟩ => ⟨x, hx, (fun m hm => ck_mono ((fa_Draft_hope_69 m).2 _ _) (fun _ _ ⟨⟨x, hx⟩, w24⟩ => ⟨x, hx, (fun _ => ⟨fun _ => (fun m hm => (fun lv l0 l1 l2 l3 l4 l5 l6 l7 => vt_mono (Nat.le_refl _) (fun _ _ kk => ⟨kk.1, fr_trans (fr_trans (fr_trans (fr_trans (fr_trans (fr_trans p w10) w12) w17) w21) w24) kk.2⟩) ((IH m hm).1 _ _ _ _ _ _ _ lv l0 l1 l2 l3 l4 l5 l6 l7))), fun _ => (fun m hm => ck_mono ((IH m hm).2 _ _ _ _) (fun _ _ ⟨hx, w31⟩ => ⟨hx, (fun m hm => (fun lv l0 l1 l2 l3 l4 l5 l6 l7 => vt_mono (Nat.le_refl _) (fun _ _ kk => ⟨kk.1, fr_trans (fr_trans (fr_trans (fr_trans (fr_trans (fr_trans (fr_trans p w10) w12) w17) w21) w24) w31) kk.2⟩) ((IH m hm).1 _ _ _ _ _ _ _ lv l0 l1 l2 l3 l4 l5 l6 l7)))⟩))⟩)⟩))⟩))⟩))⟩⟩))⟩)), fun _ => (fun m hm => (fun lv l0 l1 l2 l3 l4 l5 l6 l7 => vt_mono (Nat.le_refl _) (fun _ _ kk => ⟨kk.1, fr_trans p kk.2⟩) ((IH m hm).1 _ _ _ _ _ _ _ lv l0 l1 l2 l3 l4 l5 l6 l7)))⟩, fun _ => ⟨fun _ => (fun m hm => ck_mono ((fa_Draft_put_69 m) _ _ _) (fun _ _ ⟨hx, w37⟩ => ⟨hx, (fun m hm => ck_mono ((fa_Search_canStay_79 m).2 _ _) (fun _ _ ⟨⟨x, hx⟩, w39⟩ => ⟨x, hx, ⟨fun _ => (fun m hm => (fun lv l0 l1 l2 l3 l4 l5 l6 l7 => vt_mono (Nat.le_refl _) (fun _ _ kk => ⟨kk.1, fr_trans (fr_trans (fr_trans p w37) w39) kk.2⟩) ((IH m hm).1 _ _ _ _ _ _ _ lv l0 l1 l2 l3 l4 l5 l6 l7))), fun _ => (fun m hm => ck_mono ((fa_Search_gainOf_79 m).2 _ _) (fun _ _ ⟨⟨x, hx⟩, w44⟩ => ⟨x, hx, (fun m hm => ck_mono ((fa_Draft_brought_69 m).2.2 _ _) (fun _ _ ⟨⟨x, hx⟩, w48⟩ => ⟨x, hx, (fun m hm => ck_mono ((fa_Draft_hope_69 m).2 _ _) (fun _ _ ⟨⟨x, hx⟩, w51⟩ => ⟨x, hx, (fun _ => ⟨fun _ => (fun m hm => (fun lv l0 l1 l2 l3 l4 l5 l6 l7 => vt_mono (Nat.le_refl _) (fun _ _ kk => ⟨kk.1, fr_trans (fr_trans (fr_trans (fr_trans (fr_trans (fr_trans p w37) w39) w44) w48) w51) kk.2⟩) ((IH m hm).1 _ _ _ _ _ _ _ lv l0 l1 l2 l3 l4 l5 l6 l7))), fun _ => (fun m hm => ck_mono ((IH m hm).2 _ _ _ _) (fun _ _ ⟨hx, w58⟩ => ⟨hx, (fun m hm => (fun lv l0 l1 l2 l3 l4 l5 l6 l7 => vt_mono (Nat.le_refl _) (fun _ _ kk => ⟨kk.1, fr_trans (fr_trans (fr_trans (fr_trans (fr_trans (fr_trans (fr_trans p w37) w39) w44) w48) w51) w58) kk.2⟩) ((IH m hm).1 _ _ _ _ _ _ _ lv l0 l1 l2 l3 l4 l5 l6 l7)))⟩))⟩)⟩))⟩))⟩))⟩⟩))⟩)), fun _ => (fun m hm => (fun lv l0 l1 l2 l3 l4 l5 l6 l7 => vt_mono (Nat.le_refl _) (fun _ _ kk => ⟨kk.1, fr_trans p kk.2⟩) ((IH m hm).1 _ _ _ _ _ _ _ lv l0 l1 l2 l3 l4 l5 l6 l7)))⟩⟩), fun _ => ⟨fun _ => (fun m hm => ck_mono ((fa_Draft_put_69 m) _ _ _) (fun _ _ ⟨hx, w64⟩ => ⟨hx, (fun m hm => ck_mono ((fa_Search_canStay_79 m).2 _ _) (fun _ _ ⟨⟨x, hx⟩, w66⟩ => ⟨x, hx, ⟨fun _ => (fun m hm => (fun lv l0 l1 l2 l3 l4 l5 l6 l7 => vt_mono (Nat.le_refl _) (fun _ _ kk => ⟨kk.1, fr_trans (fr_trans (fr_trans p w64) w66) kk.2⟩) ((IH m hm).1 _ _ _ _ _ _ _ lv l0 l1 l2 l3 l4 l5 l6 l7))), fun _ => (fun m hm => ck_mono ((fa_Search_gainOf_79 m).2 _ _) (fun _ _ ⟨⟨x, hx⟩, w71⟩ => ⟨x, hx, (fun m hm => ck_mono ((fa_Draft_brought_69 m).2.2 _ _) (fun _ _ ⟨⟨x, hx⟩, w75⟩ => ⟨x, hx, (fun m hm => ck_mono ((fa_Draft_hope_69 m).2 _ _) (fun _ _ ⟨⟨x, hx⟩, w78⟩ => ⟨x, hx, (fun _ => ⟨fun _ => (fun m hm => (fun lv l0 l1 l2 l3 l4 l5 l6 l7 => vt_mono (Nat.le_refl _) (fun _ _ kk => ⟨kk.1, fr_trans (fr_trans (fr_trans (fr_trans (fr_trans (fr_trans p w64) w66) w71) w75) w78) kk.2⟩) ((IH m hm).1 _ _ _ _ _ _ _ lv l0 l1 l2 l3 l4 l5 l6 l7))), fun _ => (fun m hm => ck_mono ((IH m hm).2 _ _ _ _) (fun _ _ ⟨hx, w85⟩ => ⟨hx, (fun m hm => (fun lv l0 l1 l2 l3 l4 l5 l6 l7 => vt_mono (Nat.le_refl _) (fun _ _ kk => ⟨kk.1, fr_trans (fr_trans (fr_trans (fr_trans (fr_trans (fr_trans (fr_trans p w64) w66) w71) w75) w78) w85) kk.2⟩) ((IH m hm).1 _ _ _ _ _ _ _ lv l0 l1 l2 l3 l4 l5 l6 l7)))⟩))⟩)⟩))⟩))⟩))⟩⟩))⟩)), fun _ => (fun m hm => (fun lv l0 l1 l2 l3 l4 l5 l6 l7 => vt_mono (Nat.le_refl _) (fun _ _ kk => ⟨kk.1, fr_trans p kk.2⟩) ((IH m hm).1 _ _ _ _ _ _ _ lv l0 l1 l2 l3 l4 l5 l6 l7)))⟩⟩⟩)
    have hdE : (∀ (H : fl_H) (a1 : Int) (a2 : Int) (a3 : Int), ck (cm_pg X xs) N cm_m63 [.index 79, fl_t a1, fl_t a2, fl_t a3] H (fpV sU H)) := fun H a1 a2 a3 => ve_Search_decide_79 (have p := fr_refl sU H
      (fun m hm => ck_mono ((fa_Draft_goods_69 m) _) (fun _ _ ⟨⟨x, hx⟩, w2⟩ => ⟨x, hx, ⟨fun _ => ⟨fun _ => (fun lv l0 l1 l2 l3 l4 l5 l6 l7 => vt_mono (Nat.le_refl _) (fun _ _ kk => ⟨kk.1, fr_trans (fr_trans p w2) kk.2⟩) (hdSearch_decide_79_64 _ _ _ _ _ _ _ lv l0 l1 l2 l3 l4 l5 l6 l7)), fun _ => (fun lv l0 l1 l2 l3 l4 l5 l6 l7 => vt_mono (Nat.le_refl _) (fun _ _ kk => ⟨kk.1, fr_trans (fr_trans p w2) kk.2⟩) (hdSearch_decide_79_64 _ _ _ _ _ _ _ lv l0 l1 l2 l3 l4 l5 l6 l7))⟩, fun _ => (fun m hm => ck_mono ((fa_Draft_brought_69 m).2.2 _ _) (fun _ _ ⟨⟨x, hx⟩, w9⟩ => ⟨x, hx, (fun m hm => ck_mono ((fa_Search_keep_79 m) _ _) (fun _ _ ⟨hx, w12⟩ => ⟨hx, ⟨rfl, (fr_trans (fr_trans (fr_trans p w2) w9) w12)⟩⟩))⟩))⟩⟩)))
    exact ⟨hdSearch_decide_79_64, hdE⟩

theorem fa_Search_seek_79 {X : Term} {xs : List Int32} (N : Nat) : (∀ (H : fl_H) (a1 : Int) (a2 : Int) (a3 : Int), ck (cm_pg X xs) N cm_m60 [.index 79, fl_t a1, fl_t a2, fl_t a3] H (fpI sU H)) := by
  induction N using Nat.strongRecOn with
  | ind N IH =>
    have hdE : (∀ (H : fl_H) (a1 : Int) (a2 : Int) (a3 : Int), ck (cm_pg X xs) N cm_m60 [.index 79, fl_t a1, fl_t a2, fl_t a3] H (fpI sU H)) := fun H a1 a2 a3 => ve_Search_seek_79 (have p := fr_refl sU H
      (fun H1 e2 => (fun H3 e4 => (fun H5 e6 => (fun m hm => ck_mono ((fa_Search_sortBonds_79 m).2.2.2.2 _) (fun _ _ ⟨hx, w8⟩ => ⟨hx, (fun m hm => ck_mono ((fa_Search_decide_79 m).2 _ _ _ _) (fun _ _ ⟨hx, w10⟩ => ⟨hx, ⟨⟨_, rfl⟩, (fr_trans (fr_trans (fr_up (fr_up (fr_up p (by intros; rfl) e2) (by intros; rfl) e4) (by intros; rfl) e6) w8) w10)⟩⟩))⟩))))))
    exact hdE

theorem fa_Answer_keep_88_81 {X : Term} {xs : List Int32} (N : Nat) : (∀ (H : fl_H) (a2 : Int) (a3 : Int), ck (cm_pg X xs) N cm_m1 [.index 88, .index 81, fl_t a2, fl_t a3] H (fpV sU H)) := by
  induction N using Nat.strongRecOn with
  | ind N IH =>
    have hdE : (∀ (H : fl_H) (a2 : Int) (a3 : Int), ck (cm_pg X xs) N cm_m1 [.index 88, .index 81, fl_t a2, fl_t a3] H (fpV sU H)) := fun H a2 a3 => ve_Answer_keep_88_81 (have p := fr_refl sU H
      (fun H1 e2 => (fun H3 e4 => (fun H5 e6 => (fun H7 e8 => ⟨rfl, (fr_up (fr_up (fr_up (fr_cp p (by intros; rfl) e2) (by intros; rfl) e4) (by intros; rfl) e6) (by intros; rfl) e8)⟩)))))
    exact hdE

theorem fa_GoodsBook_findBest_0 {X : Term} {xs : List Int32} (N : Nat) : (∀ (H : fl_H) (a1 : Int) (a2 : Int), ck (cm_pg X xs) N cm_m144 [.index 0, fl_t a1, fl_t a2] H (fpI sU H)) := by
  induction N using Nat.strongRecOn with
  | ind N IH =>
    have hdE : (∀ (H : fl_H) (a1 : Int) (a2 : Int), ck (cm_pg X xs) N cm_m144 [.index 0, fl_t a1, fl_t a2] H (fpI sU H)) := fun H a1 a2 => ve_GoodsBook_findBest_0 (have p := fr_refl sU H
      ⟨fun _ => (fun m hm => ck_mono ((fa_Draft_begin_69 m).2 _ _ _) (fun _ _ ⟨hx, w4⟩ => ⟨hx, (fun m hm => ck_mono ((fa_Search_climb_79 m).2.2 _) (fun _ _ ⟨⟨x, hx⟩, w6⟩ => ⟨x, hx, (fun m hm => ck_mono ((fa_Draft_begin_69 m).2 _ _ _) (fun _ _ ⟨hx, w9⟩ => ⟨hx, (fun m hm => ck_mono ((fa_Search_seek_79 m) _ _ _ _) (fun _ _ ⟨⟨x, hx⟩, w11⟩ => ⟨x, hx, ⟨⟨_, rfl⟩, (fr_trans (fr_trans (fr_trans (fr_trans p w4) w6) w9) w11)⟩⟩))⟩))⟩))⟩)), fun _ => ⟨fun _ => (fun m hm => ck_mono ((fa_Draft_begin_69 m).2 _ _ _) (fun _ _ ⟨hx, w17⟩ => ⟨hx, (fun m hm => ck_mono ((fa_Search_climb_79 m).2.2 _) (fun _ _ ⟨⟨x, hx⟩, w19⟩ => ⟨x, hx, (fun m hm => ck_mono ((fa_Draft_begin_69 m).2 _ _ _) (fun _ _ ⟨hx, w22⟩ => ⟨hx, (fun m hm => ck_mono ((fa_Search_seek_79 m) _ _ _ _) (fun _ _ ⟨⟨x, hx⟩, w24⟩ => ⟨x, hx, ⟨⟨_, rfl⟩, (fr_trans (fr_trans (fr_trans (fr_trans p w17) w19) w22) w24)⟩⟩))⟩))⟩))⟩)), fun _ => ⟨fun _ => (fun m hm => ck_mono ((fa_Draft_begin_69 m).2 _ _ _) (fun _ _ ⟨hx, w30⟩ => ⟨hx, (fun m hm => ck_mono ((fa_Search_climb_79 m).2.2 _) (fun _ _ ⟨⟨x, hx⟩, w32⟩ => ⟨x, hx, (fun m hm => ck_mono ((fa_Draft_begin_69 m).2 _ _ _) (fun _ _ ⟨hx, w35⟩ => ⟨hx, (fun m hm => ck_mono ((fa_Search_seek_79 m) _ _ _ _) (fun _ _ ⟨⟨x, hx⟩, w37⟩ => ⟨x, hx, (fun m hm => ck_mono ((fa_Answer_keep_88_81 m) _ _ _) (fun _ _ ⟨hx, w41⟩ => ⟨hx, ⟨⟨_, rfl⟩, (fr_trans (fr_trans (fr_trans (fr_trans (fr_trans p w30) w32) w35) w37) w41)⟩⟩))⟩))⟩))⟩))⟩)), fun _ => ⟨⟨_, rfl⟩, p⟩⟩⟩⟩)
    exact hdE

theorem fa_Answer_tell_88 {X : Term} {xs : List Int32} (N : Nat) : (∀ (H : fl_H) (a1 : Int), ck (cm_pg X xs) N cm_m2 [.index 88, fl_t a1] H (fpI sU H)) := by
  induction N using Nat.strongRecOn with
  | ind N IH =>
    have hdE : (∀ (H : fl_H) (a1 : Int), ck (cm_pg X xs) N cm_m2 [.index 88, fl_t a1] H (fpI sU H)) := fun H a1 => ve_Answer_tell_88 (have p := fr_refl sU H
      ⟨fun _ => ⟨⟨_, rfl⟩, p⟩, fun _ => ⟨fun _ => (fun _ => ⟨⟨_, rfl⟩, p⟩), fun _ => ⟨⟨_, rfl⟩, p⟩⟩⟩)
    exact hdE

theorem fa_GoodsBook_best_0 {X : Term} {xs : List Int32} (N : Nat) : (∀ (H : fl_H) (a1 : Int), ck (cm_pg X xs) N cm_m119 [.index 0, fl_t a1] H (fpI sU H)) := by
  induction N using Nat.strongRecOn with
  | ind N IH =>
    have hdE : (∀ (H : fl_H) (a1 : Int), ck (cm_pg X xs) N cm_m119 [.index 0, fl_t a1] H (fpI sU H)) := fun H a1 => ve_GoodsBook_best_0 (have p := fr_refl sU H
      ⟨fun _ => (fun m hm => ck_mono ((fa_GoodsBook_findBest_0 m) _ _ _) (fun _ _ ⟨⟨x, hx⟩, w3⟩ => ⟨x, hx, (fun m hm => ck_mono ((fa_Answer_tell_88 m) _ _) (fun _ _ ⟨⟨x, hx⟩, w6⟩ => ⟨x, hx, ⟨⟨_, rfl⟩, (fr_trans (fr_trans p w3) w6)⟩⟩))⟩)), fun _ => ⟨⟨_, rfl⟩, p⟩⟩)
    exact hdE

theorem fa_Sack_taken_85 {X : Term} {xs : List Int32} (N : Nat) : (∀ (H : fl_H) (a1 : Int) (a2 : Int) (a3 : Int) (a4 : Int) (a5 : Int) (a6 : Int), hd_Sack_taken_85_26 (cm_pg X xs) N H a1 a2 a3 a4 a5 a6 (fpI sU H)) ∧ (∀ (H : fl_H) (a1 : Int) (a2 : Int) (a3 : Int), hd_Sack_taken_85_4 (cm_pg X xs) N H a1 a2 a3 (fpI sU H)) ∧ (∀ (H : fl_H) (a1 : Int), ck (cm_pg X xs) N cm_m54 [.index 85, fl_t a1] H (fpI sU H)) := by
  induction N using Nat.strongRecOn with
  | ind N IH =>
    have hdSack_taken_85_26 : (∀ (H : fl_H) (a1 : Int) (a2 : Int) (a3 : Int) (a4 : Int) (a5 : Int) (a6 : Int), hd_Sack_taken_85_26 (cm_pg X xs) N H a1 a2 a3 a4 a5 a6 (fpI sU H)) := fun H a1 a2 a3 a4 a5 a6 => vh_Sack_taken_85_26 (have p := fr_refl sU H
      ⟨fun _ => (fun m hm => (fun lv l0 l1 l2 l3 => vt_mono (Nat.le_refl _) (fun _ _ kk => ⟨kk.1, fr_trans p kk.2⟩) ((IH m hm).2.1 _ _ _ _ lv l0 l1 l2 l3))), fun _ => (fun m hm => ck_mono ((fa_Goods_area_3 m) _ _) (fun _ _ ⟨⟨x, hx⟩, w5⟩ => ⟨x, hx, (fun _ => ⟨fun _ => (fun m hm => (fun lv l0 l1 l2 l3 l4 l5 l6 => vt_mono (Nat.le_refl _) (fun _ _ kk => ⟨kk.1, fr_trans (fr_trans p w5) kk.2⟩) ((IH m hm).1 _ _ _ _ _ _ _ lv l0 l1 l2 l3 l4 l5 l6))), fun _ => ⟨fun _ => ⟨fun _ => (fun m hm => (fun lv l0 l1 l2 l3 l4 l5 l6 => vt_mono (Nat.le_refl _) (fun _ _ kk => ⟨kk.1, fr_trans (fr_trans p w5) kk.2⟩) ((IH m hm).1 _ _ _ _ _ _ _ lv l0 l1 l2 l3 l4 l5 l6))), fun _ => (fun m hm => (fun lv l0 l1 l2 l3 l4 l5 l6 => vt_mono (Nat.le_refl _) (fun _ _ kk => ⟨kk.1, fr_trans (fr_trans p w5) kk.2⟩) ((IH m hm).1 _ _ _ _ _ _ _ lv l0 l1 l2 l3 l4 l5 l6)))⟩, fun _ => (fun m hm => (fun lv l0 l1 l2 l3 l4 l5 l6 => vt_mono (Nat.le_refl _) (fun _ _ kk => ⟨kk.1, fr_trans (fr_trans p w5) kk.2⟩) ((IH m hm).1 _ _ _ _ _ _ _ lv l0 l1 l2 l3 l4 l5 l6)))⟩⟩)⟩))⟩)
    have hdSack_taken_85_4 : (∀ (H : fl_H) (a1 : Int) (a2 : Int) (a3 : Int), hd_Sack_taken_85_4 (cm_pg X xs) N H a1 a2 a3 (fpI sU H)) := fun H a1 a2 a3 => vh_Sack_taken_85_4 (have p := fr_refl sU H
      ⟨fun _ => ⟨⟨_, rfl⟩, p⟩, fun _ => (fun lv l0 l1 l2 l3 l4 l5 l6 => vt_mono (Nat.le_refl _) (fun _ _ kk => ⟨kk.1, fr_trans p kk.2⟩) (hdSack_taken_85_26 _ _ _ _ _ _ _ lv l0 l1 l2 l3 l4 l5 l6))⟩)
    have hdE : (∀ (H : fl_H) (a1 : Int), ck (cm_pg X xs) N cm_m54 [.index 85, fl_t a1] H (fpI sU H)) := fun H a1 => ve_Sack_taken_85 (have p := fr_refl sU H
      (fun lv l0 l1 l2 l3 => vt_mono (Nat.le_refl _) (fun _ _ kk => ⟨kk.1, fr_trans p kk.2⟩) (hdSack_taken_85_4 _ _ _ _ lv l0 l1 l2 l3)))
    exact ⟨hdSack_taken_85_26, hdSack_taken_85_4, hdE⟩

theorem fa_Sack_price_85 {X : Term} {xs : List Int32} (N : Nat) : (∀ (H : fl_H) (a2 : Int) (a3 : Int) (a4 : Int), hd_Sack_price_85_13 (cm_pg X xs) N H a2 a3 a4 (fpI sU H)) ∧ (∀ (H : fl_H) (a1 : Int), ck (cm_pg X xs) N cm_m53 [.index 85, fl_t a1] H (fpI sU H)) := by
  induction N using Nat.strongRecOn with
  | ind N IH =>
    have hdSack_price_85_13 : (∀ (H : fl_H) (a2 : Int) (a3 : Int) (a4 : Int), hd_Sack_price_85_13 (cm_pg X xs) N H a2 a3 a4 (fpI sU H)) := fun H a2 a3 a4 => vh_Sack_price_85_13 (have p := fr_refl sU H
      ⟨fun _ => ⟨⟨_, rfl⟩, p⟩, fun _ => ⟨fun _ => ⟨⟨_, rfl⟩, p⟩, fun _ => (fun m hm => ck_mono ((fa_Sack_taken_85 m).2.2 _ _) (fun _ _ ⟨⟨x, hx⟩, w5⟩ => ⟨x, hx, ⟨fun _ => (fun m hm => (fun lv l0 l1 l2 l3 => vt_mono (Nat.le_refl _) (fun _ _ kk => ⟨kk.1, fr_trans (fr_trans p w5) kk.2⟩) ((IH m hm).1 _ _ _ _ lv l0 l1 l2 l3))), fun _ => (fun m hm => (fun lv l0 l1 l2 l3 => vt_mono (Nat.le_refl _) (fun _ _ kk => ⟨kk.1, fr_trans (fr_trans p w5) kk.2⟩) ((IH m hm).1 _ _ _ _ lv l0 l1 l2 l3)))⟩⟩))⟩⟩)
    have hdE : (∀ (H : fl_H) (a1 : Int), ck (cm_pg X xs) N cm_m53 [.index 85, fl_t a1] H (fpI sU H)) := fun H a1 => ve_Sack_price_85 (have p := fr_refl sU H
      (fun H1 e2 => (fun lv l0 l1 l2 l3 => vt_mono (Nat.le_refl _) (fun _ _ kk => ⟨kk.1, fr_trans (fr_up p (by intros; rfl) e2) kk.2⟩) (hdSack_price_85_13 _ _ _ _ lv l0 l1 l2 l3))))
    exact ⟨hdSack_price_85_13, hdE⟩

theorem fa_Arrays_fill_86 {X : Term} {xs : List Int32} (N : Nat) : (∀ (H : fl_H) (a1 : Int) (a2 : Int) (a3 : Int), hd_Arrays_fill_86_5 (cm_pg X xs) N H a1 a2 a3 (fpV sU H)) ∧ (∀ (H : fl_H) (a1 : Int), ck (cm_pg X xs) N cm_m249 [.index 86, fl_t a1] H (fpV sU H)) := by
  induction N using Nat.strongRecOn with
  | ind N IH =>
    have hdArrays_fill_86_5 : (∀ (H : fl_H) (a1 : Int) (a2 : Int) (a3 : Int), hd_Arrays_fill_86_5 (cm_pg X xs) N H a1 a2 a3 (fpV sU H)) := fun H a1 a2 a3 => vh_Arrays_fill_86_5 (have p := fr_refl sU H
      ⟨fun _ => ⟨rfl, p⟩, fun _ => (fun _ H2 e3 => (fun m hm => (fun lv l0 l1 l2 l3 => vt_mono (Nat.le_refl _) (fun _ _ kk => ⟨kk.1, fr_trans (fr_up p (by intros; rfl) e3) kk.2⟩) ((IH m hm).1 _ _ _ _ lv l0 l1 l2 l3))))⟩)
    have hdE : (∀ (H : fl_H) (a1 : Int), ck (cm_pg X xs) N cm_m249 [.index 86, fl_t a1] H (fpV sU H)) := fun H a1 => ve_Arrays_fill_86 (have p := fr_refl sU H
      (fun lv l0 l1 l2 l3 => vt_mono (Nat.le_refl _) (fun _ _ kk => ⟨kk.1, fr_trans p kk.2⟩) (hdArrays_fill_86_5 _ _ _ _ lv l0 l1 l2 l3)))
    exact ⟨hdArrays_fill_86_5, hdE⟩

theorem fa_Sack_with_85 {X : Term} {xs : List Int32} (N : Nat) : (∀ (H : fl_H) (a1 : Int) (a2 : Int) (a3 : Int), ck (cm_pg X xs) N cm_m52 [.index 85, fl_t a1, fl_t a2, fl_t a3] H (fpI sU H)) := by
  induction N using Nat.strongRecOn with
  | ind N IH =>
    have hdE : (∀ (H : fl_H) (a1 : Int) (a2 : Int) (a3 : Int), ck (cm_pg X xs) N cm_m52 [.index 85, fl_t a1, fl_t a2, fl_t a3] H (fpI sU H)) := fun H a1 a2 a3 => ve_Sack_with_85 (have p := fr_refl sU H
      ⟨fun _ => (fun _ => ⟨⟨_, rfl⟩, p⟩), fun _ => (fun m hm => ck_mono ((fa_Goods_area_3 m) _ _) (fun _ _ ⟨⟨x, hx⟩, w4⟩ => ⟨x, hx, ⟨fun _ => (fun _ => (fun _ => ⟨⟨_, rfl⟩, (fr_trans p w4)⟩)), fun _ => ⟨⟨_, rfl⟩, (fr_trans p w4)⟩⟩⟩))⟩)
    exact hdE

theorem fa_Sack_fill_85 {X : Term} {xs : List Int32} (N : Nat) : (∀ (H : fl_H) (a2 : Int) (a3 : Int) (a4 : Int) (a5 : Int), hd_Sack_fill_85_41 (cm_pg X xs) N H a2 a3 a4 a5 (fpV sU H)) ∧ (∀ (H : fl_H) (a2 : Int) (a3 : Int), hd_Sack_fill_85_29 (cm_pg X xs) N H a2 a3 (fpV sU H)) ∧ (∀ (H : fl_H) (a2 : Int), hd_Sack_fill_85_23 (cm_pg X xs) N H a2 (fpV sU H)) ∧ (∀ (H : fl_H) (a1 : Int), ck (cm_pg X xs) N cm_m49 [.index 85, fl_t a1] H (fpV sU H)) := by
  induction N using Nat.strongRecOn with
  | ind N IH =>
    have hdSack_fill_85_41 : (∀ (H : fl_H) (a2 : Int) (a3 : Int) (a4 : Int) (a5 : Int), hd_Sack_fill_85_41 (cm_pg X xs) N H a2 a3 a4 a5 (fpV sU H)) := fun H a2 a3 a4 a5 => vh_Sack_fill_85_41 (have p := fr_refl sU H
      ⟨fun _ => (fun _ H2 e3 => (fun m hm => (fun lv l0 l1 l2 => vt_mono (Nat.le_refl _) (fun _ _ kk => ⟨kk.1, fr_trans (fr_up p (by intros; rfl) e3) kk.2⟩) ((IH m hm).2.1 _ _ _ lv l0 l1 l2)))), fun _ => (fun m hm => ck_mono ((fa_Sack_with_85 m) _ _ _ _) (fun _ _ ⟨⟨x, hx⟩, w7⟩ => ⟨x, hx, (fun m hm => (fun lv l0 l1 l2 l3 l4 => vt_mono (Nat.le_refl _) (fun _ _ kk => ⟨kk.1, fr_trans (fr_trans p w7) kk.2⟩) ((IH m hm).1 _ _ _ _ _ lv l0 l1 l2 l3 l4)))⟩))⟩)
    have hdSack_fill_85_29 : (∀ (H : fl_H) (a2 : Int) (a3 : Int), hd_Sack_fill_85_29 (cm_pg X xs) N H a2 a3 (fpV sU H)) := fun H a2 a3 => vh_Sack_fill_85_29 (have p := fr_refl sU H
      ⟨fun _ => (fun m hm => (fun lv l0 l1 => vt_mono (Nat.le_refl _) (fun _ _ kk => ⟨kk.1, fr_trans p kk.2⟩) ((IH m hm).2.2.1 _ _ lv l0 l1))), fun _ => (fun lv l0 l1 l2 l3 l4 => vt_mono (Nat.le_refl _) (fun _ _ kk => ⟨kk.1, fr_trans p kk.2⟩) (hdSack_fill_85_41 _ _ _ _ _ lv l0 l1 l2 l3 l4))⟩)
    have hdSack_fill_85_23 : (∀ (H : fl_H) (a2 : Int), hd_Sack_fill_85_23 (cm_pg X xs) N H a2 (fpV sU H)) := fun H a2 => vh_Sack_fill_85_23 (have p := fr_refl sU H
      ⟨fun _ => ⟨rfl, p⟩, fun _ => (fun lv l0 l1 l2 => vt_mono (Nat.le_refl _) (fun _ _ kk => ⟨kk.1, fr_trans p kk.2⟩) (hdSack_fill_85_29 _ _ _ lv l0 l1 l2))⟩)
    have hdE : (∀ (H : fl_H) (a1 : Int), ck (cm_pg X xs) N cm_m49 [.index 85, fl_t a1] H (fpV sU H)) := fun H a1 => ve_Sack_fill_85 (have p := fr_refl sU H
      (fun H1 e2 => (fun m hm => ck_mono ((fa_Arrays_fill_86 m).2 _ _) (fun _ _ ⟨hx, w4⟩ => ⟨hx, (fun lv l0 l1 => vt_mono (Nat.le_refl _) (fun _ _ kk => ⟨kk.1, fr_trans (fr_trans (fr_up p (by intros; rfl) e2) w4) kk.2⟩) (hdSack_fill_85_23 _ _ lv l0 l1))⟩))))
    exact ⟨hdSack_fill_85_41, hdSack_fill_85_29, hdSack_fill_85_23, hdE⟩

theorem fa_Sack_most_85 {X : Term} {xs : List Int32} (N : Nat) : (∀ (H : fl_H), ck (cm_pg X xs) N cm_m50 [.index 85] H (fpI sU H)) := by
  induction N using Nat.strongRecOn with
  | ind N IH =>
    have hdE : (∀ (H : fl_H), ck (cm_pg X xs) N cm_m50 [.index 85] H (fpI sU H)) := fun H => ve_Sack_most_85 (have p := fr_refl sU H
      ⟨⟨_, rfl⟩, p⟩)
    exact hdE

theorem fa_Sack_picked_85 {X : Term} {xs : List Int32} (N : Nat) : (∀ (H : fl_H) (a1 : Int) (a2 : Int) (a3 : Int) (a4 : Int), hd_Sack_picked_85_19 (cm_pg X xs) N H a1 a2 a3 a4 (fpI sU H)) ∧ (∀ (H : fl_H) (a1 : Int) (a2 : Int) (a3 : Int), hd_Sack_picked_85_5 (cm_pg X xs) N H a1 a2 a3 (fpI sU H)) ∧ (∀ (H : fl_H) (a1 : Int), ck (cm_pg X xs) N cm_m51 [.index 85, fl_t a1] H (fpI sU H)) := by
  induction N using Nat.strongRecOn with
  | ind N IH =>
    have hdSack_picked_85_19 : (∀ (H : fl_H) (a1 : Int) (a2 : Int) (a3 : Int) (a4 : Int), hd_Sack_picked_85_19 (cm_pg X xs) N H a1 a2 a3 a4 (fpI sU H)) := fun H a1 a2 a3 a4 => vh_Sack_picked_85_19 (have p := fr_refl sU H
      ⟨fun _ => ⟨fun _ => ⟨⟨_, rfl⟩, p⟩, fun _ => ⟨fun _ => (fun m hm => (fun lv l0 l1 l2 l3 => vt_mono (Nat.le_refl _) (fun _ _ kk => ⟨kk.1, fr_trans p kk.2⟩) ((IH m hm).2.1 _ _ _ _ lv l0 l1 l2 l3))), fun _ => (fun m hm => ck_mono ((fa_Goods_area_3 m) _ _) (fun _ _ ⟨⟨x, hx⟩, w6⟩ => ⟨x, hx, (fun m hm => (fun lv l0 l1 l2 l3 => vt_mono (Nat.le_refl _) (fun _ _ kk => ⟨kk.1, fr_trans (fr_trans p w6) kk.2⟩) ((IH m hm).2.1 _ _ _ _ lv l0 l1 l2 l3)))⟩))⟩⟩, fun _ => (fun m hm => ck_mono ((fa_Sack_with_85 m) _ _ _ _) (fun _ _ ⟨⟨x, hx⟩, w11⟩ => ⟨x, hx, (fun _ => ⟨fun _ => ⟨fun _ => ⟨⟨_, rfl⟩, (fr_trans p w11)⟩, fun _ => ⟨fun _ => (fun m hm => (fun lv l0 l1 l2 l3 => vt_mono (Nat.le_refl _) (fun _ _ kk => ⟨kk.1, fr_trans (fr_trans p w11) kk.2⟩) ((IH m hm).2.1 _ _ _ _ lv l0 l1 l2 l3))), fun _ => (fun m hm => ck_mono ((fa_Goods_area_3 m) _ _) (fun _ _ ⟨⟨x, hx⟩, w19⟩ => ⟨x, hx, (fun m hm => (fun lv l0 l1 l2 l3 => vt_mono (Nat.le_refl _) (fun _ _ kk => ⟨kk.1, fr_trans (fr_trans (fr_trans p w11) w19) kk.2⟩) ((IH m hm).2.1 _ _ _ _ lv l0 l1 l2 l3)))⟩))⟩⟩, fun _ => (fun m hm => (fun lv l0 l1 l2 l3 l4 => vt_mono (Nat.le_refl _) (fun _ _ kk => ⟨kk.1, fr_trans (fr_trans p w11) kk.2⟩) ((IH m hm).1 _ _ _ _ _ lv l0 l1 l2 l3 l4)))⟩)⟩))⟩)
    have hdSack_picked_85_5 : (∀ (H : fl_H) (a1 : Int) (a2 : Int) (a3 : Int), hd_Sack_picked_85_5 (cm_pg X xs) N H a1 a2 a3 (fpI sU H)) := fun H a1 a2 a3 => vh_Sack_picked_85_5 (have p := fr_refl sU H
      ⟨fun _ => ⟨⟨_, rfl⟩, p⟩, fun _ => (fun lv l0 l1 l2 l3 l4 => vt_mono (Nat.le_refl _) (fun _ _ kk => ⟨kk.1, fr_trans p kk.2⟩) (hdSack_picked_85_19 _ _ _ _ _ lv l0 l1 l2 l3 l4))⟩)
    have hdE : (∀ (H : fl_H) (a1 : Int), ck (cm_pg X xs) N cm_m51 [.index 85, fl_t a1] H (fpI sU H)) := fun H a1 => ve_Sack_picked_85 (have p := fr_refl sU H
      (fun lv l0 l1 l2 l3 => vt_mono (Nat.le_refl _) (fun _ _ kk => ⟨kk.1, fr_trans p kk.2⟩) (hdSack_picked_85_5 _ _ _ _ lv l0 l1 l2 l3)))
    exact ⟨hdSack_picked_85_19, hdSack_picked_85_5, hdE⟩

theorem fa_GoodsBook_squares_0 {X : Term} {xs : List Int32} (N : Nat) : (∀ (H : fl_H) (a1 : Int) (a2 : Int), ck (cm_pg X xs) N cm_m121 [.index 0, fl_t a1, fl_t a2] H (fpI sU H)) := by
  induction N using Nat.strongRecOn with
  | ind N IH =>
    have hdE : (∀ (H : fl_H) (a1 : Int) (a2 : Int), ck (cm_pg X xs) N cm_m121 [.index 0, fl_t a1, fl_t a2] H (fpI sU H)) := fun H a1 a2 => ve_GoodsBook_squares_0 (have p := fr_refl sU H
      (fun m hm => ck_mono ((fa_GoodsBook_isPage_0 m) _ _) (fun _ _ ⟨⟨x, hx⟩, w2⟩ => ⟨x, hx, ⟨fun _ => ⟨⟨_, rfl⟩, (fr_trans p w2)⟩, fun _ => ⟨fun _ => ⟨fun _ => (fun _ => (fun m hm => ck_mono ((fa_Sack_price_85 m).2 _ _) (fun _ _ ⟨⟨x, hx⟩, w9⟩ => ⟨x, hx, ⟨⟨_, rfl⟩, (fr_trans (fr_trans p w2) w9)⟩⟩))), fun _ => (fun _ => (fun m hm => ck_mono ((fa_Sack_fill_85 m).2.2.2 _ _) (fun _ _ ⟨hx, w13⟩ => ⟨hx, ⟨fun _ => (fun m hm => ck_mono ((fa_Sack_most_85 m) _) (fun _ _ ⟨⟨x, hx⟩, w16⟩ => ⟨x, hx, ⟨⟨_, rfl⟩, (fr_trans (fr_trans (fr_trans p w2) w13) w16)⟩⟩)), fun _ => (fun m hm => ck_mono ((fa_Sack_picked_85 m).2.2 _ _) (fun _ _ ⟨⟨x, hx⟩, w19⟩ => ⟨x, hx, ⟨⟨_, rfl⟩, (fr_trans (fr_trans (fr_trans p w2) w13) w19)⟩⟩))⟩⟩)))⟩, fun _ => ⟨⟨_, rfl⟩, (fr_trans p w2)⟩⟩⟩⟩)))
    exact hdE

theorem fa_Bonds_sumAboveZero_9 {X : Term} {xs : List Int32} (N : Nat) : (∀ (H : fl_H) (a1 : Int) (a2 : Int), hd_Bonds_sumAboveZero_9_4 (cm_pg X xs) N H a1 a2 (fpI sU H)) ∧ (∀ (H : fl_H), ck (cm_pg X xs) N cm_m5 [.index 9] H (fpI sU H)) := by
  induction N using Nat.strongRecOn with
  | ind N IH =>
    have hdBonds_sumAboveZero_9_4 : (∀ (H : fl_H) (a1 : Int) (a2 : Int), hd_Bonds_sumAboveZero_9_4 (cm_pg X xs) N H a1 a2 (fpI sU H)) := fun H a1 a2 => vh_Bonds_sumAboveZero_9_4 (have p := fr_refl sU H
      ⟨fun _ => ⟨⟨_, rfl⟩, p⟩, fun _ => (fun _ => (fun m hm => (fun lv l0 l1 l2 => vt_mono (Nat.le_refl _) (fun _ _ kk => ⟨kk.1, fr_trans p kk.2⟩) ((IH m hm).1 _ _ _ lv l0 l1 l2))))⟩)
    have hdE : (∀ (H : fl_H), ck (cm_pg X xs) N cm_m5 [.index 9] H (fpI sU H)) := fun H => ve_Bonds_sumAboveZero_9 (have p := fr_refl sU H
      (fun lv l0 l1 l2 => vt_mono (Nat.le_refl _) (fun _ _ kk => ⟨kk.1, fr_trans p kk.2⟩) (hdBonds_sumAboveZero_9_4 _ _ _ lv l0 l1 l2)))
    exact ⟨hdBonds_sumAboveZero_9_4, hdE⟩

theorem fa_GoodsBook_bound_0 {X : Term} {xs : List Int32} (N : Nat) : (∀ (H : fl_H) (a1 : Int) (a2 : Int), hd_GoodsBook_bound_0_25 (cm_pg X xs) N H a1 a2 (fpI sU H)) ∧ (∀ (H : fl_H), ck (cm_pg X xs) N cm_m122 [.index 0] H (fpI sU H)) := by
  induction N using Nat.strongRecOn with
  | ind N IH =>
    have hdGoodsBook_bound_0_25 : (∀ (H : fl_H) (a1 : Int) (a2 : Int), hd_GoodsBook_bound_0_25 (cm_pg X xs) N H a1 a2 (fpI sU H)) := fun H a1 a2 => vh_GoodsBook_bound_0_25 (have p := fr_refl sU H
      ⟨fun _ => ⟨⟨_, rfl⟩, p⟩, fun _ => (fun m hm => ck_mono ((fa_Draft_mostOf_69 m).2.2 _ _ _) (fun _ _ ⟨⟨x, hx⟩, w3⟩ => ⟨x, hx, (fun m hm => (fun lv l0 l1 l2 => vt_mono (Nat.le_refl _) (fun _ _ kk => ⟨kk.1, fr_trans (fr_trans p w3) kk.2⟩) ((IH m hm).1 _ _ _ lv l0 l1 l2)))⟩))⟩)
    have hdE : (∀ (H : fl_H), ck (cm_pg X xs) N cm_m122 [.index 0] H (fpI sU H)) := fun H => ve_GoodsBook_bound_0 (have p := fr_refl sU H
      (fun m hm => ck_mono ((fa_Bonds_sumAboveZero_9 m).2 _) (fun _ _ ⟨⟨x, hx⟩, w2⟩ => ⟨x, hx, (fun m hm => ck_mono ((fa_Draft_begin_69 m).2 _ _ _) (fun _ _ ⟨hx, w5⟩ => ⟨hx, (fun lv l0 l1 l2 => vt_mono (Nat.le_refl _) (fun _ _ kk => ⟨kk.1, fr_trans (fr_trans (fr_trans p w2) w5) kk.2⟩) (hdGoodsBook_bound_0_25 _ _ _ lv l0 l1 l2))⟩))⟩)))
    exact ⟨hdGoodsBook_bound_0_25, hdE⟩

theorem fa_Answer_keep_90_71 {X : Term} {xs : List Int32} (N : Nat) : (∀ (H : fl_H) (a2 : Int) (a3 : Int), ck (cm_pg X xs) N cm_m1 [.index 90, .index 71, fl_t a2, fl_t a3] H (fpV sU H)) := by
  induction N using Nat.strongRecOn with
  | ind N IH =>
    have hdE : (∀ (H : fl_H) (a2 : Int) (a3 : Int), ck (cm_pg X xs) N cm_m1 [.index 90, .index 71, fl_t a2, fl_t a3] H (fpV sU H)) := fun H a2 a3 => ve_Answer_keep_90_71 (have p := fr_refl sU H
      (fun H1 e2 => (fun H3 e4 => (fun H5 e6 => (fun H7 e8 => ⟨rfl, (fr_up (fr_up (fr_up (fr_cp p (by intros; rfl) e2) (by intros; rfl) e4) (by intros; rfl) e6) (by intros; rfl) e8)⟩)))))
    exact hdE

theorem fa_Answer_tell_90 {X : Term} {xs : List Int32} (N : Nat) : (∀ (H : fl_H) (a1 : Int), ck (cm_pg X xs) N cm_m2 [.index 90, fl_t a1] H (fpI sU H)) := by
  induction N using Nat.strongRecOn with
  | ind N IH =>
    have hdE : (∀ (H : fl_H) (a1 : Int), ck (cm_pg X xs) N cm_m2 [.index 90, fl_t a1] H (fpI sU H)) := fun H a1 => ve_Answer_tell_90 (have p := fr_refl sU H
      ⟨fun _ => ⟨⟨_, rfl⟩, p⟩, fun _ => ⟨fun _ => (fun _ => ⟨⟨_, rfl⟩, p⟩), fun _ => ⟨⟨_, rfl⟩, p⟩⟩⟩)
    exact hdE

theorem fa_GoodsBook_steps_0 {X : Term} {xs : List Int32} (N : Nat) : (∀ (H : fl_H) (a1 : Int), ck (cm_pg X xs) N cm_m123 [.index 0, fl_t a1] H (fpI sU H)) := by
  induction N using Nat.strongRecOn with
  | ind N IH =>
    have hdE : (∀ (H : fl_H) (a1 : Int), ck (cm_pg X xs) N cm_m123 [.index 0, fl_t a1] H (fpI sU H)) := fun H a1 => ve_GoodsBook_steps_0 (have p := fr_refl sU H
      ⟨fun _ => ⟨fun _ => (fun m hm => ck_mono ((fa_GoodsBook_drawPlan_0 m) _) (fun _ _ ⟨hx, w4⟩ => ⟨hx, (fun m hm => ck_mono ((fa_Draft_firstBroken_69 m).2 _) (fun _ _ ⟨⟨x, hx⟩, w6⟩ => ⟨x, hx, ⟨fun _ => (fun m hm => ck_mono ((fa_Draft_firstCrowded_69 m).2 _) (fun _ _ ⟨⟨x, hx⟩, w10⟩ => ⟨x, hx, ⟨fun _ => (fun m hm => ck_mono ((fa_Search_climb_79 m).2.2 _) (fun _ _ ⟨⟨x, hx⟩, w14⟩ => ⟨x, hx, (fun m hm => ck_mono ((fa_Answer_keep_90_71 m) _ _ _) (fun _ _ ⟨hx, w17⟩ => ⟨hx, (fun m hm => ck_mono ((fa_Answer_tell_90 m) _ _) (fun _ _ ⟨⟨x, hx⟩, w19⟩ => ⟨x, hx, ⟨⟨_, rfl⟩, (fr_trans (fr_trans (fr_trans (fr_trans (fr_trans (fr_trans p w4) w6) w10) w14) w17) w19)⟩⟩))⟩))⟩)), fun _ => ⟨⟨_, rfl⟩, (fr_trans (fr_trans (fr_trans p w4) w6) w10)⟩⟩⟩)), fun _ => ⟨⟨_, rfl⟩, (fr_trans (fr_trans p w4) w6)⟩⟩⟩))⟩)), fun _ => (fun m hm => ck_mono ((fa_Answer_tell_90 m) _ _) (fun _ _ ⟨⟨x, hx⟩, w22⟩ => ⟨x, hx, ⟨⟨_, rfl⟩, (fr_trans p w22)⟩⟩))⟩, fun _ => ⟨⟨_, rfl⟩, p⟩⟩)
    exact hdE

theorem fa_GoodsBook_more_0 {X : Term} {xs : List Int32} (N : Nat) : (∀ (H : fl_H) (a1 : Int), ck (cm_pg X xs) N cm_m124 [.index 0, fl_t a1] H (fpI sU H)) := by
  induction N using Nat.strongRecOn with
  | ind N IH =>
    have hdE : (∀ (H : fl_H) (a1 : Int), ck (cm_pg X xs) N cm_m124 [.index 0, fl_t a1] H (fpI sU H)) := fun H a1 => ve_GoodsBook_more_0 (have p := fr_refl sU H
      ⟨fun _ => ⟨fun _ => (fun m hm => ck_mono ((fa_GoodsBook_findBest_0 m) _ _ _) (fun _ _ ⟨⟨x, hx⟩, w4⟩ => ⟨x, hx, (fun m hm => ck_mono ((fa_GoodsBook_findBest_0 m) _ _ _) (fun _ _ ⟨⟨x, hx⟩, w7⟩ => ⟨x, hx, ⟨⟨_, rfl⟩, (fr_trans (fr_trans p w4) w7)⟩⟩))⟩)), fun _ => ⟨⟨_, rfl⟩, p⟩⟩, fun _ => ⟨⟨_, rfl⟩, p⟩⟩)
    exact hdE

theorem fa_GoodsBook_less_0 {X : Term} {xs : List Int32} (N : Nat) : (∀ (H : fl_H) (a1 : Int), ck (cm_pg X xs) N cm_m125 [.index 0, fl_t a1] H (fpI sU H)) := by
  induction N using Nat.strongRecOn with
  | ind N IH =>
    have hdE : (∀ (H : fl_H) (a1 : Int), ck (cm_pg X xs) N cm_m125 [.index 0, fl_t a1] H (fpI sU H)) := fun H a1 => ve_GoodsBook_less_0 (have p := fr_refl sU H
      (fun m hm => ck_mono ((fa_GoodsBook_isPage_0 m) _ _) (fun _ _ ⟨⟨x, hx⟩, w2⟩ => ⟨x, hx, ⟨fun _ => ⟨⟨_, rfl⟩, (fr_trans p w2)⟩, fun _ => (fun m hm => ck_mono ((fa_GoodsBook_findBest_0 m) _ _ _) (fun _ _ ⟨⟨x, hx⟩, w6⟩ => ⟨x, hx, (fun m hm => ck_mono ((fa_GoodsBook_findBest_0 m) _ _ _) (fun _ _ ⟨⟨x, hx⟩, w9⟩ => ⟨x, hx, ⟨⟨_, rfl⟩, (fr_trans (fr_trans (fr_trans p w2) w6) w9)⟩⟩))⟩))⟩⟩)))
    exact hdE

theorem fa_GoodsBook_through_0 {X : Term} {xs : List Int32} (N : Nat) : (∀ (H : fl_H) (a1 : Int), ck (cm_pg X xs) N cm_m126 [.index 0, fl_t a1] H (fpI sU H)) := by
  induction N using Nat.strongRecOn with
  | ind N IH =>
    have hdE : (∀ (H : fl_H) (a1 : Int), ck (cm_pg X xs) N cm_m126 [.index 0, fl_t a1] H (fpI sU H)) := fun H a1 => ve_GoodsBook_through_0 (have p := fr_refl sU H
      (fun m hm => ck_mono ((fa_GoodsBook_isGood_0 m) _ _) (fun _ _ ⟨⟨x, hx⟩, w2⟩ => ⟨x, hx, ⟨fun _ => ⟨⟨_, rfl⟩, (fr_trans p w2)⟩, fun _ => (fun _ => ⟨fun _ => ⟨⟨_, rfl⟩, (fr_trans p w2)⟩, fun _ => (fun m hm => ck_mono ((fa_GoodsBook_drawPlan_0 m) _) (fun _ _ ⟨hx, w8⟩ => ⟨hx, (fun m hm => ck_mono ((fa_Draft_amount_69 m).2 _) (fun _ _ ⟨⟨x, hx⟩, w10⟩ => ⟨x, hx, (fun m hm => ck_mono ((fa_Draft_share_69 m) _ _ _) (fun _ _ ⟨⟨x, hx⟩, w13⟩ => ⟨x, hx, (fun m hm => ck_mono ((fa_Draft_put_69 m) _ _ _) (fun _ _ ⟨hx, w16⟩ => ⟨hx, (fun m hm => ck_mono ((fa_Draft_amount_69 m).2 _) (fun _ _ ⟨⟨x, hx⟩, w18⟩ => ⟨x, hx, ⟨⟨_, rfl⟩, (fr_trans (fr_trans (fr_trans (fr_trans (fr_trans (fr_trans p w2) w8) w10) w13) w16) w18)⟩⟩))⟩))⟩))⟩))⟩))⟩)⟩⟩)))
    exact hdE

theorem fa_Answer_tell_92 {X : Term} {xs : List Int32} (N : Nat) : (∀ (H : fl_H) (a1 : Int), ck (cm_pg X xs) N cm_m2 [.index 92, fl_t a1] H (fpI sU H)) := by
  induction N using Nat.strongRecOn with
  | ind N IH =>
    have hdE : (∀ (H : fl_H) (a1 : Int), ck (cm_pg X xs) N cm_m2 [.index 92, fl_t a1] H (fpI sU H)) := fun H a1 => ve_Answer_tell_92 (have p := fr_refl sU H
      ⟨fun _ => ⟨⟨_, rfl⟩, p⟩, fun _ => ⟨fun _ => (fun _ => ⟨⟨_, rfl⟩, p⟩), fun _ => ⟨⟨_, rfl⟩, p⟩⟩⟩)
    exact hdE

theorem fa_Answer_keep_92_81 {X : Term} {xs : List Int32} (N : Nat) : (∀ (H : fl_H) (a2 : Int) (a3 : Int), ck (cm_pg X xs) N cm_m1 [.index 92, .index 81, fl_t a2, fl_t a3] H (fpV sU H)) := by
  induction N using Nat.strongRecOn with
  | ind N IH =>
    have hdE : (∀ (H : fl_H) (a2 : Int) (a3 : Int), ck (cm_pg X xs) N cm_m1 [.index 92, .index 81, fl_t a2, fl_t a3] H (fpV sU H)) := fun H a2 a3 => ve_Answer_keep_92_81 (have p := fr_refl sU H
      (fun H1 e2 => (fun H3 e4 => (fun H5 e6 => (fun H7 e8 => ⟨rfl, (fr_up (fr_up (fr_up (fr_cp p (by intros; rfl) e2) (by intros; rfl) e4) (by intros; rfl) e6) (by intros; rfl) e8)⟩)))))
    exact hdE

theorem fa_GoodsBook_findMended_0 {X : Term} {xs : List Int32} (N : Nat) : (∀ (H : fl_H) (a1 : Int) (a2 : Int), hd_GoodsBook_findMended_0_32 (cm_pg X xs) N H a1 a2 (fpV sU H)) ∧ (∀ (H : fl_H) (a1 : Int), ck (cm_pg X xs) N cm_m145 [.index 0, fl_t a1] H (fpV sU H)) := by
  induction N using Nat.strongRecOn with
  | ind N IH =>
    have hdGoodsBook_findMended_0_32 : (∀ (H : fl_H) (a1 : Int) (a2 : Int), hd_GoodsBook_findMended_0_32 (cm_pg X xs) N H a1 a2 (fpV sU H)) := fun H a1 a2 => vh_GoodsBook_findMended_0_32 (have p := fr_refl sU H
      ⟨fun _ => ⟨rfl, p⟩, fun _ => (fun m hm => ck_mono ((fa_Search_seek_79 m) _ _ _ _) (fun _ _ ⟨⟨x, hx⟩, w3⟩ => ⟨x, hx, ⟨fun _ => (fun m hm => (fun lv l0 l1 l2 => vt_mono (Nat.le_refl _) (fun _ _ kk => ⟨kk.1, fr_trans (fr_trans p w3) kk.2⟩) ((IH m hm).1 _ _ _ lv l0 l1 l2))), fun _ => (fun m hm => ck_mono ((fa_Answer_keep_92_81 m) _ _ _) (fun _ _ ⟨hx, w8⟩ => ⟨hx, ⟨rfl, (fr_trans (fr_trans p w3) w8)⟩⟩))⟩⟩))⟩)
    have hdE : (∀ (H : fl_H) (a1 : Int), ck (cm_pg X xs) N cm_m145 [.index 0, fl_t a1] H (fpV sU H)) := fun H a1 => ve_GoodsBook_findMended_0 (have p := fr_refl sU H
      (fun m hm => ck_mono ((fa_Draft_begin_69 m).2 _ _ _) (fun _ _ ⟨hx, w2⟩ => ⟨hx, (fun H3 e4 => (fun lv l0 l1 l2 => vt_mono (Nat.le_refl _) (fun _ _ kk => ⟨kk.1, fr_trans (fr_cp (fr_trans p w2) (by intros; rfl) e4) kk.2⟩) (hdGoodsBook_findMended_0_32 _ _ _ lv l0 l1 l2)))⟩)))
    exact ⟨hdGoodsBook_findMended_0_32, hdE⟩

theorem fa_GoodsBook_mended_0 {X : Term} {xs : List Int32} (N : Nat) : (∀ (H : fl_H) (a1 : Int) (a2 : Int), ck (cm_pg X xs) N cm_m127 [.index 0, fl_t a1, fl_t a2] H (fpI sU H)) := by
  induction N using Nat.strongRecOn with
  | ind N IH =>
    have hdE : (∀ (H : fl_H) (a1 : Int) (a2 : Int), ck (cm_pg X xs) N cm_m127 [.index 0, fl_t a1, fl_t a2] H (fpI sU H)) := fun H a1 a2 => ve_GoodsBook_mended_0 (have p := fr_refl sU H
      (fun m hm => ck_mono ((fa_GoodsBook_isGood_0 m) _ _) (fun _ _ ⟨⟨x, hx⟩, w2⟩ => ⟨x, hx, ⟨fun _ => ⟨⟨_, rfl⟩, (fr_trans p w2)⟩, fun _ => ⟨fun _ => ⟨fun _ => (fun m hm => ck_mono ((fa_Answer_tell_92 m) _ _) (fun _ _ ⟨⟨x, hx⟩, w8⟩ => ⟨x, hx, ⟨⟨_, rfl⟩, (fr_trans (fr_trans p w2) w8)⟩⟩)), fun _ => (fun m hm => ck_mono ((fa_GoodsBook_findMended_0 m).2 _ _) (fun _ _ ⟨hx, w11⟩ => ⟨hx, (fun H12 e13 => (fun m hm => ck_mono ((fa_Answer_tell_92 m) _ _) (fun _ _ ⟨⟨x, hx⟩, w15⟩ => ⟨x, hx, ⟨⟨_, rfl⟩, (fr_trans (fr_up (fr_trans (fr_trans p w2) w11) (by intros; rfl) e13) w15)⟩⟩)))⟩))⟩, fun _ => ⟨⟨_, rfl⟩, (fr_trans p w2)⟩⟩⟩⟩)))
    exact hdE

theorem fa_Years_tellOf_14 {X : Term} {xs : List Int32} (N : Nat) : (∀ (H : fl_H) (a1 : Int) (a2 : Int), hd_Years_tellOf_14_2 (cm_pg X xs) N H a1 a2 (fpI sU H)) ∧ (∀ (H : fl_H) (a1 : Int), ck (cm_pg X xs) N cm_m94 [.index 14, fl_t a1] H (fpI sU H)) := by
  induction N using Nat.strongRecOn with
  | ind N IH =>
    have hdYears_tellOf_14_2 : (∀ (H : fl_H) (a1 : Int) (a2 : Int), hd_Years_tellOf_14_2 (cm_pg X xs) N H a1 a2 (fpI sU H)) := fun H a1 a2 => vh_Years_tellOf_14_2 (have p := fr_refl sU H
      ⟨fun _ => ⟨⟨_, rfl⟩, p⟩, fun _ => (fun _ => ⟨fun _ => ⟨⟨_, rfl⟩, p⟩, fun _ => (fun m hm => (fun lv l0 l1 l2 => vt_mono (Nat.le_refl _) (fun _ _ kk => ⟨kk.1, fr_trans p kk.2⟩) ((IH m hm).1 _ _ _ lv l0 l1 l2)))⟩)⟩)
    have hdE : (∀ (H : fl_H) (a1 : Int), ck (cm_pg X xs) N cm_m94 [.index 14, fl_t a1] H (fpI sU H)) := fun H a1 => ve_Years_tellOf_14 (have p := fr_refl sU H
      (fun lv l0 l1 l2 => vt_mono (Nat.le_refl _) (fun _ _ kk => ⟨kk.1, fr_trans p kk.2⟩) (hdYears_tellOf_14_2 _ _ _ lv l0 l1 l2)))
    exact ⟨hdYears_tellOf_14_2, hdE⟩

theorem fa_Years_distance_14 {X : Term} {xs : List Int32} (N : Nat) : (∀ (H : fl_H) (a1 : Int) (a2 : Int) (a3 : Int) (a4 : Int) (a5 : Int), hd_Years_distance_14_6 (cm_pg X xs) N H a1 a2 a3 a4 a5 (fpI sU H)) ∧ (∀ (H : fl_H) (a1 : Int) (a2 : Int) (a3 : Int), ck (cm_pg X xs) N cm_m97 [.index 14, fl_t a1, fl_t a2, fl_t a3] H (fpI sU H)) := by
  induction N using Nat.strongRecOn with
  | ind N IH =>
    have hdYears_distance_14_6 : (∀ (H : fl_H) (a1 : Int) (a2 : Int) (a3 : Int) (a4 : Int) (a5 : Int), hd_Years_distance_14_6 (cm_pg X xs) N H a1 a2 a3 a4 a5 (fpI sU H)) := fun H a1 a2 a3 a4 a5 => vh_Years_distance_14_6 (have p := fr_refl sU H
      ⟨fun _ => ⟨⟨_, rfl⟩, p⟩, fun _ => (fun _ => ⟨fun _ => (fun _ => ⟨fun _ => (fun _ => (fun m hm => (fun lv l0 l1 l2 l3 l4 l5 => vt_mono (Nat.le_refl _) (fun _ _ kk => ⟨kk.1, fr_trans p kk.2⟩) ((IH m hm).1 _ _ _ _ _ _ lv l0 l1 l2 l3 l4 l5)))), fun _ => (fun _ => (fun _ => (fun m hm => (fun lv l0 l1 l2 l3 l4 l5 => vt_mono (Nat.le_refl _) (fun _ _ kk => ⟨kk.1, fr_trans p kk.2⟩) ((IH m hm).1 _ _ _ _ _ _ lv l0 l1 l2 l3 l4 l5)))))⟩), fun _ => (fun m hm => (fun lv l0 l1 l2 l3 l4 l5 => vt_mono (Nat.le_refl _) (fun _ _ kk => ⟨kk.1, fr_trans p kk.2⟩) ((IH m hm).1 _ _ _ _ _ _ lv l0 l1 l2 l3 l4 l5)))⟩)⟩)
    have hdE : (∀ (H : fl_H) (a1 : Int) (a2 : Int) (a3 : Int), ck (cm_pg X xs) N cm_m97 [.index 14, fl_t a1, fl_t a2, fl_t a3] H (fpI sU H)) := fun H a1 a2 a3 => ve_Years_distance_14 (have p := fr_refl sU H
      (fun lv l0 l1 l2 l3 l4 l5 => vt_mono (Nat.le_refl _) (fun _ _ kk => ⟨kk.1, fr_trans p kk.2⟩) (hdYears_distance_14_6 _ _ _ _ _ _ lv l0 l1 l2 l3 l4 l5)))
    exact ⟨hdYears_distance_14_6, hdE⟩

theorem fa_Years_leastAt_14 {X : Term} {xs : List Int32} (N : Nat) : (∀ (H : fl_H) (a1 : Int) (a2 : Int) (a3 : Int) (a4 : Int) (a5 : Int), hd_Years_leastAt_14_10 (cm_pg X xs) N H a1 a2 a3 a4 a5 (fpI sU H)) ∧ (∀ (H : fl_H) (a1 : Int) (a2 : Int), ck (cm_pg X xs) N cm_m96 [.index 14, fl_t a1, fl_t a2] H (fpI sU H)) := by
  induction N using Nat.strongRecOn with
  | ind N IH =>
    have hdYears_leastAt_14_10 : (∀ (H : fl_H) (a1 : Int) (a2 : Int) (a3 : Int) (a4 : Int) (a5 : Int), hd_Years_leastAt_14_10 (cm_pg X xs) N H a1 a2 a3 a4 a5 (fpI sU H)) := fun H a1 a2 a3 a4 a5 => vh_Years_leastAt_14_10 (have p := fr_refl sU H
      ⟨fun _ => ⟨⟨_, rfl⟩, p⟩, fun _ => ⟨fun _ => ⟨⟨_, rfl⟩, p⟩, fun _ => (fun m hm => ck_mono ((fa_Years_distance_14 m).2 _ _ _ _) (fun _ _ ⟨⟨x, hx⟩, w5⟩ => ⟨x, hx, (fun m hm => ck_mono ((fa_Years_distance_14 m).2 _ _ _ _) (fun _ _ ⟨⟨x, hx⟩, w8⟩ => ⟨x, hx, ⟨fun _ => (fun m hm => (fun lv l0 l1 l2 l3 l4 l5 => vt_mono (Nat.le_refl _) (fun _ _ kk => ⟨kk.1, fr_trans (fr_trans (fr_trans p w5) w8) kk.2⟩) ((IH m hm).1 _ _ _ _ _ _ lv l0 l1 l2 l3 l4 l5))), fun _ => (fun m hm => (fun lv l0 l1 l2 l3 l4 l5 => vt_mono (Nat.le_refl _) (fun _ _ kk => ⟨kk.1, fr_trans (fr_trans (fr_trans p w5) w8) kk.2⟩) ((IH m hm).1 _ _ _ _ _ _ lv l0 l1 l2 l3 l4 l5)))⟩⟩))⟩))⟩⟩)
    have hdE : (∀ (H : fl_H) (a1 : Int) (a2 : Int), ck (cm_pg X xs) N cm_m96 [.index 14, fl_t a1, fl_t a2] H (fpI sU H)) := fun H a1 a2 => ve_Years_leastAt_14 (have p := fr_refl sU H
      (fun lv l0 l1 l2 l3 l4 l5 => vt_mono (Nat.le_refl _) (fun _ _ kk => ⟨kk.1, fr_trans p kk.2⟩) (hdYears_leastAt_14_10 _ _ _ _ _ _ lv l0 l1 l2 l3 l4 l5)))
    exact ⟨hdYears_leastAt_14_10, hdE⟩

theorem fa_Years_lesson_14 {X : Term} {xs : List Int32} (N : Nat) : (∀ (H : fl_H) (a1 : Int) (a2 : Int) (a3 : Int) (a4 : Int) (a5 : Int) (a6 : Int) (a7 : Int), hd_Years_lesson_14_26 (cm_pg X xs) N H a1 a2 a3 a4 a5 a6 a7 (fpI sU H)) ∧ (∀ (H : fl_H) (a1 : Int) (a2 : Int), ck (cm_pg X xs) N cm_m95 [.index 14, fl_t a1, fl_t a2] H (fpI sU H)) := by
  induction N using Nat.strongRecOn with
  | ind N IH =>
    have hdYears_lesson_14_26 : (∀ (H : fl_H) (a1 : Int) (a2 : Int) (a3 : Int) (a4 : Int) (a5 : Int) (a6 : Int) (a7 : Int), hd_Years_lesson_14_26 (cm_pg X xs) N H a1 a2 a3 a4 a5 a6 a7 (fpI sU H)) := fun H a1 a2 a3 a4 a5 a6 a7 => vh_Years_lesson_14_26 (have p := fr_refl sU H
      ⟨fun _ => ⟨fun _ => ⟨⟨_, rfl⟩, p⟩, fun _ => ⟨⟨_, rfl⟩, p⟩, fun _ => ⟨⟨_, rfl⟩, p⟩, fun _ => ⟨⟨_, rfl⟩, p⟩⟩, fun _ => (fun m hm => ck_mono ((fa_Years_leastAt_14 m).2 _ _ _) (fun _ _ ⟨⟨x, hx⟩, w7⟩ => ⟨x, hx, (fun m hm => ck_mono ((fa_Years_distance_14 m).2 _ _ _ _) (fun _ _ ⟨⟨x, hx⟩, w11⟩ => ⟨x, hx, ⟨fun _ => ⟨fun _ => (fun m hm => (fun lv l0 l1 l2 l3 l4 l5 l6 l7 => vt_mono (Nat.le_refl _) (fun _ _ kk => ⟨kk.1, fr_trans (fr_trans (fr_trans p w7) w11) kk.2⟩) ((IH m hm).1 _ _ _ _ _ _ _ _ lv l0 l1 l2 l3 l4 l5 l6 l7))), fun _ => (fun m hm => (fun lv l0 l1 l2 l3 l4 l5 l6 l7 => vt_mono (Nat.le_refl _) (fun _ _ kk => ⟨kk.1, fr_trans (fr_trans (fr_trans p w7) w11) kk.2⟩) ((IH m hm).1 _ _ _ _ _ _ _ _ lv l0 l1 l2 l3 l4 l5 l6 l7)))⟩, fun _ => ⟨fun _ => (fun m hm => (fun lv l0 l1 l2 l3 l4 l5 l6 l7 => vt_mono (Nat.le_refl _) (fun _ _ kk => ⟨kk.1, fr_trans (fr_trans (fr_trans p w7) w11) kk.2⟩) ((IH m hm).1 _ _ _ _ _ _ _ _ lv l0 l1 l2 l3 l4 l5 l6 l7))), fun _ => (fun m hm => (fun lv l0 l1 l2 l3 l4 l5 l6 l7 => vt_mono (Nat.le_refl _) (fun _ _ kk => ⟨kk.1, fr_trans (fr_trans (fr_trans p w7) w11) kk.2⟩) ((IH m hm).1 _ _ _ _ _ _ _ _ lv l0 l1 l2 l3 l4 l5 l6 l7)))⟩⟩⟩))⟩))⟩)
    have hdE : (∀ (H : fl_H) (a1 : Int) (a2 : Int), ck (cm_pg X xs) N cm_m95 [.index 14, fl_t a1, fl_t a2] H (fpI sU H)) := fun H a1 a2 => ve_Years_lesson_14 (have p := fr_refl sU H
      (fun m hm => ck_mono ((fa_Years_leastAt_14 m).2 _ _ _) (fun _ _ ⟨⟨x, hx⟩, w2⟩ => ⟨x, hx, (fun m hm => ck_mono ((fa_Years_distance_14 m).2 _ _ _ _) (fun _ _ ⟨⟨x, hx⟩, w5⟩ => ⟨x, hx, (fun lv l0 l1 l2 l3 l4 l5 l6 l7 => vt_mono (Nat.le_refl _) (fun _ _ kk => ⟨kk.1, fr_trans (fr_trans (fr_trans p w2) w5) kk.2⟩) (hdYears_lesson_14_26 _ _ _ _ _ _ _ _ lv l0 l1 l2 l3 l4 l5 l6 l7))⟩))⟩)))
    exact ⟨hdYears_lesson_14_26, hdE⟩

theorem fa_GoodsBook_learnt_0 {X : Term} {xs : List Int32} (N : Nat) : (∀ (H : fl_H) (a1 : Int) (a2 : Int), ck (cm_pg X xs) N cm_m129 [.index 0, fl_t a1, fl_t a2] H (fpI sU H)) := by
  induction N using Nat.strongRecOn with
  | ind N IH =>
    have hdE : (∀ (H : fl_H) (a1 : Int) (a2 : Int), ck (cm_pg X xs) N cm_m129 [.index 0, fl_t a1, fl_t a2] H (fpI sU H)) := fun H a1 a2 => ve_GoodsBook_learnt_0 (have p := fr_refl sU H
      (fun m hm => ck_mono ((fa_GoodsBook_isGood_0 m) _ _) (fun _ _ ⟨⟨x, hx⟩, w2⟩ => ⟨x, hx, ⟨fun _ => ⟨⟨_, rfl⟩, (fr_trans p w2)⟩, fun _ => ⟨fun _ => (fun m hm => ck_mono ((fa_Years_tellOf_14 m).2 _ _) (fun _ _ ⟨⟨x, hx⟩, w7⟩ => ⟨x, hx, ⟨fun _ => ⟨⟨_, rfl⟩, (fr_trans (fr_trans p w2) w7)⟩, fun _ => (fun m hm => ck_mono ((fa_Years_lesson_14 m).2 _ _ _) (fun _ _ ⟨⟨x, hx⟩, w11⟩ => ⟨x, hx, ⟨⟨_, rfl⟩, (fr_trans (fr_trans (fr_trans p w2) w7) w11)⟩⟩))⟩⟩)), fun _ => ⟨⟨_, rfl⟩, (fr_trans p w2)⟩⟩⟩⟩)))
    exact hdE

theorem fa_Sheets_renew_60 {X : Term} {xs : List Int32} (N : Nat) : (∀ (H : fl_H) (a1 : Int) (a3 : Int) (a4 : Int), hd_Sheets_renew_60_40 (cm_pg X xs) N H a1 a3 a4 (fpI sU H)) ∧ (∀ (H : fl_H) (a1 : Int) (a2 : Int) (a3 : Int), ck (cm_pg X xs) N cm_m68 [.index 60, fl_t a1, fl_t a2, fl_t a3] H (fpI sU H)) := by
  induction N using Nat.strongRecOn with
  | ind N IH =>
    have hdSheets_renew_60_40 : (∀ (H : fl_H) (a1 : Int) (a3 : Int) (a4 : Int), hd_Sheets_renew_60_40 (cm_pg X xs) N H a1 a3 a4 (fpI sU H)) := fun H a1 a3 a4 => vh_Sheets_renew_60_40 (have p := fr_refl sU H
      ⟨fun _ => ⟨⟨_, rfl⟩, p⟩, fun _ => (fun _ H2 e3 => (fun m hm => (fun lv l0 l1 l2 l3 => vt_mono (Nat.le_refl _) (fun _ _ kk => ⟨kk.1, fr_trans (fr_up p (by intros; rfl) e3) kk.2⟩) ((IH m hm).1 _ _ _ _ lv l0 l1 l2 l3))))⟩)
    have hdE : (∀ (H : fl_H) (a1 : Int) (a2 : Int) (a3 : Int), ck (cm_pg X xs) N cm_m68 [.index 60, fl_t a1, fl_t a2, fl_t a3] H (fpI sU H)) := fun H a1 a2 a3 => ve_Sheets_renew_60 (have p := fr_refl sU H
      (fun m hm => ck_mono ((fa_Sheets_isNamed m) _ _ _) (fun _ _ ⟨⟨x, hx⟩, w2⟩ => ⟨x, hx, ⟨fun _ => ⟨⟨_, rfl⟩, (fr_trans p w2)⟩, fun _ => ⟨fun _ => ⟨fun _ => (fun _ H7 e8 => (fun _ H10 e11 => (fun lv l0 l1 l2 l3 => vt_mono (Nat.le_refl _) (fun _ _ kk => ⟨kk.1, fr_trans (fr_up (fr_up (fr_trans p w2) (by intros; rfl) e8) (by intros; rfl) e11) kk.2⟩) (hdSheets_renew_60_40 _ _ _ _ lv l0 l1 l2 l3)))), fun _ => ⟨⟨_, rfl⟩, (fr_trans p w2)⟩⟩, fun _ => ⟨⟨_, rfl⟩, (fr_trans p w2)⟩⟩⟩⟩)))
    exact ⟨hdSheets_renew_60_40, hdE⟩

theorem fa_GoodsBook_sheet_0 {X : Term} {xs : List Int32} (N : Nat) : (∀ (H : fl_H) (a1 : Int) (a2 : Int) (a3 : Int), ck (cm_pg X xs) N cm_m132 [.index 0, fl_t a1, fl_t a2, fl_t a3] H (fpI sU H)) := by
  induction N using Nat.strongRecOn with
  | ind N IH =>
    have hdE : (∀ (H : fl_H) (a1 : Int) (a2 : Int) (a3 : Int), ck (cm_pg X xs) N cm_m132 [.index 0, fl_t a1, fl_t a2, fl_t a3] H (fpI sU H)) := fun H a1 a2 a3 => ve_GoodsBook_sheet_0 (have p := fr_refl sU H
      (fun m hm => ck_mono ((fa_Sheets_renew_60 m).2 _ _ _ _) (fun _ _ ⟨⟨x, hx⟩, w2⟩ => ⟨x, hx, ⟨⟨_, rfl⟩, (fr_trans p w2)⟩⟩)))
    exact hdE

theorem fa_Sheets_clear_60 {X : Term} {xs : List Int32} (N : Nat) : (∀ (H : fl_H) (a1 : Int), ck (cm_pg X xs) N cm_m69 [.index 60, fl_t a1] H (fpI sU H)) := by
  induction N using Nat.strongRecOn with
  | ind N IH =>
    have hdE : (∀ (H : fl_H) (a1 : Int), ck (cm_pg X xs) N cm_m69 [.index 60, fl_t a1] H (fpI sU H)) := fun H a1 => ve_Sheets_clear_60 (have p := fr_refl sU H
      (fun m hm => ck_mono ((fa_Sheets_isNamed m) _ _ _) (fun _ _ ⟨⟨x, hx⟩, w2⟩ => ⟨x, hx, ⟨fun _ => ⟨⟨_, rfl⟩, (fr_trans p w2)⟩, fun _ => (fun _ => ⟨fun _ => ⟨⟨_, rfl⟩, (fr_trans p w2)⟩, fun _ => (fun _ H7 e8 => (fun _ => ⟨⟨_, rfl⟩, (fr_up (fr_trans p w2) (by intros; rfl) e8)⟩))⟩)⟩⟩)))
    exact hdE

theorem fa_GoodsBook_drop_0 {X : Term} {xs : List Int32} (N : Nat) : (∀ (H : fl_H) (a1 : Int), ck (cm_pg X xs) N cm_m133 [.index 0, fl_t a1] H (fpI sU H)) := by
  induction N using Nat.strongRecOn with
  | ind N IH =>
    have hdE : (∀ (H : fl_H) (a1 : Int), ck (cm_pg X xs) N cm_m133 [.index 0, fl_t a1] H (fpI sU H)) := fun H a1 => ve_GoodsBook_drop_0 (have p := fr_refl sU H
      (fun m hm => ck_mono ((fa_Sheets_clear_60 m) _ _) (fun _ _ ⟨⟨x, hx⟩, w2⟩ => ⟨x, hx, ⟨⟨_, rfl⟩, (fr_trans p w2)⟩⟩)))
    exact hdE

theorem fa_Sheets_write_60 {X : Term} {xs : List Int32} (N : Nat) : (∀ (H : fl_H) (a1 : Int) (a2 : Int) (a3 : Int), ck (cm_pg X xs) N cm_m72 [.index 60, fl_t a1, fl_t a2, fl_t a3] H (fpV sU H)) := by
  induction N using Nat.strongRecOn with
  | ind N IH =>
    have hdE : (∀ (H : fl_H) (a1 : Int) (a2 : Int) (a3 : Int), ck (cm_pg X xs) N cm_m72 [.index 60, fl_t a1, fl_t a2, fl_t a3] H (fpV sU H)) := fun H a1 a2 a3 => ve_Sheets_write_60 (have p := fr_refl sU H
      (fun _ => ⟨fun _ => (fun _ H3 e4 => ⟨rfl, (fr_up p (by intros; rfl) e4)⟩), fun _ => (fun _ H7 e8 => ⟨rfl, (fr_up p (by intros; rfl) e8)⟩), fun _ => (fun _ H12 e13 => ⟨rfl, (fr_up p (by intros; rfl) e13)⟩)⟩))
    exact hdE

theorem fa_GoodsBook_item_0 {X : Term} {xs : List Int32} (N : Nat) : (∀ (H : fl_H) (a1 : Int) (a2 : Int) (a3 : Int) (a4 : Int), ck (cm_pg X xs) N cm_m134 [.index 0, fl_t a1, fl_t a2, fl_t a3, fl_t a4] H (fpI sU H)) := by
  induction N using Nat.strongRecOn with
  | ind N IH =>
    have hdE : (∀ (H : fl_H) (a1 : Int) (a2 : Int) (a3 : Int) (a4 : Int), ck (cm_pg X xs) N cm_m134 [.index 0, fl_t a1, fl_t a2, fl_t a3, fl_t a4] H (fpI sU H)) := fun H a1 a2 a3 a4 => ve_GoodsBook_item_0 (have p := fr_refl sU H
      (fun m hm => ck_mono ((fa_Sheets_refusal_60 m) _ _ _ _ _) (fun _ _ ⟨⟨x, hx⟩, w2⟩ => ⟨x, hx, ⟨fun _ => (fun m hm => ck_mono ((fa_Sheets_write_60 m) _ _ _ _) (fun _ _ ⟨hx, w6⟩ => ⟨hx, ⟨⟨_, rfl⟩, (fr_trans (fr_trans p w2) w6)⟩⟩)), fun _ => ⟨⟨_, rfl⟩, (fr_trans p w2)⟩⟩⟩)))
    exact hdE

theorem fa_GoodsBookModel_isGood_94 {X : Term} {xs : List Int32} (N : Nat) : (∀ (H : fl_H) (a1 : Int), ck (cm_pg X xs) N cm_m149 [.index 94, fl_t a1] H (fpI sU H)) := by
  induction N using Nat.strongRecOn with
  | ind N IH =>
    have hdE : (∀ (H : fl_H) (a1 : Int), ck (cm_pg X xs) N cm_m149 [.index 94, fl_t a1] H (fpI sU H)) := fun H a1 => ve_GoodsBookModel_isGood_94 (have p := fr_refl sU H
      ⟨⟨_, rfl⟩, p⟩)
    exact hdE

theorem fa_GoodsBookModel_told_94 {X : Term} {xs : List Int32} (N : Nat) : (∀ (H : fl_H) (a1 : Int) (a2 : Int), ck (cm_pg X xs) N cm_m162 [.index 94, fl_t a1, fl_t a2] H (fpI sU H)) := by
  induction N using Nat.strongRecOn with
  | ind N IH =>
    have hdE : (∀ (H : fl_H) (a1 : Int) (a2 : Int), ck (cm_pg X xs) N cm_m162 [.index 94, fl_t a1, fl_t a2] H (fpI sU H)) := fun H a1 a2 => ve_GoodsBookModel_told_94 (have p := fr_refl sU H
      (fun m hm => ck_mono ((fa_GoodsBookModel_isGood_94 m) _ _) (fun _ _ ⟨⟨x, hx⟩, w2⟩ => ⟨x, hx, ⟨fun _ => ⟨⟨_, rfl⟩, (fr_trans p w2)⟩, fun _ => ⟨fun _ => (fun _ => ⟨⟨_, rfl⟩, (fr_trans p w2)⟩), fun _ => ⟨⟨_, rfl⟩, (fr_trans p w2)⟩⟩⟩⟩)))
    exact hdE

theorem fa_GoodsBookModel_count_94 {X : Term} {xs : List Int32} (N : Nat) : (∀ (H : fl_H) (a1 : Int) (a2 : Int) (a3 : Int), hd_GoodsBookModel_count_94_18 (cm_pg X xs) N H a1 a2 a3 (fpI sU H)) ∧ (∀ (H : fl_H) (a1 : Int), ck (cm_pg X xs) N cm_m167 [.index 94, fl_t a1] H (fpI sU H)) := by
  induction N using Nat.strongRecOn with
  | ind N IH =>
    have hdGoodsBookModel_count_94_18 : (∀ (H : fl_H) (a1 : Int) (a2 : Int) (a3 : Int), hd_GoodsBookModel_count_94_18 (cm_pg X xs) N H a1 a2 a3 (fpI sU H)) := fun H a1 a2 a3 => vh_GoodsBookModel_count_94_18 (have p := fr_refl sU H
      ⟨fun _ => ⟨fun _ => ⟨⟨_, rfl⟩, p⟩, fun _ => (fun _ => ⟨⟨_, rfl⟩, p⟩)⟩, fun _ => (fun _ => ⟨fun _ => (fun m hm => (fun lv l0 l1 l2 l3 => vt_mono (Nat.le_refl _) (fun _ _ kk => ⟨kk.1, fr_trans p kk.2⟩) ((IH m hm).1 _ _ _ _ lv l0 l1 l2 l3))), fun _ => (fun m hm => (fun lv l0 l1 l2 l3 => vt_mono (Nat.le_refl _) (fun _ _ kk => ⟨kk.1, fr_trans p kk.2⟩) ((IH m hm).1 _ _ _ _ lv l0 l1 l2 l3)))⟩)⟩)
    have hdE : (∀ (H : fl_H) (a1 : Int), ck (cm_pg X xs) N cm_m167 [.index 94, fl_t a1] H (fpI sU H)) := fun H a1 => ve_GoodsBookModel_count_94 (have p := fr_refl sU H
      ⟨fun _ => (fun lv l0 l1 l2 l3 => vt_mono (Nat.le_refl _) (fun _ _ kk => ⟨kk.1, fr_trans p kk.2⟩) (hdGoodsBookModel_count_94_18 _ _ _ _ lv l0 l1 l2 l3)), fun _ => ⟨⟨_, rfl⟩, p⟩⟩)
    exact ⟨hdGoodsBookModel_count_94_18, hdE⟩

theorem fa_GoodsBookModel_takePlan_94 {X : Term} {xs : List Int32} (N : Nat) : (∀ (H : fl_H) (a1 : Int), hd_GoodsBookModel_takePlan_94_2 (cm_pg X xs) N H a1 (fpV sU H)) ∧ (∀ (H : fl_H), ck (cm_pg X xs) N cm_m176 [.index 94] H (fpV sU H)) := by
  induction N using Nat.strongRecOn with
  | ind N IH =>
    have hdGoodsBookModel_takePlan_94_2 : (∀ (H : fl_H) (a1 : Int), hd_GoodsBookModel_takePlan_94_2 (cm_pg X xs) N H a1 (fpV sU H)) := fun H a1 => vh_GoodsBookModel_takePlan_94_2 (have p := fr_refl sU H
      ⟨fun _ => ⟨rfl, p⟩, fun _ => ⟨fun _ => (fun _ H3 e4 => (fun m hm => (fun lv l0 l1 => vt_mono (Nat.le_refl _) (fun _ _ kk => ⟨kk.1, fr_trans (fr_up p (by intros; rfl) e4) kk.2⟩) ((IH m hm).1 _ _ lv l0 l1)))), fun _ => (fun _ => (fun _ H8 e9 => (fun m hm => (fun lv l0 l1 => vt_mono (Nat.le_refl _) (fun _ _ kk => ⟨kk.1, fr_trans (fr_up p (by intros; rfl) e9) kk.2⟩) ((IH m hm).1 _ _ lv l0 l1)))))⟩⟩)
    have hdE : (∀ (H : fl_H), ck (cm_pg X xs) N cm_m176 [.index 94] H (fpV sU H)) := fun H => ve_GoodsBookModel_takePlan_94 (have p := fr_refl sU H
      (fun lv l0 l1 => vt_mono (Nat.le_refl _) (fun _ _ kk => ⟨kk.1, fr_trans p kk.2⟩) (hdGoodsBookModel_takePlan_94_2 _ _ lv l0 l1)))
    exact ⟨hdGoodsBookModel_takePlan_94_2, hdE⟩

theorem fa_GoodsBookModel_pageOf {X : Term} {xs : List Int32} (N : Nat) : (∀ (H : fl_H) (a0 : Int), ck (cm_pg X xs) N cm_m151 [fl_t a0] H (fpI sU H)) := by
  induction N using Nat.strongRecOn with
  | ind N IH =>
    have hdE : (∀ (H : fl_H) (a0 : Int), ck (cm_pg X xs) N cm_m151 [fl_t a0] H (fpI sU H)) := fun H a0 => ve_GoodsBookModel_pageOf (have p := fr_refl sU H
      ⟨fun _ => ⟨⟨_, rfl⟩, p⟩, fun _ => ⟨⟨_, rfl⟩, p⟩⟩)
    exact hdE

theorem fa_GoodsBookModel_saleOf_94 {X : Term} {xs : List Int32} (N : Nat) : (∀ (H : fl_H) (a1 : Int) (a2 : Int), ck (cm_pg X xs) N cm_m154 [.index 94, fl_t a1, fl_t a2] H (fpI sU H)) := by
  induction N using Nat.strongRecOn with
  | ind N IH =>
    have hdE : (∀ (H : fl_H) (a1 : Int) (a2 : Int), ck (cm_pg X xs) N cm_m154 [.index 94, fl_t a1, fl_t a2] H (fpI sU H)) := fun H a1 a2 => ve_GoodsBookModel_saleOf_94 (have p := fr_refl sU H
      (fun _ => ⟨⟨_, rfl⟩, p⟩))
    exact hdE

theorem fa_GoodsBookModel_onPage_94 {X : Term} {xs : List Int32} (N : Nat) : (∀ (H : fl_H) (a1 : Int) (a2 : Int) (a3 : Int), hd_GoodsBookModel_onPage_94_4 (cm_pg X xs) N H a1 a2 a3 (fpI sU H)) ∧ (∀ (H : fl_H) (a1 : Int), ck (cm_pg X xs) N cm_m178 [.index 94, fl_t a1] H (fpI sU H)) := by
  induction N using Nat.strongRecOn with
  | ind N IH =>
    have hdGoodsBookModel_onPage_94_4 : (∀ (H : fl_H) (a1 : Int) (a2 : Int) (a3 : Int), hd_GoodsBookModel_onPage_94_4 (cm_pg X xs) N H a1 a2 a3 (fpI sU H)) := fun H a1 a2 a3 => vh_GoodsBookModel_onPage_94_4 (have p := fr_refl sU H
      ⟨fun _ => ⟨⟨_, rfl⟩, p⟩, fun _ => (fun _ => (fun m hm => ck_mono ((fa_GoodsBookModel_pageOf m) _ _) (fun _ _ ⟨⟨x, hx⟩, w4⟩ => ⟨x, hx, ⟨fun _ => (fun m hm => (fun lv l0 l1 l2 l3 => vt_mono (Nat.le_refl _) (fun _ _ kk => ⟨kk.1, fr_trans (fr_trans p w4) kk.2⟩) ((IH m hm).1 _ _ _ _ lv l0 l1 l2 l3))), fun _ => (fun m hm => (fun lv l0 l1 l2 l3 => vt_mono (Nat.le_refl _) (fun _ _ kk => ⟨kk.1, fr_trans (fr_trans p w4) kk.2⟩) ((IH m hm).1 _ _ _ _ lv l0 l1 l2 l3)))⟩⟩)))⟩)
    have hdE : (∀ (H : fl_H) (a1 : Int), ck (cm_pg X xs) N cm_m178 [.index 94, fl_t a1] H (fpI sU H)) := fun H a1 => ve_GoodsBookModel_onPage_94 (have p := fr_refl sU H
      (fun lv l0 l1 l2 l3 => vt_mono (Nat.le_refl _) (fun _ _ kk => ⟨kk.1, fr_trans p kk.2⟩) (hdGoodsBookModel_onPage_94_4 _ _ _ _ lv l0 l1 l2 l3)))
    exact ⟨hdGoodsBookModel_onPage_94_4, hdE⟩

theorem fa_GoodsBookModel_rivalsOf_94 {X : Term} {xs : List Int32} (N : Nat) : (∀ (H : fl_H) (a1 : Int) (a2 : Int) (a3 : Int), hd_GoodsBookModel_rivalsOf_94_4 (cm_pg X xs) N H a1 a2 a3 (fpI sU H)) ∧ (∀ (H : fl_H) (a1 : Int), ck (cm_pg X xs) N cm_m180 [.index 94, fl_t a1] H (fpI sU H)) := by
  induction N using Nat.strongRecOn with
  | ind N IH =>
    have hdGoodsBookModel_rivalsOf_94_4 : (∀ (H : fl_H) (a1 : Int) (a2 : Int) (a3 : Int), hd_GoodsBookModel_rivalsOf_94_4 (cm_pg X xs) N H a1 a2 a3 (fpI sU H)) := fun H a1 a2 a3 => vh_GoodsBookModel_rivalsOf_94_4 (have p := fr_refl sU H
      ⟨fun _ => ⟨⟨_, rfl⟩, p⟩, fun _ => ⟨fun _ => (fun m hm => (fun lv l0 l1 l2 l3 => vt_mono (Nat.le_refl _) (fun _ _ kk => ⟨kk.1, fr_trans p kk.2⟩) ((IH m hm).1 _ _ _ _ lv l0 l1 l2 l3))), fun _ => (fun _ => ⟨fun _ => (fun m hm => (fun lv l0 l1 l2 l3 => vt_mono (Nat.le_refl _) (fun _ _ kk => ⟨kk.1, fr_trans p kk.2⟩) ((IH m hm).1 _ _ _ _ lv l0 l1 l2 l3))), fun _ => (fun _ => ⟨fun _ => (fun _ => (fun _ => ⟨fun _ => (fun m hm => (fun lv l0 l1 l2 l3 => vt_mono (Nat.le_refl _) (fun _ _ kk => ⟨kk.1, fr_trans p kk.2⟩) ((IH m hm).1 _ _ _ _ lv l0 l1 l2 l3))), fun _ => (fun m hm => (fun lv l0 l1 l2 l3 => vt_mono (Nat.le_refl _) (fun _ _ kk => ⟨kk.1, fr_trans p kk.2⟩) ((IH m hm).1 _ _ _ _ lv l0 l1 l2 l3)))⟩)), fun _ => (fun m hm => (fun lv l0 l1 l2 l3 => vt_mono (Nat.le_refl _) (fun _ _ kk => ⟨kk.1, fr_trans p kk.2⟩) ((IH m hm).1 _ _ _ _ lv l0 l1 l2 l3)))⟩)⟩)⟩⟩)
    have hdE : (∀ (H : fl_H) (a1 : Int), ck (cm_pg X xs) N cm_m180 [.index 94, fl_t a1] H (fpI sU H)) := fun H a1 => ve_GoodsBookModel_rivalsOf_94 (have p := fr_refl sU H
      (fun lv l0 l1 l2 l3 => vt_mono (Nat.le_refl _) (fun _ _ kk => ⟨kk.1, fr_trans p kk.2⟩) (hdGoodsBookModel_rivalsOf_94_4 _ _ _ _ lv l0 l1 l2 l3)))
    exact ⟨hdGoodsBookModel_rivalsOf_94_4, hdE⟩

theorem fa_GoodsBookModel_wideOf_94 {X : Term} {xs : List Int32} (N : Nat) : (∀ (H : fl_H) (a1 : Int) (a2 : Int), ck (cm_pg X xs) N cm_m152 [.index 94, fl_t a1, fl_t a2] H (fpI sU H)) := by
  induction N using Nat.strongRecOn with
  | ind N IH =>
    have hdE : (∀ (H : fl_H) (a1 : Int) (a2 : Int), ck (cm_pg X xs) N cm_m152 [.index 94, fl_t a1, fl_t a2] H (fpI sU H)) := fun H a1 a2 => ve_GoodsBookModel_wideOf_94 (have p := fr_refl sU H
      (fun _ => ⟨⟨_, rfl⟩, p⟩))
    exact hdE

theorem fa_GoodsBookModel_highOf_94 {X : Term} {xs : List Int32} (N : Nat) : (∀ (H : fl_H) (a1 : Int) (a2 : Int), ck (cm_pg X xs) N cm_m153 [.index 94, fl_t a1, fl_t a2] H (fpI sU H)) := by
  induction N using Nat.strongRecOn with
  | ind N IH =>
    have hdE : (∀ (H : fl_H) (a1 : Int) (a2 : Int), ck (cm_pg X xs) N cm_m153 [.index 94, fl_t a1, fl_t a2] H (fpI sU H)) := fun H a1 a2 => ve_GoodsBookModel_highOf_94 (have p := fr_refl sU H
      (fun _ => ⟨⟨_, rfl⟩, p⟩))
    exact hdE

theorem fa_GoodsBookModel_areaOf_94 {X : Term} {xs : List Int32} (N : Nat) : (∀ (H : fl_H) (a1 : Int) (a2 : Int), ck (cm_pg X xs) N cm_m155 [.index 94, fl_t a1, fl_t a2] H (fpI sU H)) := by
  induction N using Nat.strongRecOn with
  | ind N IH =>
    have hdE : (∀ (H : fl_H) (a1 : Int) (a2 : Int), ck (cm_pg X xs) N cm_m155 [.index 94, fl_t a1, fl_t a2] H (fpI sU H)) := fun H a1 a2 => ve_GoodsBookModel_areaOf_94 (have p := fr_refl sU H
      (fun m hm => ck_mono ((fa_GoodsBookModel_wideOf_94 m) _ _ _) (fun _ _ ⟨⟨x, hx⟩, w2⟩ => ⟨x, hx, (fun m hm => ck_mono ((fa_GoodsBookModel_highOf_94 m) _ _ _) (fun _ _ ⟨⟨x, hx⟩, w5⟩ => ⟨x, hx, ⟨⟨_, rfl⟩, (fr_trans (fr_trans p w2) w5)⟩⟩))⟩)))
    exact hdE

theorem fa_GoodsBookModel_areaOn_94 {X : Term} {xs : List Int32} (N : Nat) : (∀ (H : fl_H) (a1 : Int) (a2 : Int) (a3 : Int), hd_GoodsBookModel_areaOn_94_4 (cm_pg X xs) N H a1 a2 a3 (fpI sU H)) ∧ (∀ (H : fl_H) (a1 : Int), ck (cm_pg X xs) N cm_m179 [.index 94, fl_t a1] H (fpI sU H)) := by
  induction N using Nat.strongRecOn with
  | ind N IH =>
    have hdGoodsBookModel_areaOn_94_4 : (∀ (H : fl_H) (a1 : Int) (a2 : Int) (a3 : Int), hd_GoodsBookModel_areaOn_94_4 (cm_pg X xs) N H a1 a2 a3 (fpI sU H)) := fun H a1 a2 a3 => vh_GoodsBookModel_areaOn_94_4 (have p := fr_refl sU H
      ⟨fun _ => ⟨⟨_, rfl⟩, p⟩, fun _ => (fun _ => (fun m hm => ck_mono ((fa_GoodsBookModel_pageOf m) _ _) (fun _ _ ⟨⟨x, hx⟩, w4⟩ => ⟨x, hx, ⟨fun _ => (fun _ => (fun m hm => ck_mono ((fa_GoodsBookModel_areaOf_94 m) _ _ _) (fun _ _ ⟨⟨x, hx⟩, w9⟩ => ⟨x, hx, (fun m hm => (fun lv l0 l1 l2 l3 => vt_mono (Nat.le_refl _) (fun _ _ kk => ⟨kk.1, fr_trans (fr_trans (fr_trans p w4) w9) kk.2⟩) ((IH m hm).1 _ _ _ _ lv l0 l1 l2 l3)))⟩))), fun _ => (fun m hm => (fun lv l0 l1 l2 l3 => vt_mono (Nat.le_refl _) (fun _ _ kk => ⟨kk.1, fr_trans (fr_trans p w4) kk.2⟩) ((IH m hm).1 _ _ _ _ lv l0 l1 l2 l3)))⟩⟩)))⟩)
    have hdE : (∀ (H : fl_H) (a1 : Int), ck (cm_pg X xs) N cm_m179 [.index 94, fl_t a1] H (fpI sU H)) := fun H a1 => ve_GoodsBookModel_areaOn_94 (have p := fr_refl sU H
      (fun lv l0 l1 l2 l3 => vt_mono (Nat.le_refl _) (fun _ _ kk => ⟨kk.1, fr_trans p kk.2⟩) (hdGoodsBookModel_areaOn_94_4 _ _ _ _ lv l0 l1 l2 l3)))
    exact ⟨hdGoodsBookModel_areaOn_94_4, hdE⟩

theorem fa_GoodsBookModel_bringsOf_94 {X : Term} {xs : List Int32} (N : Nat) : (∀ (H : fl_H) (a1 : Int), ck (cm_pg X xs) N cm_m181 [.index 94, fl_t a1] H (fpI sU H)) := by
  induction N using Nat.strongRecOn with
  | ind N IH =>
    have hdE : (∀ (H : fl_H) (a1 : Int), ck (cm_pg X xs) N cm_m181 [.index 94, fl_t a1] H (fpI sU H)) := fun H a1 => ve_GoodsBookModel_bringsOf_94 (have p := fr_refl sU H
      (fun _ => ⟨fun _ => ⟨⟨_, rfl⟩, p⟩, fun _ => (fun _ => (fun m hm => ck_mono ((fa_GoodsBookModel_pageOf m) _ _) (fun _ _ ⟨⟨x, hx⟩, w5⟩ => ⟨x, hx, (fun _ => (fun _ => (fun m hm => ck_mono ((fa_GoodsBookModel_saleOf_94 m) _ _ _) (fun _ _ ⟨⟨x, hx⟩, w10⟩ => ⟨x, hx, (fun _ => ⟨fun _ => (fun m hm => ck_mono ((fa_GoodsBookModel_onPage_94 m).2 _ _) (fun _ _ ⟨⟨x, hx⟩, w15⟩ => ⟨x, hx, ⟨⟨_, rfl⟩, (fr_trans (fr_trans (fr_trans p w5) w10) w15)⟩⟩)), fun _ => (fun m hm => ck_mono ((fa_GoodsBookModel_rivalsOf_94 m).2 _ _) (fun _ _ ⟨⟨x, hx⟩, w19⟩ => ⟨x, hx, ⟨⟨_, rfl⟩, (fr_trans (fr_trans (fr_trans p w5) w10) w19)⟩⟩)), fun _ => (fun m hm => ck_mono ((fa_GoodsBookModel_areaOn_94 m).2 _ _) (fun _ _ ⟨⟨x, hx⟩, w23⟩ => ⟨x, hx, ⟨fun _ => ⟨⟨_, rfl⟩, (fr_trans (fr_trans (fr_trans p w5) w10) w23)⟩, fun _ => ⟨⟨_, rfl⟩, (fr_trans (fr_trans (fr_trans p w5) w10) w23)⟩⟩⟩)), fun _ => ⟨⟨_, rfl⟩, (fr_trans (fr_trans p w5) w10)⟩⟩)⟩))))⟩)))⟩))
    exact hdE

theorem fa_GoodsBookModel_brings_94 {X : Term} {xs : List Int32} (N : Nat) : (∀ (H : fl_H) (a1 : Int), ck (cm_pg X xs) N cm_m189 [.index 94, fl_t a1] H (fpI sU H)) := by
  induction N using Nat.strongRecOn with
  | ind N IH =>
    have hdE : (∀ (H : fl_H) (a1 : Int), ck (cm_pg X xs) N cm_m189 [.index 94, fl_t a1] H (fpI sU H)) := fun H a1 => ve_GoodsBookModel_brings_94 (have p := fr_refl sU H
      (fun m hm => ck_mono ((fa_GoodsBookModel_isGood_94 m) _ _) (fun _ _ ⟨⟨x, hx⟩, w2⟩ => ⟨x, hx, ⟨fun _ => ⟨⟨_, rfl⟩, (fr_trans p w2)⟩, fun _ => (fun m hm => ck_mono ((fa_GoodsBookModel_takePlan_94 m).2 _) (fun _ _ ⟨hx, w6⟩ => ⟨hx, (fun _ => ⟨fun _ => ⟨⟨_, rfl⟩, (fr_trans (fr_trans p w2) w6)⟩, fun _ => (fun m hm => ck_mono ((fa_GoodsBookModel_bringsOf_94 m) _ _) (fun _ _ ⟨⟨x, hx⟩, w10⟩ => ⟨x, hx, ⟨⟨_, rfl⟩, (fr_trans (fr_trans (fr_trans p w2) w6) w10)⟩⟩))⟩)⟩))⟩⟩)))
    exact hdE

theorem fa_GoodsBookModel_extraOf_94 {X : Term} {xs : List Int32} (N : Nat) : (∀ (H : fl_H) (a1 : Int), ck (cm_pg X xs) N cm_m182 [.index 94, fl_t a1] H (fpI sU H)) := by
  induction N using Nat.strongRecOn with
  | ind N IH =>
    have hdE : (∀ (H : fl_H) (a1 : Int), ck (cm_pg X xs) N cm_m182 [.index 94, fl_t a1] H (fpI sU H)) := fun H a1 => ve_GoodsBookModel_extraOf_94 (have p := fr_refl sU H
      (fun _ => (fun _ => (fun m hm => ck_mono ((fa_GoodsBookModel_pageOf m) _ _) (fun _ _ ⟨⟨x, hx⟩, w4⟩ => ⟨x, hx, (fun _ => (fun _ => (fun m hm => ck_mono ((fa_GoodsBookModel_pageOf m) _ _) (fun _ _ ⟨⟨x, hx⟩, w9⟩ => ⟨x, hx, (fun _ => ⟨fun _ => ⟨⟨_, rfl⟩, (fr_trans (fr_trans p w4) w9)⟩, fun _ => ⟨fun _ => ⟨⟨_, rfl⟩, (fr_trans (fr_trans p w4) w9)⟩, fun _ => ⟨fun _ => (fun _ => ⟨fun _ => (fun _ => (fun _ => ⟨fun _ => (fun _ => (fun _ => ⟨⟨_, rfl⟩, (fr_trans (fr_trans p w4) w9)⟩)), fun _ => (fun _ => (fun _ => ⟨⟨_, rfl⟩, (fr_trans (fr_trans p w4) w9)⟩))⟩)), fun _ => (fun _ => ⟨fun _ => ⟨fun _ => ⟨fun _ => (fun _ => (fun _ => ⟨fun _ => (fun _ => ⟨⟨_, rfl⟩, (fr_trans (fr_trans p w4) w9)⟩), fun _ => (fun _ => ⟨⟨_, rfl⟩, (fr_trans (fr_trans p w4) w9)⟩)⟩)), fun _ => ⟨fun _ => (fun _ => (fun _ => ⟨fun _ => (fun _ => ⟨⟨_, rfl⟩, (fr_trans (fr_trans p w4) w9)⟩), fun _ => (fun _ => ⟨⟨_, rfl⟩, (fr_trans (fr_trans p w4) w9)⟩)⟩)), fun _ => ⟨fun _ => (fun _ => (fun _ => ⟨fun _ => (fun _ => ⟨⟨_, rfl⟩, (fr_trans (fr_trans p w4) w9)⟩), fun _ => (fun _ => ⟨⟨_, rfl⟩, (fr_trans (fr_trans p w4) w9)⟩)⟩)), fun _ => (fun _ => (fun _ => ⟨fun _ => (fun _ => (fun _ => ⟨⟨_, rfl⟩, (fr_trans (fr_trans p w4) w9)⟩)), fun _ => (fun _ => (fun _ => ⟨⟨_, rfl⟩, (fr_trans (fr_trans p w4) w9)⟩))⟩))⟩⟩⟩, fun _ => (fun _ => (fun _ => ⟨fun _ => (fun _ => ⟨⟨_, rfl⟩, (fr_trans (fr_trans p w4) w9)⟩), fun _ => (fun _ => ⟨⟨_, rfl⟩, (fr_trans (fr_trans p w4) w9)⟩)⟩))⟩, fun _ => ⟨fun _ => (fun _ => (fun _ => ⟨fun _ => (fun _ => (fun _ => ⟨⟨_, rfl⟩, (fr_trans (fr_trans p w4) w9)⟩)), fun _ => (fun _ => (fun _ => ⟨⟨_, rfl⟩, (fr_trans (fr_trans p w4) w9)⟩))⟩)), fun _ => (fun _ => (fun _ => ⟨fun _ => (fun _ => ⟨⟨_, rfl⟩, (fr_trans (fr_trans p w4) w9)⟩), fun _ => (fun _ => ⟨⟨_, rfl⟩, (fr_trans (fr_trans p w4) w9)⟩)⟩))⟩⟩)⟩), fun _ => ⟨⟨_, rfl⟩, (fr_trans (fr_trans p w4) w9)⟩⟩⟩⟩)⟩))))⟩)))))
    exact hdE

theorem fa_GoodsBookModel_worthOf_94 {X : Term} {xs : List Int32} (N : Nat) : (∀ (H : fl_H) (a1 : Int) (a2 : Int) (a3 : Int), hd_GoodsBookModel_worthOf_94_63 (cm_pg X xs) N H a1 a2 a3 (fpI sU H)) ∧ (∀ (H : fl_H) (a1 : Int) (a2 : Int), hd_GoodsBookModel_worthOf_94_30 (cm_pg X xs) N H a1 a2 (fpI sU H)) ∧ (∀ (H : fl_H) (a1 : Int) (a2 : Int), hd_GoodsBookModel_worthOf_94_4 (cm_pg X xs) N H a1 a2 (fpI sU H)) ∧ (∀ (H : fl_H), ck (cm_pg X xs) N cm_m183 [.index 94] H (fpI sU H)) := by
  induction N using Nat.strongRecOn with
  | ind N IH =>
    have hdGoodsBookModel_worthOf_94_63 : (∀ (H : fl_H) (a1 : Int) (a2 : Int) (a3 : Int), hd_GoodsBookModel_worthOf_94_63 (cm_pg X xs) N H a1 a2 a3 (fpI sU H)) := fun H a1 a2 a3 => vh_GoodsBookModel_worthOf_94_63 (have p := fr_refl sU H
      ⟨fun _ => ⟨⟨_, rfl⟩, p⟩, fun _ => (fun m hm => ck_mono ((fa_GoodsBookModel_onPage_94 m).2 _ _) (fun _ _ ⟨⟨x, hx⟩, w3⟩ => ⟨x, hx, ⟨fun _ => (fun m hm => (fun lv l0 l1 l2 l3 => vt_mono (Nat.le_refl _) (fun _ _ kk => ⟨kk.1, fr_trans (fr_trans p w3) kk.2⟩) ((IH m hm).1 _ _ _ _ lv l0 l1 l2 l3))), fun _ => (fun m hm => (fun lv l0 l1 l2 l3 => vt_mono (Nat.le_refl _) (fun _ _ kk => ⟨kk.1, fr_trans (fr_trans p w3) kk.2⟩) ((IH m hm).1 _ _ _ _ lv l0 l1 l2 l3)))⟩⟩))⟩)
    have hdGoodsBookModel_worthOf_94_30 : (∀ (H : fl_H) (a1 : Int) (a2 : Int), hd_GoodsBookModel_worthOf_94_30 (cm_pg X xs) N H a1 a2 (fpI sU H)) := fun H a1 a2 => vh_GoodsBookModel_worthOf_94_30 (have p := fr_refl sU H
      ⟨fun _ => (fun lv l0 l1 l2 l3 => vt_mono (Nat.le_refl _) (fun _ _ kk => ⟨kk.1, fr_trans p kk.2⟩) (hdGoodsBookModel_worthOf_94_63 _ _ _ _ lv l0 l1 l2 l3)), fun _ => (fun m hm => ck_mono ((fa_GoodsBookModel_extraOf_94 m) _ _) (fun _ _ ⟨⟨x, hx⟩, w5⟩ => ⟨x, hx, (fun m hm => (fun lv l0 l1 l2 => vt_mono (Nat.le_refl _) (fun _ _ kk => ⟨kk.1, fr_trans (fr_trans p w5) kk.2⟩) ((IH m hm).2.1 _ _ _ lv l0 l1 l2)))⟩))⟩)
    have hdGoodsBookModel_worthOf_94_4 : (∀ (H : fl_H) (a1 : Int) (a2 : Int), hd_GoodsBookModel_worthOf_94_4 (cm_pg X xs) N H a1 a2 (fpI sU H)) := fun H a1 a2 => vh_GoodsBookModel_worthOf_94_4 (have p := fr_refl sU H
      ⟨fun _ => (fun lv l0 l1 l2 => vt_mono (Nat.le_refl _) (fun _ _ kk => ⟨kk.1, fr_trans p kk.2⟩) (hdGoodsBookModel_worthOf_94_30 _ _ _ lv l0 l1 l2)), fun _ => (fun m hm => ck_mono ((fa_GoodsBookModel_bringsOf_94 m) _ _) (fun _ _ ⟨⟨x, hx⟩, w4⟩ => ⟨x, hx, (fun m hm => (fun lv l0 l1 l2 => vt_mono (Nat.le_refl _) (fun _ _ kk => ⟨kk.1, fr_trans (fr_trans p w4) kk.2⟩) ((IH m hm).2.2.1 _ _ _ lv l0 l1 l2)))⟩))⟩)
    have hdE : (∀ (H : fl_H), ck (cm_pg X xs) N cm_m183 [.index 94] H (fpI sU H)) := fun H => ve_GoodsBookModel_worthOf_94 (have p := fr_refl sU H
      (fun lv l0 l1 l2 => vt_mono (Nat.le_refl _) (fun _ _ kk => ⟨kk.1, fr_trans p kk.2⟩) (hdGoodsBookModel_worthOf_94_4 _ _ _ lv l0 l1 l2)))
    exact ⟨hdGoodsBookModel_worthOf_94_63, hdGoodsBookModel_worthOf_94_30, hdGoodsBookModel_worthOf_94_4, hdE⟩

theorem fa_GoodsBookModel_worth_94 {X : Term} {xs : List Int32} (N : Nat) : (∀ (H : fl_H), ck (cm_pg X xs) N cm_m190 [.index 94] H (fpI sU H)) := by
  induction N using Nat.strongRecOn with
  | ind N IH =>
    have hdE : (∀ (H : fl_H), ck (cm_pg X xs) N cm_m190 [.index 94] H (fpI sU H)) := fun H => ve_GoodsBookModel_worth_94 (have p := fr_refl sU H
      (fun m hm => ck_mono ((fa_GoodsBookModel_takePlan_94 m).2 _) (fun _ _ ⟨hx, w2⟩ => ⟨hx, (fun m hm => ck_mono ((fa_GoodsBookModel_worthOf_94 m).2.2.2 _) (fun _ _ ⟨⟨x, hx⟩, w4⟩ => ⟨x, hx, ⟨⟨_, rfl⟩, (fr_trans (fr_trans p w2) w4)⟩⟩))⟩)))
    exact hdE

theorem fa_GoodsBookModel_keeps_94 {X : Term} {xs : List Int32} (N : Nat) : (∀ (H : fl_H) (a1 : Int), ck (cm_pg X xs) N cm_m184 [.index 94, fl_t a1] H (fpI sU H)) := by
  induction N using Nat.strongRecOn with
  | ind N IH =>
    have hdE : (∀ (H : fl_H) (a1 : Int), ck (cm_pg X xs) N cm_m184 [.index 94, fl_t a1] H (fpI sU H)) := fun H a1 => ve_GoodsBookModel_keeps_94 (have p := fr_refl sU H
      (fun _ => (fun _ => (fun m hm => ck_mono ((fa_GoodsBookModel_pageOf m) _ _) (fun _ _ ⟨⟨x, hx⟩, w4⟩ => ⟨x, hx, (fun _ => (fun _ => (fun m hm => ck_mono ((fa_GoodsBookModel_pageOf m) _ _) (fun _ _ ⟨⟨x, hx⟩, w9⟩ => ⟨x, hx, (fun _ => ⟨fun _ => ⟨fun _ => ⟨⟨_, rfl⟩, (fr_trans (fr_trans p w4) w9)⟩, fun _ => ⟨fun _ => ⟨⟨_, rfl⟩, (fr_trans (fr_trans p w4) w9)⟩, fun _ => ⟨⟨_, rfl⟩, (fr_trans (fr_trans p w4) w9)⟩⟩⟩, fun _ => ⟨fun _ => ⟨⟨_, rfl⟩, (fr_trans (fr_trans p w4) w9)⟩, fun _ => ⟨fun _ => ⟨⟨_, rfl⟩, (fr_trans (fr_trans p w4) w9)⟩, fun _ => ⟨fun _ => ⟨⟨_, rfl⟩, (fr_trans (fr_trans p w4) w9)⟩, fun _ => ⟨⟨_, rfl⟩, (fr_trans (fr_trans p w4) w9)⟩⟩⟩⟩, fun _ => ⟨fun _ => ⟨⟨_, rfl⟩, (fr_trans (fr_trans p w4) w9)⟩, fun _ => ⟨fun _ => ⟨⟨_, rfl⟩, (fr_trans (fr_trans p w4) w9)⟩, fun _ => ⟨fun _ => ⟨⟨_, rfl⟩, (fr_trans (fr_trans p w4) w9)⟩, fun _ => ⟨⟨_, rfl⟩, (fr_trans (fr_trans p w4) w9)⟩⟩⟩⟩, fun _ => ⟨⟨_, rfl⟩, (fr_trans (fr_trans p w4) w9)⟩⟩)⟩))))⟩)))))
    exact hdE

theorem fa_GoodsBookModel_firstBroken_94 {X : Term} {xs : List Int32} (N : Nat) : (∀ (H : fl_H) (a1 : Int), hd_GoodsBookModel_firstBroken_94_2 (cm_pg X xs) N H a1 (fpI sU H)) ∧ (∀ (H : fl_H), ck (cm_pg X xs) N cm_m185 [.index 94] H (fpI sU H)) := by
  induction N using Nat.strongRecOn with
  | ind N IH =>
    have hdGoodsBookModel_firstBroken_94_2 : (∀ (H : fl_H) (a1 : Int), hd_GoodsBookModel_firstBroken_94_2 (cm_pg X xs) N H a1 (fpI sU H)) := fun H a1 => vh_GoodsBookModel_firstBroken_94_2 (have p := fr_refl sU H
      ⟨fun _ => ⟨⟨_, rfl⟩, p⟩, fun _ => (fun m hm => ck_mono ((fa_GoodsBookModel_keeps_94 m) _ _) (fun _ _ ⟨⟨x, hx⟩, w3⟩ => ⟨x, hx, ⟨fun _ => ⟨⟨_, rfl⟩, (fr_trans p w3)⟩, fun _ => (fun m hm => (fun lv l0 l1 => vt_mono (Nat.le_refl _) (fun _ _ kk => ⟨kk.1, fr_trans (fr_trans p w3) kk.2⟩) ((IH m hm).1 _ _ lv l0 l1)))⟩⟩))⟩)
    have hdE : (∀ (H : fl_H), ck (cm_pg X xs) N cm_m185 [.index 94] H (fpI sU H)) := fun H => ve_GoodsBookModel_firstBroken_94 (have p := fr_refl sU H
      (fun lv l0 l1 => vt_mono (Nat.le_refl _) (fun _ _ kk => ⟨kk.1, fr_trans p kk.2⟩) (hdGoodsBookModel_firstBroken_94_2 _ _ lv l0 l1)))
    exact ⟨hdGoodsBookModel_firstBroken_94_2, hdE⟩

theorem fa_GoodsBookModel_codeOf_94 {X : Term} {xs : List Int32} (N : Nat) : (∀ (H : fl_H) (a1 : Int) (a2 : Int) (a3 : Int), hd_GoodsBookModel_codeOf_94_11 (cm_pg X xs) N H a1 a2 a3 (fpI sU H)) ∧ (∀ (H : fl_H) (a1 : Int), ck (cm_pg X xs) N cm_m177 [.index 94, fl_t a1] H (fpI sU H)) := by
  induction N using Nat.strongRecOn with
  | ind N IH =>
    have hdGoodsBookModel_codeOf_94_11 : (∀ (H : fl_H) (a1 : Int) (a2 : Int) (a3 : Int), hd_GoodsBookModel_codeOf_94_11 (cm_pg X xs) N H a1 a2 a3 (fpI sU H)) := fun H a1 a2 a3 => vh_GoodsBookModel_codeOf_94_11 (have p := fr_refl sU H
      ⟨fun _ => ⟨⟨_, rfl⟩, p⟩, fun _ => (fun _ => (fun m hm => ck_mono ((fa_GoodsBookModel_pageOf m) _ _) (fun _ _ ⟨⟨x, hx⟩, w4⟩ => ⟨x, hx, ⟨fun _ => (fun _ => (fun m hm => (fun lv l0 l1 l2 l3 => vt_mono (Nat.le_refl _) (fun _ _ kk => ⟨kk.1, fr_trans (fr_trans p w4) kk.2⟩) ((IH m hm).1 _ _ _ _ lv l0 l1 l2 l3)))), fun _ => (fun m hm => (fun lv l0 l1 l2 l3 => vt_mono (Nat.le_refl _) (fun _ _ kk => ⟨kk.1, fr_trans (fr_trans p w4) kk.2⟩) ((IH m hm).1 _ _ _ _ lv l0 l1 l2 l3)))⟩⟩)))⟩)
    have hdE : (∀ (H : fl_H) (a1 : Int), ck (cm_pg X xs) N cm_m177 [.index 94, fl_t a1] H (fpI sU H)) := fun H a1 => ve_GoodsBookModel_codeOf_94 (have p := fr_refl sU H
      (fun lv l0 l1 l2 l3 => vt_mono (Nat.le_refl _) (fun _ _ kk => ⟨kk.1, fr_trans p kk.2⟩) (hdGoodsBookModel_codeOf_94_11 _ _ _ _ lv l0 l1 l2 l3)))
    exact ⟨hdGoodsBookModel_codeOf_94_11, hdE⟩

theorem fa_GoodsBookModel_digitOf {X : Term} {xs : List Int32} (N : Nat) : (∀ (H : fl_H) (a1 : Int) (a2 : Int) (a3 : Int), hd_GoodsBookModel_digitOf_4 (cm_pg X xs) N H a1 a2 a3 (fpI sU H)) ∧ (∀ (H : fl_H) (a0 : Int) (a1 : Int), ck (cm_pg X xs) N cm_m169 [fl_t a0, fl_t a1] H (fpI sU H)) := by
  induction N using Nat.strongRecOn with
  | ind N IH =>
    have hdGoodsBookModel_digitOf_4 : (∀ (H : fl_H) (a1 : Int) (a2 : Int) (a3 : Int), hd_GoodsBookModel_digitOf_4 (cm_pg X xs) N H a1 a2 a3 (fpI sU H)) := fun H a1 a2 a3 => vh_GoodsBookModel_digitOf_4 (have p := fr_refl sU H
      ⟨fun _ => ⟨⟨_, rfl⟩, p⟩, fun _ => (fun m hm => (fun lv l0 l1 l2 => vt_mono (Nat.le_refl _) (fun _ _ kk => ⟨kk.1, fr_trans p kk.2⟩) ((IH m hm).1 _ _ _ _ lv l0 l1 l2)))⟩)
    have hdE : (∀ (H : fl_H) (a0 : Int) (a1 : Int), ck (cm_pg X xs) N cm_m169 [fl_t a0, fl_t a1] H (fpI sU H)) := fun H a0 a1 => ve_GoodsBookModel_digitOf (have p := fr_refl sU H
      (fun lv l0 l1 l2 => vt_mono (Nat.le_refl _) (fun _ _ kk => ⟨kk.1, fr_trans p kk.2⟩) (hdGoodsBookModel_digitOf_4 _ _ _ _ lv l0 l1 l2)))
    exact ⟨hdGoodsBookModel_digitOf_4, hdE⟩

theorem fa_GoodsBookModel_areaOfCode_94 {X : Term} {xs : List Int32} (N : Nat) : (∀ (H : fl_H) (a1 : Int) (a2 : Int) (a3 : Int), hd_GoodsBookModel_areaOfCode_94_4 (cm_pg X xs) N H a1 a2 a3 (fpI sU H)) ∧ (∀ (H : fl_H) (a1 : Int), ck (cm_pg X xs) N cm_m172 [.index 94, fl_t a1] H (fpI sU H)) := by
  induction N using Nat.strongRecOn with
  | ind N IH =>
    have hdGoodsBookModel_areaOfCode_94_4 : (∀ (H : fl_H) (a1 : Int) (a2 : Int) (a3 : Int), hd_GoodsBookModel_areaOfCode_94_4 (cm_pg X xs) N H a1 a2 a3 (fpI sU H)) := fun H a1 a2 a3 => vh_GoodsBookModel_areaOfCode_94_4 (have p := fr_refl sU H
      ⟨fun _ => ⟨⟨_, rfl⟩, p⟩, fun _ => (fun m hm => ck_mono ((fa_GoodsBookModel_digitOf m).2 _ _ _) (fun _ _ ⟨⟨x, hx⟩, w3⟩ => ⟨x, hx, ⟨fun _ => (fun m hm => (fun lv l0 l1 l2 l3 => vt_mono (Nat.le_refl _) (fun _ _ kk => ⟨kk.1, fr_trans (fr_trans p w3) kk.2⟩) ((IH m hm).1 _ _ _ _ lv l0 l1 l2 l3))), fun _ => (fun m hm => ck_mono ((fa_GoodsBookModel_areaOf_94 m) _ _ _) (fun _ _ ⟨⟨x, hx⟩, w10⟩ => ⟨x, hx, (fun m hm => (fun lv l0 l1 l2 l3 => vt_mono (Nat.le_refl _) (fun _ _ kk => ⟨kk.1, fr_trans (fr_trans (fr_trans p w3) w10) kk.2⟩) ((IH m hm).1 _ _ _ _ lv l0 l1 l2 l3)))⟩))⟩⟩))⟩)
    have hdE : (∀ (H : fl_H) (a1 : Int), ck (cm_pg X xs) N cm_m172 [.index 94, fl_t a1] H (fpI sU H)) := fun H a1 => ve_GoodsBookModel_areaOfCode_94 (have p := fr_refl sU H
      (fun lv l0 l1 l2 l3 => vt_mono (Nat.le_refl _) (fun _ _ kk => ⟨kk.1, fr_trans p kk.2⟩) (hdGoodsBookModel_areaOfCode_94_4 _ _ _ _ lv l0 l1 l2 l3)))
    exact ⟨hdGoodsBookModel_areaOfCode_94_4, hdE⟩

theorem fa_GoodsBookModel_bitsAt_94 {X : Term} {xs : List Int32} (N : Nat) : (∀ (H : fl_H) (a4 : Int) (a5 : Int) (a6 : Int) (a7 : Int) (a8 : Int) (a9 : Int) (a10 : Int), hd_GoodsBookModel_bitsAt_94_62 (cm_pg X xs) N H a4 a5 a6 a7 a8 a9 a10 (fpI sU H)) ∧ (∀ (H : fl_H) (a4 : Int) (a5 : Int) (a6 : Int) (a7 : Int) (a8 : Int) (a9 : Int), hd_GoodsBookModel_bitsAt_94_52 (cm_pg X xs) N H a4 a5 a6 a7 a8 a9 (fpI sU H)) ∧ (∀ (H : fl_H) (a1 : Int) (a2 : Int) (a3 : Int), ck (cm_pg X xs) N cm_m170 [.index 94, fl_t a1, fl_t a2, fl_t a3] H (fpI sU H)) := by
  induction N using Nat.strongRecOn with
  | ind N IH =>
    have hdGoodsBookModel_bitsAt_94_62 : (∀ (H : fl_H) (a4 : Int) (a5 : Int) (a6 : Int) (a7 : Int) (a8 : Int) (a9 : Int) (a10 : Int), hd_GoodsBookModel_bitsAt_94_62 (cm_pg X xs) N H a4 a5 a6 a7 a8 a9 a10 (fpI sU H)) := fun H a4 a5 a6 a7 a8 a9 a10 => vh_GoodsBookModel_bitsAt_94_62 (have p := fr_refl sU H
      ⟨fun _ => (fun m hm => (fun lv l0 l1 l2 l3 l4 l5 => vt_mono (Nat.le_refl _) (fun _ _ kk => ⟨kk.1, fr_trans p kk.2⟩) ((IH m hm).2.1 _ _ _ _ _ _ _ lv l0 l1 l2 l3 l4 l5))), fun _ => (fun m hm => (fun lv l0 l1 l2 l3 l4 l5 l6 => vt_mono (Nat.le_refl _) (fun _ _ kk => ⟨kk.1, fr_trans p kk.2⟩) ((IH m hm).1 _ _ _ _ _ _ _ _ lv l0 l1 l2 l3 l4 l5 l6)))⟩)
    have hdGoodsBookModel_bitsAt_94_52 : (∀ (H : fl_H) (a4 : Int) (a5 : Int) (a6 : Int) (a7 : Int) (a8 : Int) (a9 : Int), hd_GoodsBookModel_bitsAt_94_52 (cm_pg X xs) N H a4 a5 a6 a7 a8 a9 (fpI sU H)) := fun H a4 a5 a6 a7 a8 a9 => vh_GoodsBookModel_bitsAt_94_52 (have p := fr_refl sU H
      ⟨fun _ => ⟨⟨_, rfl⟩, p⟩, fun _ => (fun lv l0 l1 l2 l3 l4 l5 l6 => vt_mono (Nat.le_refl _) (fun _ _ kk => ⟨kk.1, fr_trans p kk.2⟩) (hdGoodsBookModel_bitsAt_94_62 _ _ _ _ _ _ _ _ lv l0 l1 l2 l3 l4 l5 l6))⟩)
    have hdE : (∀ (H : fl_H) (a1 : Int) (a2 : Int) (a3 : Int), ck (cm_pg X xs) N cm_m170 [.index 94, fl_t a1, fl_t a2, fl_t a3] H (fpI sU H)) := fun H a1 a2 a3 => ve_GoodsBookModel_bitsAt_94 (have p := fr_refl sU H
      (fun m hm => ck_mono ((fa_GoodsBookModel_wideOf_94 m) _ _ _) (fun _ _ ⟨⟨x, hx⟩, w2⟩ => ⟨x, hx, (fun m hm => ck_mono ((fa_GoodsBookModel_highOf_94 m) _ _ _) (fun _ _ ⟨⟨x, hx⟩, w5⟩ => ⟨x, hx, ⟨fun _ => ⟨⟨_, rfl⟩, (fr_trans (fr_trans p w2) w5)⟩, fun _ => ⟨fun _ => (fun lv l0 l1 l2 l3 l4 l5 => vt_mono (Nat.le_refl _) (fun _ _ kk => ⟨kk.1, fr_trans (fr_trans (fr_trans p w2) w5) kk.2⟩) (hdGoodsBookModel_bitsAt_94_52 _ _ _ _ _ _ _ lv l0 l1 l2 l3 l4 l5)), fun _ => ⟨⟨_, rfl⟩, (fr_trans (fr_trans p w2) w5)⟩⟩⟩⟩))⟩)))
    exact ⟨hdGoodsBookModel_bitsAt_94_62, hdGoodsBookModel_bitsAt_94_52, hdE⟩

theorem fa_GoodsBookModel_lay_94 {X : Term} {xs : List Int32} (N : Nat) : (∀ (H : fl_H) (a1 : Int) (a2 : Int) (a4 : Int) (a5 : Int) (a6 : Int), hd_GoodsBookModel_lay_94_95 (cm_pg X xs) N H a1 a2 a4 a5 a6 (fpI sU H)) ∧ (∀ (H : fl_H) (a1 : Int) (a2 : Int) (a3 : Int), hd_GoodsBookModel_lay_94_62 (cm_pg X xs) N H a1 a2 a3 (fpI sU H)) ∧ (∀ (H : fl_H) (a1 : Int) (a2 : Int), hd_GoodsBookModel_lay_94_7 (cm_pg X xs) N H a1 a2 (fpI sU H)) ∧ (∀ (H : fl_H) (a1 : Int), ck (cm_pg X xs) N cm_m171 [.index 94, fl_t a1] H (fpI sU H)) := by
  induction N using Nat.strongRecOn with
  | ind N IH =>
    have hdGoodsBookModel_lay_94_95 : (∀ (H : fl_H) (a1 : Int) (a2 : Int) (a4 : Int) (a5 : Int) (a6 : Int), hd_GoodsBookModel_lay_94_95 (cm_pg X xs) N H a1 a2 a4 a5 a6 (fpI sU H)) := fun H a1 a2 a4 a5 a6 => vh_GoodsBookModel_lay_94_95 (have p := fr_refl sU H
      ⟨fun _ => ⟨fun _ => ⟨fun _ => (fun m hm => (fun lv l0 l1 l2 l3 => vt_mono (Nat.le_refl _) (fun _ _ kk => ⟨kk.1, fr_trans p kk.2⟩) ((IH m hm).2.1 _ _ _ _ lv l0 l1 l2 l3))), fun _ => (fun _ => (fun m hm => (fun lv l0 l1 l2 l3 => vt_mono (Nat.le_refl _) (fun _ _ kk => ⟨kk.1, fr_trans p kk.2⟩) ((IH m hm).2.1 _ _ _ _ lv l0 l1 l2 l3))))⟩, fun _ => (fun _ H8 e9 => (fun _ => (fun m hm => ck_mono ((fa_GoodsBookModel_bitsAt_94 m).2.2 _ _ _ _) (fun _ _ ⟨⟨x, hx⟩, w13⟩ => ⟨x, hx, (fun _ H15 e16 => (fun m hm => (fun lv l0 l1 l2 l3 => vt_mono (Nat.le_refl _) (fun _ _ kk => ⟨kk.1, fr_trans (fr_up (fr_trans (fr_up p (by intros; rfl) e9) w13) (by intros; rfl) e16) kk.2⟩) ((IH m hm).2.1 _ _ _ _ lv l0 l1 l2 l3))))⟩))))⟩, fun _ => (fun m hm => ck_mono ((fa_GoodsBookModel_bitsAt_94 m).2.2 _ _ _ _) (fun _ _ ⟨⟨x, hx⟩, w21⟩ => ⟨x, hx, ⟨fun _ => (fun m hm => (fun lv l0 l1 l2 l3 l4 l5 => vt_mono (Nat.le_refl _) (fun _ _ kk => ⟨kk.1, fr_trans (fr_trans p w21) kk.2⟩) ((IH m hm).1 _ _ _ _ _ _ lv l0 l1 l2 l3 l4 l5))), fun _ => (fun m hm => ck_mono ((fa_GoodsBookModel_bitsAt_94 m).2.2 _ _ _ _) (fun _ _ ⟨⟨x, hx⟩, w26⟩ => ⟨x, hx, (fun _ => ⟨fun _ => ⟨fun _ => ⟨fun _ => (fun m hm => (fun lv l0 l1 l2 l3 => vt_mono (Nat.le_refl _) (fun _ _ kk => ⟨kk.1, fr_trans (fr_trans (fr_trans p w21) w26) kk.2⟩) ((IH m hm).2.1 _ _ _ _ lv l0 l1 l2 l3))), fun _ => (fun _ => (fun m hm => (fun lv l0 l1 l2 l3 => vt_mono (Nat.le_refl _) (fun _ _ kk => ⟨kk.1, fr_trans (fr_trans (fr_trans p w21) w26) kk.2⟩) ((IH m hm).2.1 _ _ _ _ lv l0 l1 l2 l3))))⟩, fun _ => (fun _ H36 e37 => (fun _ => (fun m hm => ck_mono ((fa_GoodsBookModel_bitsAt_94 m).2.2 _ _ _ _) (fun _ _ ⟨⟨x, hx⟩, w41⟩ => ⟨x, hx, (fun _ H43 e44 => (fun m hm => (fun lv l0 l1 l2 l3 => vt_mono (Nat.le_refl _) (fun _ _ kk => ⟨kk.1, fr_trans (fr_up (fr_trans (fr_up (fr_trans (fr_trans p w21) w26) (by intros; rfl) e37) w41) (by intros; rfl) e44) kk.2⟩) ((IH m hm).2.1 _ _ _ _ lv l0 l1 l2 l3))))⟩))))⟩, fun _ => (fun m hm => (fun lv l0 l1 l2 l3 l4 l5 => vt_mono (Nat.le_refl _) (fun _ _ kk => ⟨kk.1, fr_trans (fr_trans (fr_trans p w21) w26) kk.2⟩) ((IH m hm).1 _ _ _ _ _ _ lv l0 l1 l2 l3 l4 l5)))⟩)⟩))⟩⟩))⟩)
    have hdGoodsBookModel_lay_94_62 : (∀ (H : fl_H) (a1 : Int) (a2 : Int) (a3 : Int), hd_GoodsBookModel_lay_94_62 (cm_pg X xs) N H a1 a2 a3 (fpI sU H)) := fun H a1 a2 a3 => vh_GoodsBookModel_lay_94_62 (have p := fr_refl sU H
      ⟨fun _ => ⟨fun _ => ⟨⟨_, rfl⟩, p⟩, fun _ => ⟨⟨_, rfl⟩, p⟩⟩, fun _ => ⟨fun _ => ⟨fun _ => ⟨⟨_, rfl⟩, p⟩, fun _ => ⟨⟨_, rfl⟩, p⟩⟩, fun _ => (fun _ => (fun m hm => ck_mono ((fa_GoodsBookModel_digitOf m).2 _ _ _) (fun _ _ ⟨⟨x, hx⟩, w8⟩ => ⟨x, hx, (fun lv l0 l1 l2 l3 l4 l5 => vt_mono (Nat.le_refl _) (fun _ _ kk => ⟨kk.1, fr_trans (fr_trans p w8) kk.2⟩) (hdGoodsBookModel_lay_94_95 _ _ _ _ _ _ lv l0 l1 l2 l3 l4 l5))⟩)))⟩⟩)
    have hdGoodsBookModel_lay_94_7 : (∀ (H : fl_H) (a1 : Int) (a2 : Int), hd_GoodsBookModel_lay_94_7 (cm_pg X xs) N H a1 a2 (fpI sU H)) := fun H a1 a2 => vh_GoodsBookModel_lay_94_7 (have p := fr_refl sU H
      ⟨fun _ => (fun H4 e5 => (fun lv l0 l1 l2 l3 => vt_mono (Nat.le_refl _) (fun _ _ kk => ⟨kk.1, fr_trans (fr_up p (by intros; rfl) e5) kk.2⟩) (hdGoodsBookModel_lay_94_62 _ _ _ _ lv l0 l1 l2 l3))), fun _ => (fun m hm => ck_mono ((fa_GoodsBookModel_digitOf m).2 _ _ _) (fun _ _ ⟨⟨x, hx⟩, w7⟩ => ⟨x, hx, ⟨fun _ => (fun m hm => (fun lv l0 l1 l2 => vt_mono (Nat.le_refl _) (fun _ _ kk => ⟨kk.1, fr_trans (fr_trans p w7) kk.2⟩) ((IH m hm).2.2.1 _ _ _ lv l0 l1 l2))), fun _ => (fun _ H11 e12 => (fun H14 e15 => (fun m hm => (fun lv l0 l1 l2 => vt_mono (Nat.le_refl _) (fun _ _ kk => ⟨kk.1, fr_trans (fr_up (fr_up (fr_trans p w7) (by intros; rfl) e12) (by intros; rfl) e15) kk.2⟩) ((IH m hm).2.2.1 _ _ _ lv l0 l1 l2)))))⟩⟩))⟩)
    have hdE : (∀ (H : fl_H) (a1 : Int), ck (cm_pg X xs) N cm_m171 [.index 94, fl_t a1] H (fpI sU H)) := fun H a1 => ve_GoodsBookModel_lay_94 (have p := fr_refl sU H
      (fun H1 e2 => (fun lv l0 l1 l2 => vt_mono (Nat.le_refl _) (fun _ _ kk => ⟨kk.1, fr_trans (fr_up p (by intros; rfl) e2) kk.2⟩) (hdGoodsBookModel_lay_94_7 _ _ _ lv l0 l1 l2))))
    exact ⟨hdGoodsBookModel_lay_94_95, hdGoodsBookModel_lay_94_62, hdGoodsBookModel_lay_94_7, hdE⟩

theorem fa_GoodsBookModel_doFit_94 {X : Term} {xs : List Int32} (N : Nat) : (∀ (H : fl_H) (a1 : Int), ck (cm_pg X xs) N cm_m173 [.index 94, fl_t a1] H (fpI sU H)) := by
  induction N using Nat.strongRecOn with
  | ind N IH =>
    have hdE : (∀ (H : fl_H) (a1 : Int), ck (cm_pg X xs) N cm_m173 [.index 94, fl_t a1] H (fpI sU H)) := fun H a1 => ve_GoodsBookModel_doFit_94 (have p := fr_refl sU H
      (fun _ => ⟨fun _ => (fun m hm => ck_mono ((fa_GoodsBookModel_areaOfCode_94 m).2 _ _) (fun _ _ ⟨⟨x, hx⟩, w4⟩ => ⟨x, hx, ⟨fun _ => (fun _ H7 e8 => (fun _ => ⟨fun _ => ⟨⟨_, rfl⟩, (fr_up (fr_trans p w4) (by intros; rfl) e8)⟩, fun _ => ⟨⟨_, rfl⟩, (fr_up (fr_trans p w4) (by intros; rfl) e8)⟩⟩)), fun _ => (fun m hm => ck_mono ((fa_GoodsBookModel_lay_94 m).2.2.2 _ _) (fun _ _ ⟨⟨x, hx⟩, w13⟩ => ⟨x, hx, ⟨fun _ => (fun _ H16 e17 => (fun _ => ⟨fun _ => ⟨⟨_, rfl⟩, (fr_up (fr_trans (fr_trans p w4) w13) (by intros; rfl) e17)⟩, fun _ => ⟨⟨_, rfl⟩, (fr_up (fr_trans (fr_trans p w4) w13) (by intros; rfl) e17)⟩⟩)), fun _ => (fun _ H21 e22 => (fun _ => ⟨fun _ => ⟨⟨_, rfl⟩, (fr_up (fr_trans (fr_trans p w4) w13) (by intros; rfl) e22)⟩, fun _ => ⟨⟨_, rfl⟩, (fr_up (fr_trans (fr_trans p w4) w13) (by intros; rfl) e22)⟩⟩))⟩⟩))⟩⟩)), fun _ => (fun _ => ⟨fun _ => ⟨⟨_, rfl⟩, p⟩, fun _ => ⟨⟨_, rfl⟩, p⟩⟩)⟩))
    exact hdE

theorem fa_GoodsBookModel_firstFull_94 {X : Term} {xs : List Int32} (N : Nat) : (∀ (H : fl_H) (a1 : Int), hd_GoodsBookModel_firstFull_94_2 (cm_pg X xs) N H a1 (fpI sU H)) ∧ (∀ (H : fl_H), ck (cm_pg X xs) N cm_m186 [.index 94] H (fpI sU H)) := by
  induction N using Nat.strongRecOn with
  | ind N IH =>
    have hdGoodsBookModel_firstFull_94_2 : (∀ (H : fl_H) (a1 : Int), hd_GoodsBookModel_firstFull_94_2 (cm_pg X xs) N H a1 (fpI sU H)) := fun H a1 => vh_GoodsBookModel_firstFull_94_2 (have p := fr_refl sU H
      ⟨fun _ => ⟨⟨_, rfl⟩, p⟩, fun _ => (fun m hm => ck_mono ((fa_GoodsBookModel_codeOf_94 m).2 _ _) (fun _ _ ⟨⟨x, hx⟩, w3⟩ => ⟨x, hx, (fun m hm => ck_mono ((fa_GoodsBookModel_doFit_94 m) _ _) (fun _ _ ⟨⟨x, hx⟩, w6⟩ => ⟨x, hx, ⟨fun _ => ⟨⟨_, rfl⟩, (fr_trans (fr_trans p w3) w6)⟩, fun _ => (fun m hm => (fun lv l0 l1 => vt_mono (Nat.le_refl _) (fun _ _ kk => ⟨kk.1, fr_trans (fr_trans (fr_trans p w3) w6) kk.2⟩) ((IH m hm).1 _ _ lv l0 l1)))⟩⟩))⟩))⟩)
    have hdE : (∀ (H : fl_H), ck (cm_pg X xs) N cm_m186 [.index 94] H (fpI sU H)) := fun H => ve_GoodsBookModel_firstFull_94 (have p := fr_refl sU H
      (fun lv l0 l1 => vt_mono (Nat.le_refl _) (fun _ _ kk => ⟨kk.1, fr_trans p kk.2⟩) (hdGoodsBookModel_firstFull_94_2 _ _ lv l0 l1)))
    exact ⟨hdGoodsBookModel_firstFull_94_2, hdE⟩

theorem fa_GoodsBookModel_breaks_94 {X : Term} {xs : List Int32} (N : Nat) : (∀ (H : fl_H) (a1 : Int), ck (cm_pg X xs) N cm_m191 [.index 94, fl_t a1] H (fpI sU H)) := by
  induction N using Nat.strongRecOn with
  | ind N IH =>
    have hdE : (∀ (H : fl_H) (a1 : Int), ck (cm_pg X xs) N cm_m191 [.index 94, fl_t a1] H (fpI sU H)) := fun H a1 => ve_GoodsBookModel_breaks_94 (have p := fr_refl sU H
      ⟨fun _ => (fun m hm => ck_mono ((fa_GoodsBookModel_takePlan_94 m).2 _) (fun _ _ ⟨hx, w3⟩ => ⟨hx, ⟨fun _ => (fun m hm => ck_mono ((fa_GoodsBookModel_firstBroken_94 m).2 _) (fun _ _ ⟨⟨x, hx⟩, w6⟩ => ⟨x, hx, ⟨⟨_, rfl⟩, (fr_trans (fr_trans p w3) w6)⟩⟩)), fun _ => (fun m hm => ck_mono ((fa_GoodsBookModel_firstFull_94 m).2 _) (fun _ _ ⟨⟨x, hx⟩, w9⟩ => ⟨x, hx, ⟨⟨_, rfl⟩, (fr_trans (fr_trans p w3) w9)⟩⟩))⟩⟩)), fun _ => ⟨⟨_, rfl⟩, p⟩⟩)
    exact hdE

theorem fa_GoodsBookModel_square_94 {X : Term} {xs : List Int32} (N : Nat) : (∀ (H : fl_H) (a1 : Int) (a3 : Int), hd_GoodsBookModel_square_94_59 (cm_pg X xs) N H a1 a3 (fpI sU H)) ∧ (∀ (H : fl_H) (a1 : Int), ck (cm_pg X xs) N cm_m192 [.index 94, fl_t a1] H (fpI sU H)) := by
  induction N using Nat.strongRecOn with
  | ind N IH =>
    have hdGoodsBookModel_square_94_59 : (∀ (H : fl_H) (a1 : Int) (a3 : Int), hd_GoodsBookModel_square_94_59 (cm_pg X xs) N H a1 a3 (fpI sU H)) := fun H a1 a3 => vh_GoodsBookModel_square_94_59 (have p := fr_refl sU H
      (fun _ => ⟨fun _ => (fun _ => ⟨⟨_, rfl⟩, p⟩), fun _ => (fun m hm => (fun lv l0 l1 l2 => vt_mono (Nat.le_refl _) (fun _ _ kk => ⟨kk.1, fr_trans p kk.2⟩) ((IH m hm).1 _ _ _ lv l0 l1 l2)))⟩))
    have hdE : (∀ (H : fl_H) (a1 : Int), ck (cm_pg X xs) N cm_m192 [.index 94, fl_t a1] H (fpI sU H)) := fun H a1 => ve_GoodsBookModel_square_94 (have p := fr_refl sU H
      (fun m hm => ck_mono ((fa_GoodsBookModel_isGood_94 m) _ _) (fun _ _ ⟨⟨x, hx⟩, w2⟩ => ⟨x, hx, ⟨fun _ => ⟨⟨_, rfl⟩, (fr_trans p w2)⟩, fun _ => (fun m hm => ck_mono ((fa_GoodsBookModel_takePlan_94 m).2 _) (fun _ _ ⟨hx, w6⟩ => ⟨hx, (fun _ => ⟨fun _ => ⟨⟨_, rfl⟩, (fr_trans (fr_trans p w2) w6)⟩, fun _ => (fun _ => (fun m hm => ck_mono ((fa_GoodsBookModel_pageOf m) _ _) (fun _ _ ⟨⟨x, hx⟩, w11⟩ => ⟨x, hx, (fun m hm => ck_mono ((fa_GoodsBookModel_codeOf_94 m).2 _ _) (fun _ _ ⟨⟨x, hx⟩, w14⟩ => ⟨x, hx, (fun m hm => ck_mono ((fa_GoodsBookModel_doFit_94 m) _ _) (fun _ _ ⟨⟨x, hx⟩, w17⟩ => ⟨x, hx, ⟨fun _ => ⟨⟨_, rfl⟩, (fr_trans (fr_trans (fr_trans (fr_trans (fr_trans p w2) w6) w11) w14) w17)⟩, fun _ => (fun m hm => ck_mono ((fa_GoodsBookModel_lay_94 m).2.2.2 _ _) (fun _ _ ⟨⟨x, hx⟩, w21⟩ => ⟨x, hx, (fun lv l0 l1 l2 => vt_mono (Nat.le_refl _) (fun _ _ kk => ⟨kk.1, fr_trans (fr_trans (fr_trans (fr_trans (fr_trans (fr_trans (fr_trans p w2) w6) w11) w14) w17) w21) kk.2⟩) (hdGoodsBookModel_square_94_59 _ _ _ lv l0 l1 l2))⟩))⟩⟩))⟩))⟩)))⟩)⟩))⟩⟩)))
    exact ⟨hdGoodsBookModel_square_94_59, hdE⟩

theorem fa_GoodsBookModel_isPage_94 {X : Term} {xs : List Int32} (N : Nat) : (∀ (H : fl_H) (a1 : Int), ck (cm_pg X xs) N cm_m148 [.index 94, fl_t a1] H (fpI sU H)) := by
  induction N using Nat.strongRecOn with
  | ind N IH =>
    have hdE : (∀ (H : fl_H) (a1 : Int), ck (cm_pg X xs) N cm_m148 [.index 94, fl_t a1] H (fpI sU H)) := fun H a1 => ve_GoodsBookModel_isPage_94 (have p := fr_refl sU H
      ⟨⟨_, rfl⟩, p⟩)
    exact hdE

theorem fa_GoodsBookModel_isSheet {X : Term} {xs : List Int32} (N : Nat) : (∀ (H : fl_H) (a0 : Int) (a1 : Int), ck (cm_pg X xs) N cm_m235 [fl_t a0, fl_t a1] H (fpI sU H)) := by
  induction N using Nat.strongRecOn with
  | ind N IH =>
    have hdE : (∀ (H : fl_H) (a0 : Int) (a1 : Int), ck (cm_pg X xs) N cm_m235 [fl_t a0, fl_t a1] H (fpI sU H)) := fun H a0 a1 => ve_GoodsBookModel_isSheet (have p := fr_refl sU H
      ⟨fun _ => ⟨fun _ => ⟨⟨_, rfl⟩, p⟩, fun _ => ⟨⟨_, rfl⟩, p⟩⟩, fun _ => ⟨⟨_, rfl⟩, p⟩⟩)
    exact hdE

theorem fa_GoodsBookModel_lacksRow_94 {X : Term} {xs : List Int32} (N : Nat) : (∀ (H : fl_H) (a1 : Int) (a2 : Int) (a3 : Int) (a4 : Int), ck (cm_pg X xs) N cm_m238 [.index 94, fl_t a1, fl_t a2, fl_t a3, fl_t a4] H (fpI sU H)) := by
  induction N using Nat.strongRecOn with
  | ind N IH =>
    have hdE : (∀ (H : fl_H) (a1 : Int) (a2 : Int) (a3 : Int) (a4 : Int), ck (cm_pg X xs) N cm_m238 [.index 94, fl_t a1, fl_t a2, fl_t a3, fl_t a4] H (fpI sU H)) := fun H a1 a2 a3 a4 => ve_GoodsBookModel_lacksRow_94 (have p := fr_refl sU H
      (fun _ => ⟨fun _ => (fun _ => ⟨fun _ => ⟨⟨_, rfl⟩, p⟩, fun _ => ⟨⟨_, rfl⟩, p⟩⟩), fun _ => (fun _ => ⟨fun _ => ⟨⟨_, rfl⟩, p⟩, fun _ => ⟨⟨_, rfl⟩, p⟩⟩)⟩))
    exact hdE

theorem fa_GoodsBookModel_judge_94 {X : Term} {xs : List Int32} (N : Nat) : (∀ (H : fl_H) (a1 : Int) (a6 : Int) (a7 : Int) (a8 : Int), hd_GoodsBookModel_judge_94_60 (cm_pg X xs) N H a1 a6 a7 a8 (fpI sU H)) ∧ (∀ (H : fl_H) (a1 : Int) (a2 : Int) (a3 : Int) (a4 : Int), ck (cm_pg X xs) N cm_m241 [.index 94, fl_t a1, fl_t a2, fl_t a3, fl_t a4] H (fpI sU H)) := by
  induction N using Nat.strongRecOn with
  | ind N IH =>
    have hdGoodsBookModel_judge_94_60 : (∀ (H : fl_H) (a1 : Int) (a6 : Int) (a7 : Int) (a8 : Int), hd_GoodsBookModel_judge_94_60 (cm_pg X xs) N H a1 a6 a7 a8 (fpI sU H)) := fun H a1 a6 a7 a8 => vh_GoodsBookModel_judge_94_60 (have p := fr_refl sU H
      ⟨fun _ => ⟨⟨_, rfl⟩, p⟩, fun _ => (fun _ => (fun m hm => ck_mono ((fa_GoodsBookModel_pageOf m) _ _) (fun _ _ ⟨⟨x, hx⟩, w4⟩ => ⟨x, hx, ⟨fun _ => (fun _ => ⟨fun _ => (fun _ => (fun _ => (fun m hm => ck_mono ((fa_GoodsBookModel_bitsAt_94 m).2.2 _ _ _ _) (fun _ _ ⟨⟨x, hx⟩, w12⟩ => ⟨x, hx, ⟨fun _ => ⟨⟨_, rfl⟩, (fr_trans (fr_trans p w4) w12)⟩, fun _ => ⟨fun _ => (fun m hm => (fun lv l0 l1 l2 l3 l4 => vt_mono (Nat.le_refl _) (fun _ _ kk => ⟨kk.1, fr_trans (fr_trans (fr_trans p w4) w12) kk.2⟩) ((IH m hm).1 _ _ _ _ _ lv l0 l1 l2 l3 l4))), fun _ => ⟨⟨_, rfl⟩, (fr_trans (fr_trans p w4) w12)⟩⟩⟩⟩)))), fun _ => ⟨⟨_, rfl⟩, (fr_trans p w4)⟩⟩), fun _ => (fun m hm => (fun lv l0 l1 l2 l3 l4 => vt_mono (Nat.le_refl _) (fun _ _ kk => ⟨kk.1, fr_trans (fr_trans p w4) kk.2⟩) ((IH m hm).1 _ _ _ _ _ lv l0 l1 l2 l3 l4)))⟩⟩)))⟩)
    have hdE : (∀ (H : fl_H) (a1 : Int) (a2 : Int) (a3 : Int) (a4 : Int), ck (cm_pg X xs) N cm_m241 [.index 94, fl_t a1, fl_t a2, fl_t a3, fl_t a4] H (fpI sU H)) := fun H a1 a2 a3 a4 => ve_GoodsBookModel_judge_94 (have p := fr_refl sU H
      (fun m hm => ck_mono ((fa_GoodsBookModel_isPage_94 m) _ _) (fun _ _ ⟨⟨x, hx⟩, w2⟩ => ⟨x, hx, ⟨fun _ => ⟨⟨_, rfl⟩, (fr_trans p w2)⟩, fun _ => (fun m hm => ck_mono ((fa_GoodsBookModel_isSheet m) _ _ _) (fun _ _ ⟨⟨x, hx⟩, w6⟩ => ⟨x, hx, ⟨fun _ => ⟨⟨_, rfl⟩, (fr_trans (fr_trans p w2) w6)⟩, fun _ => (fun m hm => ck_mono ((fa_GoodsBookModel_takePlan_94 m).2 _) (fun _ _ ⟨hx, w10⟩ => ⟨hx, (fun m hm => ck_mono ((fa_GoodsBookModel_onPage_94 m).2 _ _) (fun _ _ ⟨⟨x, hx⟩, w12⟩ => ⟨x, hx, (fun m hm => ck_mono ((fa_GoodsBookModel_lacksRow_94 m) _ _ _ _ _) (fun _ _ ⟨⟨x, hx⟩, w15⟩ => ⟨x, hx, ⟨fun _ => (fun lv l0 l1 l2 l3 l4 => vt_mono (Nat.le_refl _) (fun _ _ kk => ⟨kk.1, fr_trans (fr_trans (fr_trans (fr_trans (fr_trans (fr_trans p w2) w6) w10) w12) w15) kk.2⟩) (hdGoodsBookModel_judge_94_60 _ _ _ _ _ lv l0 l1 l2 l3 l4)), fun _ => ⟨⟨_, rfl⟩, (fr_trans (fr_trans (fr_trans (fr_trans (fr_trans p w2) w6) w10) w12) w15)⟩⟩⟩))⟩))⟩))⟩⟩))⟩⟩)))
    exact ⟨hdGoodsBookModel_judge_94_60, hdE⟩

theorem fa_GoodsBookModel_codes_94 {X : Term} {xs : List Int32} (N : Nat) : (∀ (H : fl_H) (a1 : Int) (a2 : Int), hd_GoodsBookModel_codes_94_4 (cm_pg X xs) N H a1 a2 (fpI sU H)) ∧ (∀ (H : fl_H), ck (cm_pg X xs) N cm_m174 [.index 94] H (fpI sU H)) := by
  induction N using Nat.strongRecOn with
  | ind N IH =>
    have hdGoodsBookModel_codes_94_4 : (∀ (H : fl_H) (a1 : Int) (a2 : Int), hd_GoodsBookModel_codes_94_4 (cm_pg X xs) N H a1 a2 (fpI sU H)) := fun H a1 a2 => vh_GoodsBookModel_codes_94_4 (have p := fr_refl sU H
      ⟨fun _ => ⟨⟨_, rfl⟩, p⟩, fun _ => (fun m hm => (fun lv l0 l1 l2 => vt_mono (Nat.le_refl _) (fun _ _ kk => ⟨kk.1, fr_trans p kk.2⟩) ((IH m hm).1 _ _ _ lv l0 l1 l2)))⟩)
    have hdE : (∀ (H : fl_H), ck (cm_pg X xs) N cm_m174 [.index 94] H (fpI sU H)) := fun H => ve_GoodsBookModel_codes_94 (have p := fr_refl sU H
      (fun lv l0 l1 l2 => vt_mono (Nat.le_refl _) (fun _ _ kk => ⟨kk.1, fr_trans p kk.2⟩) (hdGoodsBookModel_codes_94_4 _ _ _ lv l0 l1 l2)))
    exact ⟨hdGoodsBookModel_codes_94_4, hdE⟩

theorem fa_GoodsBookModel_fits_94 {X : Term} {xs : List Int32} (N : Nat) : (∀ (H : fl_H) (a1 : Int), ck (cm_pg X xs) N cm_m175 [.index 94, fl_t a1] H (fpI sU H)) := by
  induction N using Nat.strongRecOn with
  | ind N IH =>
    have hdE : (∀ (H : fl_H) (a1 : Int), ck (cm_pg X xs) N cm_m175 [.index 94, fl_t a1] H (fpI sU H)) := fun H a1 => ve_GoodsBookModel_fits_94 (have p := fr_refl sU H
      (fun m hm => ck_mono ((fa_GoodsBookModel_codes_94 m).2 _) (fun _ _ ⟨⟨x, hx⟩, w2⟩ => ⟨x, hx, ⟨fun _ => (fun m hm => ck_mono ((fa_GoodsBookModel_doFit_94 m) _ _) (fun _ _ ⟨⟨x, hx⟩, w6⟩ => ⟨x, hx, ⟨fun _ => ⟨⟨_, rfl⟩, (fr_trans (fr_trans p w2) w6)⟩, fun _ => ⟨⟨_, rfl⟩, (fr_trans (fr_trans p w2) w6)⟩⟩⟩)), fun _ => ⟨⟨_, rfl⟩, (fr_trans p w2)⟩⟩⟩)))
    exact hdE

theorem fa_GoodsBookModel_rows_94 {X : Term} {xs : List Int32} (N : Nat) : (∀ (H : fl_H) (a1 : Int) (a2 : Int), hd_GoodsBookModel_rows_94_4 (cm_pg X xs) N H a1 a2 (fpI sU H)) ∧ (∀ (H : fl_H), ck (cm_pg X xs) N cm_m193 [.index 94] H (fpI sU H)) := by
  induction N using Nat.strongRecOn with
  | ind N IH =>
    have hdGoodsBookModel_rows_94_4 : (∀ (H : fl_H) (a1 : Int) (a2 : Int), hd_GoodsBookModel_rows_94_4 (cm_pg X xs) N H a1 a2 (fpI sU H)) := fun H a1 a2 => vh_GoodsBookModel_rows_94_4 (have p := fr_refl sU H
      ⟨fun _ => ⟨⟨_, rfl⟩, p⟩, fun _ => (fun m hm => (fun lv l0 l1 l2 => vt_mono (Nat.le_refl _) (fun _ _ kk => ⟨kk.1, fr_trans p kk.2⟩) ((IH m hm).1 _ _ _ lv l0 l1 l2)))⟩)
    have hdE : (∀ (H : fl_H), ck (cm_pg X xs) N cm_m193 [.index 94] H (fpI sU H)) := fun H => ve_GoodsBookModel_rows_94 (have p := fr_refl sU H
      (fun lv l0 l1 l2 => vt_mono (Nat.le_refl _) (fun _ _ kk => ⟨kk.1, fr_trans p kk.2⟩) (hdGoodsBookModel_rows_94_4 _ _ _ lv l0 l1 l2)))
    exact ⟨hdGoodsBookModel_rows_94_4, hdE⟩

theorem fa_GoodsBookModel_layRow_94 {X : Term} {xs : List Int32} (N : Nat) : (∀ (H : fl_H) (a2 : Int) (a3 : Int), hd_GoodsBookModel_layRow_94_11 (cm_pg X xs) N H a2 a3 (fpV sU H)) ∧ (∀ (H : fl_H) (a1 : Int), ck (cm_pg X xs) N cm_m194 [.index 94, fl_t a1] H (fpV sU H)) := by
  induction N using Nat.strongRecOn with
  | ind N IH =>
    have hdGoodsBookModel_layRow_94_11 : (∀ (H : fl_H) (a2 : Int) (a3 : Int), hd_GoodsBookModel_layRow_94_11 (cm_pg X xs) N H a2 a3 (fpV sU H)) := fun H a2 a3 => vh_GoodsBookModel_layRow_94_11 (have p := fr_refl sU H
      ⟨fun _ => ⟨rfl, p⟩, fun _ => (fun _ H2 e3 => (fun m hm => (fun lv l0 l1 l2 => vt_mono (Nat.le_refl _) (fun _ _ kk => ⟨kk.1, fr_trans (fr_up p (by intros; rfl) e3) kk.2⟩) ((IH m hm).1 _ _ _ lv l0 l1 l2))))⟩)
    have hdE : (∀ (H : fl_H) (a1 : Int), ck (cm_pg X xs) N cm_m194 [.index 94, fl_t a1] H (fpV sU H)) := fun H a1 => ve_GoodsBookModel_layRow_94 (have p := fr_refl sU H
      (fun lv l0 l1 l2 => vt_mono (Nat.le_refl _) (fun _ _ kk => ⟨kk.1, fr_trans p kk.2⟩) (hdGoodsBookModel_layRow_94_11 _ _ _ lv l0 l1 l2)))
    exact ⟨hdGoodsBookModel_layRow_94_11, hdE⟩

theorem fa_GoodsBookModel_isGoodPlan_94 {X : Term} {xs : List Int32} (N : Nat) : (∀ (H : fl_H), ck (cm_pg X xs) N cm_m187 [.index 94] H (fpI sU H)) := by
  induction N using Nat.strongRecOn with
  | ind N IH =>
    have hdE : (∀ (H : fl_H), ck (cm_pg X xs) N cm_m187 [.index 94] H (fpI sU H)) := fun H => ve_GoodsBookModel_isGoodPlan_94 (have p := fr_refl sU H
      (fun m hm => ck_mono ((fa_GoodsBookModel_firstBroken_94 m).2 _) (fun _ _ ⟨⟨x, hx⟩, w2⟩ => ⟨x, hx, ⟨fun _ => ⟨⟨_, rfl⟩, (fr_trans p w2)⟩, fun _ => (fun m hm => ck_mono ((fa_GoodsBookModel_firstFull_94 m).2 _) (fun _ _ ⟨⟨x, hx⟩, w6⟩ => ⟨x, hx, ⟨fun _ => ⟨⟨_, rfl⟩, (fr_trans (fr_trans p w2) w6)⟩, fun _ => ⟨⟨_, rfl⟩, (fr_trans (fr_trans p w2) w6)⟩⟩⟩))⟩⟩)))
    exact hdE

theorem fa_GoodsBookModel_keepBest_94 {X : Term} {xs : List Int32} (N : Nat) : (∀ (H : fl_H) (a2 : Int), hd_GoodsBookModel_keepBest_94_7 (cm_pg X xs) N H a2 (fpV sU H)) ∧ (∀ (H : fl_H) (a1 : Int), ck (cm_pg X xs) N cm_m195 [.index 94, fl_t a1] H (fpV sU H)) := by
  induction N using Nat.strongRecOn with
  | ind N IH =>
    have hdGoodsBookModel_keepBest_94_7 : (∀ (H : fl_H) (a2 : Int), hd_GoodsBookModel_keepBest_94_7 (cm_pg X xs) N H a2 (fpV sU H)) := fun H a2 => vh_GoodsBookModel_keepBest_94_7 (have p := fr_refl sU H
      ⟨fun _ => ⟨rfl, p⟩, fun _ => (fun _ => (fun _ H3 e4 => (fun m hm => (fun lv l0 l1 => vt_mono (Nat.le_refl _) (fun _ _ kk => ⟨kk.1, fr_trans (fr_up p (by intros; rfl) e4) kk.2⟩) ((IH m hm).1 _ _ lv l0 l1)))))⟩)
    have hdE : (∀ (H : fl_H) (a1 : Int), ck (cm_pg X xs) N cm_m195 [.index 94, fl_t a1] H (fpV sU H)) := fun H a1 => ve_GoodsBookModel_keepBest_94 (have p := fr_refl sU H
      (fun H1 e2 => (fun lv l0 l1 => vt_mono (Nat.le_refl _) (fun _ _ kk => ⟨kk.1, fr_trans (fr_up p (by intros; rfl) e2) kk.2⟩) (hdGoodsBookModel_keepBest_94_7 _ _ lv l0 l1))))
    exact ⟨hdGoodsBookModel_keepBest_94_7, hdE⟩

theorem fa_GoodsBookModel_findBest_94 {X : Term} {xs : List Int32} (N : Nat) : (∀ (H : fl_H) (a1 : Int) (a2 : Int) (a3 : Int), hd_GoodsBookModel_findBest_94_9 (cm_pg X xs) N H a1 a2 a3 (fpV sU H)) ∧ (∀ (H : fl_H), ck (cm_pg X xs) N cm_m196 [.index 94] H (fpV sU H)) := by
  induction N using Nat.strongRecOn with
  | ind N IH =>
    have hdGoodsBookModel_findBest_94_9 : (∀ (H : fl_H) (a1 : Int) (a2 : Int) (a3 : Int), hd_GoodsBookModel_findBest_94_9 (cm_pg X xs) N H a1 a2 a3 (fpV sU H)) := fun H a1 a2 a3 => vh_GoodsBookModel_findBest_94_9 (have p := fr_refl sU H
      ⟨fun _ => ⟨rfl, p⟩, fun _ => (fun m hm => ck_mono ((fa_GoodsBookModel_layRow_94 m).2 _ _) (fun _ _ ⟨hx, w3⟩ => ⟨hx, (fun m hm => ck_mono ((fa_GoodsBookModel_isGoodPlan_94 m) _) (fun _ _ ⟨⟨x, hx⟩, w5⟩ => ⟨x, hx, ⟨fun _ => (fun m hm => (fun lv l0 l1 l2 l3 => vt_mono (Nat.le_refl _) (fun _ _ kk => ⟨kk.1, fr_trans (fr_trans (fr_trans p w3) w5) kk.2⟩) ((IH m hm).1 _ _ _ _ lv l0 l1 l2 l3))), fun _ => (fun m hm => ck_mono ((fa_GoodsBookModel_worthOf_94 m).2.2.2 _) (fun _ _ ⟨⟨x, hx⟩, w10⟩ => ⟨x, hx, ⟨fun _ => (fun m hm => ck_mono ((fa_GoodsBookModel_keepBest_94 m).2 _ _) (fun _ _ ⟨hx, w15⟩ => ⟨hx, (fun m hm => (fun lv l0 l1 l2 l3 => vt_mono (Nat.le_refl _) (fun _ _ kk => ⟨kk.1, fr_trans (fr_trans (fr_trans (fr_trans (fr_trans p w3) w5) w10) w15) kk.2⟩) ((IH m hm).1 _ _ _ _ lv l0 l1 l2 l3)))⟩)), fun _ => ⟨fun _ => (fun m hm => (fun lv l0 l1 l2 l3 => vt_mono (Nat.le_refl _) (fun _ _ kk => ⟨kk.1, fr_trans (fr_trans (fr_trans (fr_trans p w3) w5) w10) kk.2⟩) ((IH m hm).1 _ _ _ _ lv l0 l1 l2 l3))), fun _ => (fun m hm => ck_mono ((fa_GoodsBookModel_keepBest_94 m).2 _ _) (fun _ _ ⟨hx, w21⟩ => ⟨hx, (fun m hm => (fun lv l0 l1 l2 l3 => vt_mono (Nat.le_refl _) (fun _ _ kk => ⟨kk.1, fr_trans (fr_trans (fr_trans (fr_trans (fr_trans p w3) w5) w10) w21) kk.2⟩) ((IH m hm).1 _ _ _ _ lv l0 l1 l2 l3)))⟩))⟩⟩⟩))⟩⟩))⟩))⟩)
    have hdE : (∀ (H : fl_H), ck (cm_pg X xs) N cm_m196 [.index 94] H (fpV sU H)) := fun H => ve_GoodsBookModel_findBest_94 (have p := fr_refl sU H
      (fun m hm => ck_mono ((fa_GoodsBookModel_rows_94 m).2 _) (fun _ _ ⟨⟨x, hx⟩, w2⟩ => ⟨x, hx, (fun lv l0 l1 l2 l3 => vt_mono (Nat.le_refl _) (fun _ _ kk => ⟨kk.1, fr_trans (fr_trans p w2) kk.2⟩) (hdGoodsBookModel_findBest_94_9 _ _ _ _ lv l0 l1 l2 l3))⟩)))
    exact ⟨hdGoodsBookModel_findBest_94_9, hdE⟩

theorem fa_GoodsBookModel_best_94 {X : Term} {xs : List Int32} (N : Nat) : (∀ (H : fl_H) (a1 : Int), ck (cm_pg X xs) N cm_m197 [.index 94, fl_t a1] H (fpI sU H)) := by
  induction N using Nat.strongRecOn with
  | ind N IH =>
    have hdE : (∀ (H : fl_H) (a1 : Int), ck (cm_pg X xs) N cm_m197 [.index 94, fl_t a1] H (fpI sU H)) := fun H a1 => ve_GoodsBookModel_best_94 (have p := fr_refl sU H
      ⟨fun _ => (fun m hm => ck_mono ((fa_GoodsBookModel_findBest_94 m).2 _) (fun _ _ ⟨hx, w3⟩ => ⟨hx, ⟨fun _ => (fun _ => ⟨⟨_, rfl⟩, (fr_trans p w3)⟩), fun _ => ⟨⟨_, rfl⟩, (fr_trans p w3)⟩⟩⟩)), fun _ => (fun m hm => ck_mono ((fa_GoodsBookModel_isGood_94 m) _ _) (fun _ _ ⟨⟨x, hx⟩, w7⟩ => ⟨x, hx, ⟨fun _ => ⟨⟨_, rfl⟩, (fr_trans p w7)⟩, fun _ => (fun m hm => ck_mono ((fa_GoodsBookModel_findBest_94 m).2 _) (fun _ _ ⟨hx, w11⟩ => ⟨hx, ⟨fun _ => (fun _ => ⟨⟨_, rfl⟩, (fr_trans (fr_trans p w7) w11)⟩), fun _ => ⟨⟨_, rfl⟩, (fr_trans (fr_trans p w7) w11)⟩⟩⟩))⟩⟩))⟩)
    exact hdE

theorem fa_GoodsBookModel_alone_94 {X : Term} {xs : List Int32} (N : Nat) : (∀ (H : fl_H) (a1 : Int) (a2 : Int) (a3 : Int) (a4 : Int) (a5 : Int) (a6 : Int), hd_GoodsBookModel_alone_94_9 (cm_pg X xs) N H a1 a2 a3 a4 a5 a6 (fpI sU H)) ∧ (∀ (H : fl_H) (a1 : Int) (a2 : Int) (a3 : Int), ck (cm_pg X xs) N cm_m199 [.index 94, fl_t a1, fl_t a2, fl_t a3] H (fpI sU H)) := by
  induction N using Nat.strongRecOn with
  | ind N IH =>
    have hdGoodsBookModel_alone_94_9 : (∀ (H : fl_H) (a1 : Int) (a2 : Int) (a3 : Int) (a4 : Int) (a5 : Int) (a6 : Int), hd_GoodsBookModel_alone_94_9 (cm_pg X xs) N H a1 a2 a3 a4 a5 a6 (fpI sU H)) := fun H a1 a2 a3 a4 a5 a6 => vh_GoodsBookModel_alone_94_9 (have p := fr_refl sU H
      ⟨fun _ => ⟨⟨_, rfl⟩, p⟩, fun _ => (fun m hm => ck_mono ((fa_GoodsBookModel_saleOf_94 m) _ _ _) (fun _ _ ⟨⟨x, hx⟩, w3⟩ => ⟨x, hx, (fun m hm => ck_mono ((fa_GoodsBookModel_areaOf_94 m) _ _ _) (fun _ _ ⟨⟨x, hx⟩, w6⟩ => ⟨x, hx, ⟨fun _ => ⟨fun _ => (fun m hm => (fun lv l0 l1 l2 l3 l4 l5 l6 => vt_mono (Nat.le_refl _) (fun _ _ kk => ⟨kk.1, fr_trans (fr_trans (fr_trans p w3) w6) kk.2⟩) ((IH m hm).1 _ _ _ _ _ _ _ lv l0 l1 l2 l3 l4 l5 l6))), fun _ => (fun m hm => (fun lv l0 l1 l2 l3 l4 l5 l6 => vt_mono (Nat.le_refl _) (fun _ _ kk => ⟨kk.1, fr_trans (fr_trans (fr_trans p w3) w6) kk.2⟩) ((IH m hm).1 _ _ _ _ _ _ _ lv l0 l1 l2 l3 l4 l5 l6)))⟩, fun _ => ⟨fun _ => (fun m hm => ck_mono ((fa_GoodsBookModel_areaOf_94 m) _ _ _) (fun _ _ ⟨⟨x, hx⟩, w19⟩ => ⟨x, hx, (fun m hm => ck_mono ((fa_GoodsBookModel_areaOf_94 m) _ _ _) (fun _ _ ⟨⟨x, hx⟩, w22⟩ => ⟨x, hx, ⟨fun _ => ⟨fun _ => (fun m hm => (fun lv l0 l1 l2 l3 l4 l5 l6 => vt_mono (Nat.le_refl _) (fun _ _ kk => ⟨kk.1, fr_trans (fr_trans (fr_trans (fr_trans (fr_trans p w3) w6) w19) w22) kk.2⟩) ((IH m hm).1 _ _ _ _ _ _ _ lv l0 l1 l2 l3 l4 l5 l6))), fun _ => (fun m hm => (fun lv l0 l1 l2 l3 l4 l5 l6 => vt_mono (Nat.le_refl _) (fun _ _ kk => ⟨kk.1, fr_trans (fr_trans (fr_trans (fr_trans (fr_trans p w3) w6) w19) w22) kk.2⟩) ((IH m hm).1 _ _ _ _ _ _ _ lv l0 l1 l2 l3 l4 l5 l6)))⟩, fun _ => ⟨fun _ => (fun m hm => (fun lv l0 l1 l2 l3 l4 l5 l6 => vt_mono (Nat.le_refl _) (fun _ _ kk => ⟨kk.1, fr_trans (fr_trans (fr_trans (fr_trans (fr_trans p w3) w6) w19) w22) kk.2⟩) ((IH m hm).1 _ _ _ _ _ _ _ lv l0 l1 l2 l3 l4 l5 l6))), fun _ => (fun m hm => (fun lv l0 l1 l2 l3 l4 l5 l6 => vt_mono (Nat.le_refl _) (fun _ _ kk => ⟨kk.1, fr_trans (fr_trans (fr_trans (fr_trans (fr_trans p w3) w6) w19) w22) kk.2⟩) ((IH m hm).1 _ _ _ _ _ _ _ lv l0 l1 l2 l3 l4 l5 l6)))⟩⟩⟩))⟩)), fun _ => ⟨fun _ => (fun m hm => (fun lv l0 l1 l2 l3 l4 l5 l6 => vt_mono (Nat.le_refl _) (fun _ _ kk => ⟨kk.1, fr_trans (fr_trans (fr_trans p w3) w6) kk.2⟩) ((IH m hm).1 _ _ _ _ _ _ _ lv l0 l1 l2 l3 l4 l5 l6))), fun _ => (fun m hm => (fun lv l0 l1 l2 l3 l4 l5 l6 => vt_mono (Nat.le_refl _) (fun _ _ kk => ⟨kk.1, fr_trans (fr_trans (fr_trans p w3) w6) kk.2⟩) ((IH m hm).1 _ _ _ _ _ _ _ lv l0 l1 l2 l3 l4 l5 l6)))⟩⟩⟩⟩))⟩))⟩)
    have hdE : (∀ (H : fl_H) (a1 : Int) (a2 : Int) (a3 : Int), ck (cm_pg X xs) N cm_m199 [.index 94, fl_t a1, fl_t a2, fl_t a3] H (fpI sU H)) := fun H a1 a2 a3 => ve_GoodsBookModel_alone_94 (have p := fr_refl sU H
      (fun lv l0 l1 l2 l3 l4 l5 l6 => vt_mono (Nat.le_refl _) (fun _ _ kk => ⟨kk.1, fr_trans p kk.2⟩) (hdGoodsBookModel_alone_94_9 _ _ _ _ _ _ _ lv l0 l1 l2 l3 l4 l5 l6)))
    exact ⟨hdGoodsBookModel_alone_94_9, hdE⟩

theorem fa_GoodsBookModel_priceFor_94 {X : Term} {xs : List Int32} (N : Nat) : (∀ (H : fl_H) (a1 : Int) (a2 : Int) (a4 : Int) (a5 : Int), hd_GoodsBookModel_priceFor_94_14 (cm_pg X xs) N H a1 a2 a4 a5 (fpI sU H)) ∧ (∀ (H : fl_H) (a1 : Int) (a2 : Int) (a3 : Int), hd_GoodsBookModel_priceFor_94_4 (cm_pg X xs) N H a1 a2 a3 (fpI sU H)) ∧ (∀ (H : fl_H) (a1 : Int), ck (cm_pg X xs) N cm_m200 [.index 94, fl_t a1] H (fpI sU H)) := by
  induction N using Nat.strongRecOn with
  | ind N IH =>
    have hdGoodsBookModel_priceFor_94_14 : (∀ (H : fl_H) (a1 : Int) (a2 : Int) (a4 : Int) (a5 : Int), hd_GoodsBookModel_priceFor_94_14 (cm_pg X xs) N H a1 a2 a4 a5 (fpI sU H)) := fun H a1 a2 a4 a5 => vh_GoodsBookModel_priceFor_94_14 (have p := fr_refl sU H
      ⟨fun _ => ⟨fun _ => (fun m hm => (fun lv l0 l1 l2 l3 => vt_mono (Nat.le_refl _) (fun _ _ kk => ⟨kk.1, fr_trans p kk.2⟩) ((IH m hm).2.1 _ _ _ _ lv l0 l1 l2 l3))), fun _ => (fun m hm => (fun lv l0 l1 l2 l3 => vt_mono (Nat.le_refl _) (fun _ _ kk => ⟨kk.1, fr_trans p kk.2⟩) ((IH m hm).2.1 _ _ _ _ lv l0 l1 l2 l3)))⟩, fun _ => (fun m hm => ck_mono ((fa_GoodsBookModel_alone_94 m).2 _ _ _ _) (fun _ _ ⟨⟨x, hx⟩, w10⟩ => ⟨x, hx, ⟨fun _ => (fun m hm => (fun lv l0 l1 l2 l3 l4 => vt_mono (Nat.le_refl _) (fun _ _ kk => ⟨kk.1, fr_trans (fr_trans p w10) kk.2⟩) ((IH m hm).1 _ _ _ _ _ lv l0 l1 l2 l3 l4))), fun _ => (fun m hm => ck_mono ((fa_GoodsBookModel_areaOf_94 m) _ _ _) (fun _ _ ⟨⟨x, hx⟩, w17⟩ => ⟨x, hx, (fun m hm => (fun lv l0 l1 l2 l3 l4 => vt_mono (Nat.le_refl _) (fun _ _ kk => ⟨kk.1, fr_trans (fr_trans (fr_trans p w10) w17) kk.2⟩) ((IH m hm).1 _ _ _ _ _ lv l0 l1 l2 l3 l4)))⟩))⟩⟩))⟩)
    have hdGoodsBookModel_priceFor_94_4 : (∀ (H : fl_H) (a1 : Int) (a2 : Int) (a3 : Int), hd_GoodsBookModel_priceFor_94_4 (cm_pg X xs) N H a1 a2 a3 (fpI sU H)) := fun H a1 a2 a3 => vh_GoodsBookModel_priceFor_94_4 (have p := fr_refl sU H
      ⟨fun _ => ⟨⟨_, rfl⟩, p⟩, fun _ => (fun lv l0 l1 l2 l3 l4 => vt_mono (Nat.le_refl _) (fun _ _ kk => ⟨kk.1, fr_trans p kk.2⟩) (hdGoodsBookModel_priceFor_94_14 _ _ _ _ _ lv l0 l1 l2 l3 l4))⟩)
    have hdE : (∀ (H : fl_H) (a1 : Int), ck (cm_pg X xs) N cm_m200 [.index 94, fl_t a1] H (fpI sU H)) := fun H a1 => ve_GoodsBookModel_priceFor_94 (have p := fr_refl sU H
      (fun lv l0 l1 l2 l3 => vt_mono (Nat.le_refl _) (fun _ _ kk => ⟨kk.1, fr_trans p kk.2⟩) (hdGoodsBookModel_priceFor_94_4 _ _ _ _ lv l0 l1 l2 l3)))
    exact ⟨hdGoodsBookModel_priceFor_94_14, hdGoodsBookModel_priceFor_94_4, hdE⟩

theorem fa_GoodsBookModel_turned_94 {X : Term} {xs : List Int32} (N : Nat) : (∀ (H : fl_H) (a2 : Int) (a3 : Int) (a4 : Int), hd_GoodsBookModel_turned_94_7 (cm_pg X xs) N H a2 a3 a4 (fpI sU H)) ∧ (∀ (H : fl_H) (a1 : Int), ck (cm_pg X xs) N cm_m201 [.index 94, fl_t a1] H (fpI sU H)) := by
  induction N using Nat.strongRecOn with
  | ind N IH =>
    have hdGoodsBookModel_turned_94_7 : (∀ (H : fl_H) (a2 : Int) (a3 : Int) (a4 : Int), hd_GoodsBookModel_turned_94_7 (cm_pg X xs) N H a2 a3 a4 (fpI sU H)) := fun H a2 a3 a4 => vh_GoodsBookModel_turned_94_7 (have p := fr_refl sU H
      ⟨fun _ => ⟨⟨_, rfl⟩, p⟩, fun _ => (fun m hm => (fun lv l0 l1 l2 l3 => vt_mono (Nat.le_refl _) (fun _ _ kk => ⟨kk.1, fr_trans p kk.2⟩) ((IH m hm).1 _ _ _ _ lv l0 l1 l2 l3)))⟩)
    have hdE : (∀ (H : fl_H) (a1 : Int), ck (cm_pg X xs) N cm_m201 [.index 94, fl_t a1] H (fpI sU H)) := fun H a1 => ve_GoodsBookModel_turned_94 (have p := fr_refl sU H
      (fun lv l0 l1 l2 l3 => vt_mono (Nat.le_refl _) (fun _ _ kk => ⟨kk.1, fr_trans p kk.2⟩) (hdGoodsBookModel_turned_94_7 _ _ _ _ lv l0 l1 l2 l3)))
    exact ⟨hdGoodsBookModel_turned_94_7, hdE⟩

theorem fa_GoodsBookModel_squares_94 {X : Term} {xs : List Int32} (N : Nat) : (∀ (H : fl_H) (a2 : Int) (a3 : Int) (a4 : Int) (a5 : Int) (a6 : Int) (a7 : Int) (a8 : Int) (a9 : Int) (a10 : Int), hd_GoodsBookModel_squares_94_99 (cm_pg X xs) N H a2 a3 a4 a5 a6 a7 a8 a9 a10 (fpI sU H)) ∧ (∀ (H : fl_H) (a2 : Int) (a3 : Int) (a4 : Int) (a5 : Int) (a6 : Int) (a7 : Int), hd_GoodsBookModel_squares_94_67 (cm_pg X xs) N H a2 a3 a4 a5 a6 a7 (fpI sU H)) ∧ (∀ (H : fl_H) (a1 : Int) (a2 : Int), ck (cm_pg X xs) N cm_m202 [.index 94, fl_t a1, fl_t a2] H (fpI sU H)) := by
  induction N using Nat.strongRecOn with
  | ind N IH =>
    have hdGoodsBookModel_squares_94_99 : (∀ (H : fl_H) (a2 : Int) (a3 : Int) (a4 : Int) (a5 : Int) (a6 : Int) (a7 : Int) (a8 : Int) (a9 : Int) (a10 : Int), hd_GoodsBookModel_squares_94_99 (cm_pg X xs) N H a2 a3 a4 a5 a6 a7 a8 a9 a10 (fpI sU H)) := fun H a2 a3 a4 a5 a6 a7 a8 a9 a10 => vh_GoodsBookModel_squares_94_99 (have p := fr_refl sU H
      ⟨fun _ => ⟨fun _ => ⟨fun _ => (fun m hm => (fun lv l0 l1 l2 l3 l4 l5 l6 => vt_mono (Nat.le_refl _) (fun _ _ kk => ⟨kk.1, fr_trans p kk.2⟩) ((IH m hm).2.1 _ _ _ _ _ _ _ lv l0 l1 l2 l3 l4 l5 l6))), fun _ => (fun m hm => (fun lv l0 l1 l2 l3 l4 l5 l6 => vt_mono (Nat.le_refl _) (fun _ _ kk => ⟨kk.1, fr_trans p kk.2⟩) ((IH m hm).2.1 _ _ _ _ _ _ _ lv l0 l1 l2 l3 l4 l5 l6)))⟩, fun _ => ⟨fun _ => (fun m hm => (fun lv l0 l1 l2 l3 l4 l5 l6 => vt_mono (Nat.le_refl _) (fun _ _ kk => ⟨kk.1, fr_trans p kk.2⟩) ((IH m hm).2.1 _ _ _ _ _ _ _ lv l0 l1 l2 l3 l4 l5 l6))), fun _ => (fun m hm => (fun lv l0 l1 l2 l3 l4 l5 l6 => vt_mono (Nat.le_refl _) (fun _ _ kk => ⟨kk.1, fr_trans p kk.2⟩) ((IH m hm).2.1 _ _ _ _ _ _ _ lv l0 l1 l2 l3 l4 l5 l6)))⟩⟩, fun _ => (fun m hm => ck_mono ((fa_GoodsBookModel_digitOf m).2 _ _ _) (fun _ _ ⟨⟨x, hx⟩, w16⟩ => ⟨x, hx, ⟨fun _ => (fun m hm => (fun lv l0 l1 l2 l3 l4 l5 l6 l7 l8 l9 => vt_mono (Nat.le_refl _) (fun _ _ kk => ⟨kk.1, fr_trans (fr_trans p w16) kk.2⟩) ((IH m hm).1 _ _ _ _ _ _ _ _ _ _ lv l0 l1 l2 l3 l4 l5 l6 l7 l8 l9))), fun _ => (fun m hm => ck_mono ((fa_GoodsBookModel_saleOf_94 m) _ _ _) (fun _ _ ⟨⟨x, hx⟩, w23⟩ => ⟨x, hx, (fun m hm => (fun lv l0 l1 l2 l3 l4 l5 l6 l7 l8 l9 => vt_mono (Nat.le_refl _) (fun _ _ kk => ⟨kk.1, fr_trans (fr_trans (fr_trans p w16) w23) kk.2⟩) ((IH m hm).1 _ _ _ _ _ _ _ _ _ _ lv l0 l1 l2 l3 l4 l5 l6 l7 l8 l9)))⟩))⟩⟩))⟩)
    have hdGoodsBookModel_squares_94_67 : (∀ (H : fl_H) (a2 : Int) (a3 : Int) (a4 : Int) (a5 : Int) (a6 : Int) (a7 : Int), hd_GoodsBookModel_squares_94_67 (cm_pg X xs) N H a2 a3 a4 a5 a6 a7 (fpI sU H)) := fun H a2 a3 a4 a5 a6 a7 => vh_GoodsBookModel_squares_94_67 (have p := fr_refl sU H
      ⟨fun _ => ⟨fun _ => (fun m hm => ck_mono ((fa_GoodsBookModel_digitOf m).2 _ _ _) (fun _ _ ⟨⟨x, hx⟩, w4⟩ => ⟨x, hx, ⟨⟨_, rfl⟩, (fr_trans p w4)⟩⟩)), fun _ => ⟨⟨_, rfl⟩, p⟩⟩, fun _ => (fun m hm => ck_mono ((fa_GoodsBookModel_turned_94 m).2 _ _) (fun _ _ ⟨⟨x, hx⟩, w7⟩ => ⟨x, hx, (fun m hm => ck_mono ((fa_GoodsBookModel_areaOfCode_94 m).2 _ _) (fun _ _ ⟨⟨x, hx⟩, w11⟩ => ⟨x, hx, ⟨fun _ => (fun m hm => (fun lv l0 l1 l2 l3 l4 l5 l6 => vt_mono (Nat.le_refl _) (fun _ _ kk => ⟨kk.1, fr_trans (fr_trans (fr_trans p w7) w11) kk.2⟩) ((IH m hm).2.1 _ _ _ _ _ _ _ lv l0 l1 l2 l3 l4 l5 l6))), fun _ => (fun lv l0 l1 l2 l3 l4 l5 l6 l7 l8 l9 => vt_mono (Nat.le_refl _) (fun _ _ kk => ⟨kk.1, fr_trans (fr_trans (fr_trans p w7) w11) kk.2⟩) (hdGoodsBookModel_squares_94_99 _ _ _ _ _ _ _ _ _ _ lv l0 l1 l2 l3 l4 l5 l6 l7 l8 l9))⟩⟩))⟩))⟩)
    have hdE : (∀ (H : fl_H) (a1 : Int) (a2 : Int), ck (cm_pg X xs) N cm_m202 [.index 94, fl_t a1, fl_t a2] H (fpI sU H)) := fun H a1 a2 => ve_GoodsBookModel_squares_94 (have p := fr_refl sU H
      (fun m hm => ck_mono ((fa_GoodsBookModel_isPage_94 m) _ _) (fun _ _ ⟨⟨x, hx⟩, w2⟩ => ⟨x, hx, ⟨fun _ => ⟨⟨_, rfl⟩, (fr_trans p w2)⟩, fun _ => ⟨fun _ => (fun _ => ⟨fun _ => (fun m hm => ck_mono ((fa_GoodsBookModel_priceFor_94 m).2.2 _ _) (fun _ _ ⟨⟨x, hx⟩, w9⟩ => ⟨x, hx, ⟨⟨_, rfl⟩, (fr_trans (fr_trans p w2) w9)⟩⟩)), fun _ => (fun m hm => ck_mono ((fa_GoodsBookModel_codes_94 m).2 _) (fun _ _ ⟨⟨x, hx⟩, w12⟩ => ⟨x, hx, (fun lv l0 l1 l2 l3 l4 l5 l6 => vt_mono (Nat.le_refl _) (fun _ _ kk => ⟨kk.1, fr_trans (fr_trans (fr_trans p w2) w12) kk.2⟩) (hdGoodsBookModel_squares_94_67 _ _ _ _ _ _ _ lv l0 l1 l2 l3 l4 l5 l6))⟩))⟩), fun _ => ⟨⟨_, rfl⟩, (fr_trans p w2)⟩⟩⟩⟩)))
    exact ⟨hdGoodsBookModel_squares_94_99, hdGoodsBookModel_squares_94_67, hdE⟩

theorem fa_GoodsBookModel_bound_94 {X : Term} {xs : List Int32} (N : Nat) : (∀ (H : fl_H) (a1 : Int) (a2 : Int), hd_GoodsBookModel_bound_94_155 (cm_pg X xs) N H a1 a2 (fpI sU H)) ∧ (∀ (H : fl_H) (a1 : Int) (a2 : Int) (a3 : Int) (a4 : Int) (a5 : Int), hd_GoodsBookModel_bound_94_33 (cm_pg X xs) N H a1 a2 a3 a4 a5 (fpI sU H)) ∧ (∀ (H : fl_H) (a1 : Int) (a2 : Int), hd_GoodsBookModel_bound_94_4 (cm_pg X xs) N H a1 a2 (fpI sU H)) ∧ (∀ (H : fl_H), ck (cm_pg X xs) N cm_m203 [.index 94] H (fpI sU H)) := by
  induction N using Nat.strongRecOn with
  | ind N IH =>
    have hdGoodsBookModel_bound_94_155 : (∀ (H : fl_H) (a1 : Int) (a2 : Int), hd_GoodsBookModel_bound_94_155 (cm_pg X xs) N H a1 a2 (fpI sU H)) := fun H a1 a2 => vh_GoodsBookModel_bound_94_155 (have p := fr_refl sU H
      ⟨fun _ => ⟨⟨_, rfl⟩, p⟩, fun _ => (fun _ => ⟨fun _ => (fun m hm => (fun lv l0 l1 l2 => vt_mono (Nat.le_refl _) (fun _ _ kk => ⟨kk.1, fr_trans p kk.2⟩) ((IH m hm).1 _ _ _ lv l0 l1 l2))), fun _ => (fun m hm => (fun lv l0 l1 l2 => vt_mono (Nat.le_refl _) (fun _ _ kk => ⟨kk.1, fr_trans p kk.2⟩) ((IH m hm).1 _ _ _ lv l0 l1 l2)))⟩)⟩)
    have hdGoodsBookModel_bound_94_33 : (∀ (H : fl_H) (a1 : Int) (a2 : Int) (a3 : Int) (a4 : Int) (a5 : Int), hd_GoodsBookModel_bound_94_33 (cm_pg X xs) N H a1 a2 a3 a4 a5 (fpI sU H)) := fun H a1 a2 a3 a4 a5 => vh_GoodsBookModel_bound_94_33 (have p := fr_refl sU H
      ⟨fun _ => (fun m hm => (fun lv l0 l1 l2 => vt_mono (Nat.le_refl _) (fun _ _ kk => ⟨kk.1, fr_trans p kk.2⟩) ((IH m hm).2.2.1 _ _ _ lv l0 l1 l2))), fun _ => (fun m hm => ck_mono ((fa_GoodsBookModel_pageOf m) _ _) (fun _ _ ⟨⟨x, hx⟩, w5⟩ => ⟨x, hx, (fun _ => (fun m hm => ck_mono ((fa_GoodsBookModel_saleOf_94 m) _ _ _) (fun _ _ ⟨⟨x, hx⟩, w10⟩ => ⟨x, hx, ⟨fun _ => ⟨fun _ => (fun m hm => (fun lv l0 l1 l2 l3 l4 l5 => vt_mono (Nat.le_refl _) (fun _ _ kk => ⟨kk.1, fr_trans (fr_trans (fr_trans p w5) w10) kk.2⟩) ((IH m hm).2.1 _ _ _ _ _ _ lv l0 l1 l2 l3 l4 l5))), fun _ => (fun m hm => (fun lv l0 l1 l2 l3 l4 l5 => vt_mono (Nat.le_refl _) (fun _ _ kk => ⟨kk.1, fr_trans (fr_trans (fr_trans p w5) w10) kk.2⟩) ((IH m hm).2.1 _ _ _ _ _ _ lv l0 l1 l2 l3 l4 l5)))⟩, fun _ => ⟨fun _ => ⟨fun _ => (fun m hm => (fun lv l0 l1 l2 l3 l4 l5 => vt_mono (Nat.le_refl _) (fun _ _ kk => ⟨kk.1, fr_trans (fr_trans (fr_trans p w5) w10) kk.2⟩) ((IH m hm).2.1 _ _ _ _ _ _ lv l0 l1 l2 l3 l4 l5))), fun _ => (fun m hm => (fun lv l0 l1 l2 l3 l4 l5 => vt_mono (Nat.le_refl _) (fun _ _ kk => ⟨kk.1, fr_trans (fr_trans (fr_trans p w5) w10) kk.2⟩) ((IH m hm).2.1 _ _ _ _ _ _ lv l0 l1 l2 l3 l4 l5)))⟩, fun _ => ⟨fun _ => (fun m hm => (fun lv l0 l1 l2 l3 l4 l5 => vt_mono (Nat.le_refl _) (fun _ _ kk => ⟨kk.1, fr_trans (fr_trans (fr_trans p w5) w10) kk.2⟩) ((IH m hm).2.1 _ _ _ _ _ _ lv l0 l1 l2 l3 l4 l5))), fun _ => (fun m hm => (fun lv l0 l1 l2 l3 l4 l5 => vt_mono (Nat.le_refl _) (fun _ _ kk => ⟨kk.1, fr_trans (fr_trans (fr_trans p w5) w10) kk.2⟩) ((IH m hm).2.1 _ _ _ _ _ _ lv l0 l1 l2 l3 l4 l5)))⟩⟩⟩⟩)))⟩))⟩)
    have hdGoodsBookModel_bound_94_4 : (∀ (H : fl_H) (a1 : Int) (a2 : Int), hd_GoodsBookModel_bound_94_4 (cm_pg X xs) N H a1 a2 (fpI sU H)) := fun H a1 a2 => vh_GoodsBookModel_bound_94_4 (have p := fr_refl sU H
      ⟨fun _ => (fun lv l0 l1 l2 => vt_mono (Nat.le_refl _) (fun _ _ kk => ⟨kk.1, fr_trans p kk.2⟩) (hdGoodsBookModel_bound_94_155 _ _ _ lv l0 l1 l2)), fun _ => (fun _ => (fun lv l0 l1 l2 l3 l4 l5 => vt_mono (Nat.le_refl _) (fun _ _ kk => ⟨kk.1, fr_trans p kk.2⟩) (hdGoodsBookModel_bound_94_33 _ _ _ _ _ _ lv l0 l1 l2 l3 l4 l5)))⟩)
    have hdE : (∀ (H : fl_H), ck (cm_pg X xs) N cm_m203 [.index 94] H (fpI sU H)) := fun H => ve_GoodsBookModel_bound_94 (have p := fr_refl sU H
      (fun lv l0 l1 l2 => vt_mono (Nat.le_refl _) (fun _ _ kk => ⟨kk.1, fr_trans p kk.2⟩) (hdGoodsBookModel_bound_94_4 _ _ _ lv l0 l1 l2)))
    exact ⟨hdGoodsBookModel_bound_94_155, hdGoodsBookModel_bound_94_33, hdGoodsBookModel_bound_94_4, hdE⟩

theorem fa_GoodsBookModel_layFrom_94 {X : Term} {xs : List Int32} (N : Nat) : (∀ (H : fl_H) (a1 : Int), hd_GoodsBookModel_layFrom_94_2 (cm_pg X xs) N H a1 (fpV sU H)) ∧ (∀ (H : fl_H), ck (cm_pg X xs) N cm_m204 [.index 94] H (fpV sU H)) := by
  induction N using Nat.strongRecOn with
  | ind N IH =>
    have hdGoodsBookModel_layFrom_94_2 : (∀ (H : fl_H) (a1 : Int), hd_GoodsBookModel_layFrom_94_2 (cm_pg X xs) N H a1 (fpV sU H)) := fun H a1 => vh_GoodsBookModel_layFrom_94_2 (have p := fr_refl sU H
      ⟨fun _ => ⟨rfl, p⟩, fun _ => (fun _ => (fun _ H3 e4 => (fun m hm => (fun lv l0 l1 => vt_mono (Nat.le_refl _) (fun _ _ kk => ⟨kk.1, fr_trans (fr_up p (by intros; rfl) e4) kk.2⟩) ((IH m hm).1 _ _ lv l0 l1)))))⟩)
    have hdE : (∀ (H : fl_H), ck (cm_pg X xs) N cm_m204 [.index 94] H (fpV sU H)) := fun H => ve_GoodsBookModel_layFrom_94 (have p := fr_refl sU H
      (fun lv l0 l1 => vt_mono (Nat.le_refl _) (fun _ _ kk => ⟨kk.1, fr_trans p kk.2⟩) (hdGoodsBookModel_layFrom_94_2 _ _ lv l0 l1)))
    exact ⟨hdGoodsBookModel_layFrom_94_2, hdE⟩

theorem fa_GoodsBookModel_isAhead_94 {X : Term} {xs : List Int32} (N : Nat) : (∀ (H : fl_H) (a1 : Int), hd_GoodsBookModel_isAhead_94_2 (cm_pg X xs) N H a1 (fpI sU H)) ∧ (∀ (H : fl_H), ck (cm_pg X xs) N cm_m205 [.index 94] H (fpI sU H)) := by
  induction N using Nat.strongRecOn with
  | ind N IH =>
    have hdGoodsBookModel_isAhead_94_2 : (∀ (H : fl_H) (a1 : Int), hd_GoodsBookModel_isAhead_94_2 (cm_pg X xs) N H a1 (fpI sU H)) := fun H a1 => vh_GoodsBookModel_isAhead_94_2 (have p := fr_refl sU H
      ⟨fun _ => ⟨⟨_, rfl⟩, p⟩, fun _ => (fun _ => (fun _ => ⟨fun _ => (fun m hm => (fun lv l0 l1 => vt_mono (Nat.le_refl _) (fun _ _ kk => ⟨kk.1, fr_trans p kk.2⟩) ((IH m hm).1 _ _ lv l0 l1))), fun _ => (fun _ => (fun _ => ⟨fun _ => ⟨⟨_, rfl⟩, p⟩, fun _ => ⟨⟨_, rfl⟩, p⟩⟩))⟩))⟩)
    have hdE : (∀ (H : fl_H), ck (cm_pg X xs) N cm_m205 [.index 94] H (fpI sU H)) := fun H => ve_GoodsBookModel_isAhead_94 (have p := fr_refl sU H
      (fun lv l0 l1 => vt_mono (Nat.le_refl _) (fun _ _ kk => ⟨kk.1, fr_trans p kk.2⟩) (hdGoodsBookModel_isAhead_94_2 _ _ lv l0 l1)))
    exact ⟨hdGoodsBookModel_isAhead_94_2, hdE⟩

theorem fa_GoodsBookModel_tryRow_94 {X : Term} {xs : List Int32} (N : Nat) : (∀ (H : fl_H), ck (cm_pg X xs) N cm_m206 [.index 94] H (fpV sU H)) := by
  induction N using Nat.strongRecOn with
  | ind N IH =>
    have hdE : (∀ (H : fl_H), ck (cm_pg X xs) N cm_m206 [.index 94] H (fpV sU H)) := fun H => ve_GoodsBookModel_tryRow_94 (have p := fr_refl sU H
      (fun m hm => ck_mono ((fa_GoodsBookModel_isGoodPlan_94 m) _) (fun _ _ ⟨⟨x, hx⟩, w2⟩ => ⟨x, hx, ⟨fun _ => ⟨rfl, (fr_trans p w2)⟩, fun _ => (fun m hm => ck_mono ((fa_GoodsBookModel_worthOf_94 m).2.2.2 _) (fun _ _ ⟨⟨x, hx⟩, w6⟩ => ⟨x, hx, ⟨fun _ => (fun m hm => ck_mono ((fa_GoodsBookModel_keepBest_94 m).2 _ _) (fun _ _ ⟨hx, w10⟩ => ⟨hx, (fun H11 e12 => ⟨rfl, (fr_up (fr_trans (fr_trans (fr_trans p w2) w6) w10) (by intros; rfl) e12)⟩)⟩)), fun _ => ⟨fun _ => ⟨fun _ => ⟨rfl, (fr_trans (fr_trans p w2) w6)⟩, fun _ => (fun m hm => ck_mono ((fa_GoodsBookModel_isAhead_94 m).2 _) (fun _ _ ⟨⟨x, hx⟩, w16⟩ => ⟨x, hx, ⟨fun _ => ⟨rfl, (fr_trans (fr_trans (fr_trans p w2) w6) w16)⟩, fun _ => (fun m hm => ck_mono ((fa_GoodsBookModel_keepBest_94 m).2 _ _) (fun _ _ ⟨hx, w20⟩ => ⟨hx, (fun H21 e22 => ⟨rfl, (fr_up (fr_trans (fr_trans (fr_trans (fr_trans p w2) w6) w16) w20) (by intros; rfl) e22)⟩)⟩))⟩⟩))⟩, fun _ => ⟨rfl, (fr_trans (fr_trans p w2) w6)⟩⟩⟩⟩))⟩⟩)))
    exact hdE

theorem fa_GoodsBookModel_step_94 {X : Term} {xs : List Int32} (N : Nat) : (∀ (H : fl_H) (a1 : Int), hd_GoodsBookModel_step_94_112 (cm_pg X xs) N H a1 (fpI sU H)) ∧ (∀ (H : fl_H) (a1 : Int) (a2 : Int), hd_GoodsBookModel_step_94_56 (cm_pg X xs) N H a1 a2 (fpI sU H)) ∧ (∀ (H : fl_H) (a1 : Int) (a2 : Int), hd_GoodsBookModel_step_94_19 (cm_pg X xs) N H a1 a2 (fpI sU H)) ∧ (∀ (H : fl_H) (a1 : Int), hd_GoodsBookModel_step_94_7 (cm_pg X xs) N H a1 (fpI sU H)) ∧ (∀ (H : fl_H), ck (cm_pg X xs) N cm_m207 [.index 94] H (fpI sU H)) := by
  induction N using Nat.strongRecOn with
  | ind N IH =>
    have hdGoodsBookModel_step_94_112 : (∀ (H : fl_H) (a1 : Int), hd_GoodsBookModel_step_94_112 (cm_pg X xs) N H a1 (fpI sU H)) := fun H a1 => vh_GoodsBookModel_step_94_112 (have p := fr_refl sU H
      ⟨fun _ => ⟨⟨_, rfl⟩, p⟩, fun _ => ⟨fun _ => ⟨⟨_, rfl⟩, p⟩, fun _ => (fun _ => (fun _ H4 e5 => (fun m hm => (fun lv l0 l1 => vt_mono (Nat.le_refl _) (fun _ _ kk => ⟨kk.1, fr_trans (fr_up p (by intros; rfl) e5) kk.2⟩) ((IH m hm).1 _ _ lv l0 l1)))))⟩⟩)
    have hdGoodsBookModel_step_94_56 : (∀ (H : fl_H) (a1 : Int) (a2 : Int), hd_GoodsBookModel_step_94_56 (cm_pg X xs) N H a1 a2 (fpI sU H)) := fun H a1 a2 => vh_GoodsBookModel_step_94_56 (have p := fr_refl sU H
      ⟨fun _ => (fun m hm => (fun lv l0 l1 => vt_mono (Nat.le_refl _) (fun _ _ kk => ⟨kk.1, fr_trans p kk.2⟩) ((IH m hm).2.2.2.1 _ _ lv l0 l1))), fun _ => (fun m hm => ck_mono ((fa_GoodsBookModel_layFrom_94 m).2 _) (fun _ _ ⟨hx, w4⟩ => ⟨hx, (fun _ => (fun _ H6 e7 => (fun _ => (fun _ H10 e11 => (fun m hm => ck_mono ((fa_GoodsBookModel_tryRow_94 m) _) (fun _ _ ⟨hx, w14⟩ => ⟨hx, (fun m hm => (fun lv l0 l1 l2 => vt_mono (Nat.le_refl _) (fun _ _ kk => ⟨kk.1, fr_trans (fr_trans (fr_up (fr_up (fr_trans p w4) (by intros; rfl) e7) (by intros; rfl) e11) w14) kk.2⟩) ((IH m hm).2.1 _ _ _ lv l0 l1 l2)))⟩))))))⟩))⟩)
    have hdGoodsBookModel_step_94_19 : (∀ (H : fl_H) (a1 : Int) (a2 : Int), hd_GoodsBookModel_step_94_19 (cm_pg X xs) N H a1 a2 (fpI sU H)) := fun H a1 a2 => vh_GoodsBookModel_step_94_19 (have p := fr_refl sU H
      ⟨fun _ => (fun lv l0 l1 l2 => vt_mono (Nat.le_refl _) (fun _ _ kk => ⟨kk.1, fr_trans p kk.2⟩) (hdGoodsBookModel_step_94_56 _ _ _ lv l0 l1 l2)), fun _ => (fun m hm => ck_mono ((fa_GoodsBookModel_layFrom_94 m).2 _) (fun _ _ ⟨hx, w4⟩ => ⟨hx, (fun _ H5 e6 => (fun m hm => ck_mono ((fa_GoodsBookModel_tryRow_94 m) _) (fun _ _ ⟨hx, w9⟩ => ⟨hx, (fun m hm => (fun lv l0 l1 l2 => vt_mono (Nat.le_refl _) (fun _ _ kk => ⟨kk.1, fr_trans (fr_trans (fr_up (fr_trans p w4) (by intros; rfl) e6) w9) kk.2⟩) ((IH m hm).2.2.1 _ _ _ lv l0 l1 l2)))⟩)))⟩))⟩)
    have hdGoodsBookModel_step_94_7 : (∀ (H : fl_H) (a1 : Int), hd_GoodsBookModel_step_94_7 (cm_pg X xs) N H a1 (fpI sU H)) := fun H a1 => vh_GoodsBookModel_step_94_7 (have p := fr_refl sU H
      ⟨fun _ => (fun lv l0 l1 => vt_mono (Nat.le_refl _) (fun _ _ kk => ⟨kk.1, fr_trans p kk.2⟩) (hdGoodsBookModel_step_94_112 _ _ lv l0 l1)), fun _ => (fun lv l0 l1 l2 => vt_mono (Nat.le_refl _) (fun _ _ kk => ⟨kk.1, fr_trans p kk.2⟩) (hdGoodsBookModel_step_94_19 _ _ _ lv l0 l1 l2))⟩)
    have hdE : (∀ (H : fl_H), ck (cm_pg X xs) N cm_m207 [.index 94] H (fpI sU H)) := fun H => ve_GoodsBookModel_step_94 (have p := fr_refl sU H
      (fun H1 e2 => (fun lv l0 l1 => vt_mono (Nat.le_refl _) (fun _ _ kk => ⟨kk.1, fr_trans (fr_up p (by intros; rfl) e2) kk.2⟩) (hdGoodsBookModel_step_94_7 _ _ lv l0 l1))))
    exact ⟨hdGoodsBookModel_step_94_112, hdGoodsBookModel_step_94_56, hdGoodsBookModel_step_94_19, hdGoodsBookModel_step_94_7, hdE⟩

theorem fa_GoodsBookModel_steps_94 {X : Term} {xs : List Int32} (N : Nat) : (∀ (H : fl_H) (a1 : Int) (a2 : Int), hd_GoodsBookModel_steps_94_73 (cm_pg X xs) N H a1 a2 (fpI sU H)) ∧ (∀ (H : fl_H) (a1 : Int) (a2 : Int), hd_GoodsBookModel_steps_94_39 (cm_pg X xs) N H a1 a2 (fpI sU H)) ∧ (∀ (H : fl_H) (a1 : Int), ck (cm_pg X xs) N cm_m208 [.index 94, fl_t a1] H (fpI sU H)) := by
  induction N using Nat.strongRecOn with
  | ind N IH =>
    have hdGoodsBookModel_steps_94_73 : (∀ (H : fl_H) (a1 : Int) (a2 : Int), hd_GoodsBookModel_steps_94_73 (cm_pg X xs) N H a1 a2 (fpI sU H)) := fun H a1 a2 => vh_GoodsBookModel_steps_94_73 (have p := fr_refl sU H
      (fun m hm => ck_mono ((fa_GoodsBookModel_step_94 m).2.2.2.2 _) (fun _ _ ⟨⟨x, hx⟩, w2⟩ => ⟨x, hx, ⟨fun _ => ⟨fun _ => ⟨⟨_, rfl⟩, (fr_trans p w2)⟩, fun _ => ⟨fun _ => ⟨⟨_, rfl⟩, (fr_trans p w2)⟩, fun _ => (fun _ => ⟨⟨_, rfl⟩, (fr_trans p w2)⟩)⟩⟩, fun _ => (fun m hm => (fun lv l0 l1 l2 => vt_mono (Nat.le_refl _) (fun _ _ kk => ⟨kk.1, fr_trans (fr_trans p w2) kk.2⟩) ((IH m hm).1 _ _ _ lv l0 l1 l2)))⟩⟩)))
    have hdGoodsBookModel_steps_94_39 : (∀ (H : fl_H) (a1 : Int) (a2 : Int), hd_GoodsBookModel_steps_94_39 (cm_pg X xs) N H a1 a2 (fpI sU H)) := fun H a1 a2 => vh_GoodsBookModel_steps_94_39 (have p := fr_refl sU H
      ⟨fun _ => (fun m hm => ck_mono ((fa_GoodsBookModel_worthOf_94 m).2.2.2 _) (fun _ _ ⟨⟨x, hx⟩, w3⟩ => ⟨x, hx, (fun m hm => ck_mono ((fa_GoodsBookModel_keepBest_94 m).2 _ _) (fun _ _ ⟨hx, w6⟩ => ⟨hx, (fun lv l0 l1 l2 => vt_mono (Nat.le_refl _) (fun _ _ kk => ⟨kk.1, fr_trans (fr_trans (fr_trans p w3) w6) kk.2⟩) (hdGoodsBookModel_steps_94_73 _ _ _ lv l0 l1 l2))⟩))⟩)), fun _ => (fun _ => (fun _ H9 e10 => (fun m hm => (fun lv l0 l1 l2 => vt_mono (Nat.le_refl _) (fun _ _ kk => ⟨kk.1, fr_trans (fr_up p (by intros; rfl) e10) kk.2⟩) ((IH m hm).2.1 _ _ _ lv l0 l1 l2)))))⟩)
    have hdE : (∀ (H : fl_H) (a1 : Int), ck (cm_pg X xs) N cm_m208 [.index 94, fl_t a1] H (fpI sU H)) := fun H a1 => ve_GoodsBookModel_steps_94 (have p := fr_refl sU H
      ⟨fun _ => (fun m hm => ck_mono ((fa_GoodsBookModel_takePlan_94 m).2 _) (fun _ _ ⟨hx, w3⟩ => ⟨hx, (fun m hm => ck_mono ((fa_GoodsBookModel_isGoodPlan_94 m) _) (fun _ _ ⟨⟨x, hx⟩, w5⟩ => ⟨x, hx, ⟨fun _ => ⟨⟨_, rfl⟩, (fr_trans (fr_trans p w3) w5)⟩, fun _ => (fun lv l0 l1 l2 => vt_mono (Nat.le_refl _) (fun _ _ kk => ⟨kk.1, fr_trans (fr_trans (fr_trans p w3) w5) kk.2⟩) (hdGoodsBookModel_steps_94_39 _ _ _ lv l0 l1 l2))⟩⟩))⟩)), fun _ => ⟨⟨_, rfl⟩, p⟩⟩)
    exact ⟨hdGoodsBookModel_steps_94_73, hdGoodsBookModel_steps_94_39, hdE⟩

theorem fa_GoodsBookModel_through_94 {X : Term} {xs : List Int32} (N : Nat) : (∀ (H : fl_H) (a1 : Int), ck (cm_pg X xs) N cm_m213 [.index 94, fl_t a1] H (fpI sU H)) := by
  induction N using Nat.strongRecOn with
  | ind N IH =>
    have hdE : (∀ (H : fl_H) (a1 : Int), ck (cm_pg X xs) N cm_m213 [.index 94, fl_t a1] H (fpI sU H)) := fun H a1 => ve_GoodsBookModel_through_94 (have p := fr_refl sU H
      (fun m hm => ck_mono ((fa_GoodsBookModel_isGood_94 m) _ _) (fun _ _ ⟨⟨x, hx⟩, w2⟩ => ⟨x, hx, ⟨fun _ => ⟨⟨_, rfl⟩, (fr_trans p w2)⟩, fun _ => (fun m hm => ck_mono ((fa_GoodsBookModel_takePlan_94 m).2 _) (fun _ _ ⟨hx, w6⟩ => ⟨hx, (fun _ => ⟨fun _ => ⟨⟨_, rfl⟩, (fr_trans (fr_trans p w2) w6)⟩, fun _ => (fun m hm => ck_mono ((fa_GoodsBookModel_bringsOf_94 m) _ _) (fun _ _ ⟨⟨x, hx⟩, w10⟩ => ⟨x, hx, (fun m hm => ck_mono ((fa_GoodsBookModel_worthOf_94 m).2.2.2 _) (fun _ _ ⟨⟨x, hx⟩, w13⟩ => ⟨x, hx, (fun _ H15 e16 => (fun m hm => ck_mono ((fa_GoodsBookModel_worthOf_94 m).2.2.2 _) (fun _ _ ⟨⟨x, hx⟩, w19⟩ => ⟨x, hx, ⟨⟨_, rfl⟩, (fr_trans (fr_up (fr_trans (fr_trans (fr_trans (fr_trans p w2) w6) w10) w13) (by intros; rfl) e16) w19)⟩⟩)))⟩))⟩))⟩)⟩))⟩⟩)))
    exact hdE

theorem fa_GoodsBookModel_unlike_94 {X : Term} {xs : List Int32} (N : Nat) : (∀ (H : fl_H) (a1 : Int) (a2 : Int) (a3 : Int), hd_GoodsBookModel_unlike_94_4 (cm_pg X xs) N H a1 a2 a3 (fpI sU H)) ∧ (∀ (H : fl_H) (a1 : Int), ck (cm_pg X xs) N cm_m214 [.index 94, fl_t a1] H (fpI sU H)) := by
  induction N using Nat.strongRecOn with
  | ind N IH =>
    have hdGoodsBookModel_unlike_94_4 : (∀ (H : fl_H) (a1 : Int) (a2 : Int) (a3 : Int), hd_GoodsBookModel_unlike_94_4 (cm_pg X xs) N H a1 a2 a3 (fpI sU H)) := fun H a1 a2 a3 => vh_GoodsBookModel_unlike_94_4 (have p := fr_refl sU H
      ⟨fun _ => ⟨⟨_, rfl⟩, p⟩, fun _ => ⟨fun _ => (fun m hm => (fun lv l0 l1 l2 l3 => vt_mono (Nat.le_refl _) (fun _ _ kk => ⟨kk.1, fr_trans p kk.2⟩) ((IH m hm).1 _ _ _ _ lv l0 l1 l2 l3))), fun _ => (fun _ => (fun _ => ⟨fun _ => (fun m hm => (fun lv l0 l1 l2 l3 => vt_mono (Nat.le_refl _) (fun _ _ kk => ⟨kk.1, fr_trans p kk.2⟩) ((IH m hm).1 _ _ _ _ lv l0 l1 l2 l3))), fun _ => (fun m hm => (fun lv l0 l1 l2 l3 => vt_mono (Nat.le_refl _) (fun _ _ kk => ⟨kk.1, fr_trans p kk.2⟩) ((IH m hm).1 _ _ _ _ lv l0 l1 l2 l3)))⟩))⟩⟩)
    have hdE : (∀ (H : fl_H) (a1 : Int), ck (cm_pg X xs) N cm_m214 [.index 94, fl_t a1] H (fpI sU H)) := fun H a1 => ve_GoodsBookModel_unlike_94 (have p := fr_refl sU H
      (fun lv l0 l1 l2 l3 => vt_mono (Nat.le_refl _) (fun _ _ kk => ⟨kk.1, fr_trans p kk.2⟩) (hdGoodsBookModel_unlike_94_4 _ _ _ _ lv l0 l1 l2 l3)))
    exact ⟨hdGoodsBookModel_unlike_94_4, hdE⟩

theorem fa_GoodsBookModel_mended_94 {X : Term} {xs : List Int32} (N : Nat) : (∀ (H : fl_H) (a1 : Int) (a2 : Int) (a3 : Int) (a4 : Int) (a5 : Int), hd_GoodsBookModel_mended_94_43 (cm_pg X xs) N H a1 a2 a3 a4 a5 (fpI sU H)) ∧ (∀ (H : fl_H) (a1 : Int) (a2 : Int), ck (cm_pg X xs) N cm_m215 [.index 94, fl_t a1, fl_t a2] H (fpI sU H)) := by
  induction N using Nat.strongRecOn with
  | ind N IH =>
    have hdGoodsBookModel_mended_94_43 : (∀ (H : fl_H) (a1 : Int) (a2 : Int) (a3 : Int) (a4 : Int) (a5 : Int), hd_GoodsBookModel_mended_94_43 (cm_pg X xs) N H a1 a2 a3 a4 a5 (fpI sU H)) := fun H a1 a2 a3 a4 a5 => vh_GoodsBookModel_mended_94_43 (have p := fr_refl sU H
      ⟨fun _ => ⟨fun _ => ⟨⟨_, rfl⟩, p⟩, fun _ => ⟨fun _ => ⟨⟨_, rfl⟩, p⟩, fun _ => (fun _ => ⟨⟨_, rfl⟩, p⟩)⟩⟩, fun _ => (fun m hm => ck_mono ((fa_GoodsBookModel_layRow_94 m).2 _ _) (fun _ _ ⟨hx, w6⟩ => ⟨hx, (fun m hm => ck_mono ((fa_GoodsBookModel_unlike_94 m).2 _ _) (fun _ _ ⟨⟨x, hx⟩, w8⟩ => ⟨x, hx, (fun _ => ⟨fun _ => ⟨fun _ => (fun m hm => (fun lv l0 l1 l2 l3 l4 l5 => vt_mono (Nat.le_refl _) (fun _ _ kk => ⟨kk.1, fr_trans (fr_trans (fr_trans p w6) w8) kk.2⟩) ((IH m hm).1 _ _ _ _ _ _ lv l0 l1 l2 l3 l4 l5))), fun _ => (fun m hm => ck_mono ((fa_GoodsBookModel_isGoodPlan_94 m) _) (fun _ _ ⟨⟨x, hx⟩, w16⟩ => ⟨x, hx, ⟨fun _ => (fun m hm => (fun lv l0 l1 l2 l3 l4 l5 => vt_mono (Nat.le_refl _) (fun _ _ kk => ⟨kk.1, fr_trans (fr_trans (fr_trans (fr_trans p w6) w8) w16) kk.2⟩) ((IH m hm).1 _ _ _ _ _ _ lv l0 l1 l2 l3 l4 l5))), fun _ => (fun m hm => ck_mono ((fa_GoodsBookModel_worthOf_94 m).2.2.2 _) (fun _ _ ⟨⟨x, hx⟩, w21⟩ => ⟨x, hx, ⟨fun _ => (fun m hm => ck_mono ((fa_GoodsBookModel_keepBest_94 m).2 _ _) (fun _ _ ⟨hx, w26⟩ => ⟨hx, (fun m hm => (fun lv l0 l1 l2 l3 l4 l5 => vt_mono (Nat.le_refl _) (fun _ _ kk => ⟨kk.1, fr_trans (fr_trans (fr_trans (fr_trans (fr_trans (fr_trans p w6) w8) w16) w21) w26) kk.2⟩) ((IH m hm).1 _ _ _ _ _ _ lv l0 l1 l2 l3 l4 l5)))⟩)), fun _ => ⟨fun _ => (fun m hm => (fun lv l0 l1 l2 l3 l4 l5 => vt_mono (Nat.le_refl _) (fun _ _ kk => ⟨kk.1, fr_trans (fr_trans (fr_trans (fr_trans (fr_trans p w6) w8) w16) w21) kk.2⟩) ((IH m hm).1 _ _ _ _ _ _ lv l0 l1 l2 l3 l4 l5))), fun _ => (fun m hm => ck_mono ((fa_GoodsBookModel_keepBest_94 m).2 _ _) (fun _ _ ⟨hx, w32⟩ => ⟨hx, (fun m hm => (fun lv l0 l1 l2 l3 l4 l5 => vt_mono (Nat.le_refl _) (fun _ _ kk => ⟨kk.1, fr_trans (fr_trans (fr_trans (fr_trans (fr_trans (fr_trans p w6) w8) w16) w21) w32) kk.2⟩) ((IH m hm).1 _ _ _ _ _ _ lv l0 l1 l2 l3 l4 l5)))⟩))⟩⟩⟩))⟩⟩))⟩, fun _ => (fun m hm => (fun lv l0 l1 l2 l3 l4 l5 => vt_mono (Nat.le_refl _) (fun _ _ kk => ⟨kk.1, fr_trans (fr_trans (fr_trans p w6) w8) kk.2⟩) ((IH m hm).1 _ _ _ _ _ _ lv l0 l1 l2 l3 l4 l5)))⟩)⟩))⟩))⟩)
    have hdE : (∀ (H : fl_H) (a1 : Int) (a2 : Int), ck (cm_pg X xs) N cm_m215 [.index 94, fl_t a1, fl_t a2] H (fpI sU H)) := fun H a1 a2 => ve_GoodsBookModel_mended_94 (have p := fr_refl sU H
      (fun m hm => ck_mono ((fa_GoodsBookModel_isGood_94 m) _ _) (fun _ _ ⟨⟨x, hx⟩, w2⟩ => ⟨x, hx, ⟨fun _ => ⟨⟨_, rfl⟩, (fr_trans p w2)⟩, fun _ => ⟨fun _ => (fun m hm => ck_mono ((fa_GoodsBookModel_rows_94 m).2 _) (fun _ _ ⟨⟨x, hx⟩, w7⟩ => ⟨x, hx, (fun lv l0 l1 l2 l3 l4 l5 => vt_mono (Nat.le_refl _) (fun _ _ kk => ⟨kk.1, fr_trans (fr_trans (fr_trans p w2) w7) kk.2⟩) (hdGoodsBookModel_mended_94_43 _ _ _ _ _ _ lv l0 l1 l2 l3 l4 l5))⟩)), fun _ => ⟨⟨_, rfl⟩, (fr_trans p w2)⟩⟩⟩⟩)))
    exact ⟨hdGoodsBookModel_mended_94_43, hdE⟩

theorem fa_GoodsBookModel_offBy_94 {X : Term} {xs : List Int32} (N : Nat) : (∀ (H : fl_H) (a1 : Int) (a2 : Int) (a3 : Int) (a4 : Int) (a5 : Int), hd_GoodsBookModel_offBy_94_6 (cm_pg X xs) N H a1 a2 a3 a4 a5 (fpI sU H)) ∧ (∀ (H : fl_H) (a1 : Int) (a2 : Int) (a3 : Int), ck (cm_pg X xs) N cm_m217 [.index 94, fl_t a1, fl_t a2, fl_t a3] H (fpI sU H)) := by
  induction N using Nat.strongRecOn with
  | ind N IH =>
    have hdGoodsBookModel_offBy_94_6 : (∀ (H : fl_H) (a1 : Int) (a2 : Int) (a3 : Int) (a4 : Int) (a5 : Int), hd_GoodsBookModel_offBy_94_6 (cm_pg X xs) N H a1 a2 a3 a4 a5 (fpI sU H)) := fun H a1 a2 a3 a4 a5 => vh_GoodsBookModel_offBy_94_6 (have p := fr_refl sU H
      ⟨fun _ => ⟨⟨_, rfl⟩, p⟩, fun _ => (fun _ => ⟨fun _ => (fun _ => ⟨fun _ => (fun _ => ⟨fun _ => (fun _ => (fun m hm => (fun lv l0 l1 l2 l3 l4 l5 => vt_mono (Nat.le_refl _) (fun _ _ kk => ⟨kk.1, fr_trans p kk.2⟩) ((IH m hm).1 _ _ _ _ _ _ lv l0 l1 l2 l3 l4 l5)))), fun _ => (fun _ => (fun m hm => (fun lv l0 l1 l2 l3 l4 l5 => vt_mono (Nat.le_refl _) (fun _ _ kk => ⟨kk.1, fr_trans p kk.2⟩) ((IH m hm).1 _ _ _ _ _ _ lv l0 l1 l2 l3 l4 l5))))⟩), fun _ => ⟨fun _ => (fun _ => ⟨fun _ => (fun _ => (fun m hm => (fun lv l0 l1 l2 l3 l4 l5 => vt_mono (Nat.le_refl _) (fun _ _ kk => ⟨kk.1, fr_trans p kk.2⟩) ((IH m hm).1 _ _ _ _ _ _ lv l0 l1 l2 l3 l4 l5)))), fun _ => (fun _ => (fun m hm => (fun lv l0 l1 l2 l3 l4 l5 => vt_mono (Nat.le_refl _) (fun _ _ kk => ⟨kk.1, fr_trans p kk.2⟩) ((IH m hm).1 _ _ _ _ _ _ lv l0 l1 l2 l3 l4 l5))))⟩), fun _ => ⟨fun _ => (fun _ => ⟨fun _ => (fun _ => (fun m hm => (fun lv l0 l1 l2 l3 l4 l5 => vt_mono (Nat.le_refl _) (fun _ _ kk => ⟨kk.1, fr_trans p kk.2⟩) ((IH m hm).1 _ _ _ _ _ _ lv l0 l1 l2 l3 l4 l5)))), fun _ => (fun _ => (fun m hm => (fun lv l0 l1 l2 l3 l4 l5 => vt_mono (Nat.le_refl _) (fun _ _ kk => ⟨kk.1, fr_trans p kk.2⟩) ((IH m hm).1 _ _ _ _ _ _ lv l0 l1 l2 l3 l4 l5))))⟩), fun _ => (fun _ => ⟨fun _ => (fun _ => (fun m hm => (fun lv l0 l1 l2 l3 l4 l5 => vt_mono (Nat.le_refl _) (fun _ _ kk => ⟨kk.1, fr_trans p kk.2⟩) ((IH m hm).1 _ _ _ _ _ _ lv l0 l1 l2 l3 l4 l5)))), fun _ => (fun _ => (fun m hm => (fun lv l0 l1 l2 l3 l4 l5 => vt_mono (Nat.le_refl _) (fun _ _ kk => ⟨kk.1, fr_trans p kk.2⟩) ((IH m hm).1 _ _ _ _ _ _ lv l0 l1 l2 l3 l4 l5))))⟩)⟩⟩⟩), fun _ => (fun m hm => (fun lv l0 l1 l2 l3 l4 l5 => vt_mono (Nat.le_refl _) (fun _ _ kk => ⟨kk.1, fr_trans p kk.2⟩) ((IH m hm).1 _ _ _ _ _ _ lv l0 l1 l2 l3 l4 l5)))⟩)⟩)
    have hdE : (∀ (H : fl_H) (a1 : Int) (a2 : Int) (a3 : Int), ck (cm_pg X xs) N cm_m217 [.index 94, fl_t a1, fl_t a2, fl_t a3] H (fpI sU H)) := fun H a1 a2 a3 => ve_GoodsBookModel_offBy_94 (have p := fr_refl sU H
      (fun lv l0 l1 l2 l3 l4 l5 => vt_mono (Nat.le_refl _) (fun _ _ kk => ⟨kk.1, fr_trans p kk.2⟩) (hdGoodsBookModel_offBy_94_6 _ _ _ _ _ _ lv l0 l1 l2 l3 l4 l5)))
    exact ⟨hdGoodsBookModel_offBy_94_6, hdE⟩

theorem fa_GoodsBookModel_learnt_94 {X : Term} {xs : List Int32} (N : Nat) : (∀ (H : fl_H) (a1 : Int) (a2 : Int) (a4 : Int) (a5 : Int) (a6 : Int) (a7 : Int) (a8 : Int) (a9 : Int), hd_GoodsBookModel_learnt_94_99 (cm_pg X xs) N H a1 a2 a4 a5 a6 a7 a8 a9 (fpI sU H)) ∧ (∀ (H : fl_H) (a1 : Int) (a2 : Int) (a4 : Int) (a5 : Int) (a6 : Int) (a7 : Int) (a8 : Int), hd_GoodsBookModel_learnt_94_90 (cm_pg X xs) N H a1 a2 a4 a5 a6 a7 a8 (fpI sU H)) ∧ (∀ (H : fl_H) (a1 : Int) (a2 : Int) (a3 : Int) (a4 : Int), hd_GoodsBookModel_learnt_94_27 (cm_pg X xs) N H a1 a2 a3 a4 (fpI sU H)) ∧ (∀ (H : fl_H) (a1 : Int) (a2 : Int), ck (cm_pg X xs) N cm_m218 [.index 94, fl_t a1, fl_t a2] H (fpI sU H)) := by
  induction N using Nat.strongRecOn with
  | ind N IH =>
    have hdGoodsBookModel_learnt_94_99 : (∀ (H : fl_H) (a1 : Int) (a2 : Int) (a4 : Int) (a5 : Int) (a6 : Int) (a7 : Int) (a8 : Int) (a9 : Int), hd_GoodsBookModel_learnt_94_99 (cm_pg X xs) N H a1 a2 a4 a5 a6 a7 a8 a9 (fpI sU H)) := fun H a1 a2 a4 a5 a6 a7 a8 a9 => vh_GoodsBookModel_learnt_94_99 (have p := fr_refl sU H
      ⟨fun _ => (fun m hm => (fun lv l0 l1 l2 l3 l4 l5 l6 l7 => vt_mono (Nat.le_refl _) (fun _ _ kk => ⟨kk.1, fr_trans p kk.2⟩) ((IH m hm).2.1 _ _ _ _ _ _ _ _ lv l0 l1 l2 l3 l4 l5 l6 l7))), fun _ => (fun m hm => ck_mono ((fa_GoodsBookModel_offBy_94 m).2 _ _ _ _) (fun _ _ ⟨⟨x, hx⟩, w4⟩ => ⟨x, hx, ⟨fun _ => ⟨fun _ => (fun m hm => (fun lv l0 l1 l2 l3 l4 l5 l6 l7 l8 => vt_mono (Nat.le_refl _) (fun _ _ kk => ⟨kk.1, fr_trans (fr_trans p w4) kk.2⟩) ((IH m hm).1 _ _ _ _ _ _ _ _ _ lv l0 l1 l2 l3 l4 l5 l6 l7 l8))), fun _ => (fun m hm => (fun lv l0 l1 l2 l3 l4 l5 l6 l7 l8 => vt_mono (Nat.le_refl _) (fun _ _ kk => ⟨kk.1, fr_trans (fr_trans p w4) kk.2⟩) ((IH m hm).1 _ _ _ _ _ _ _ _ _ lv l0 l1 l2 l3 l4 l5 l6 l7 l8)))⟩, fun _ => ⟨fun _ => ⟨fun _ => (fun m hm => (fun lv l0 l1 l2 l3 l4 l5 l6 l7 l8 => vt_mono (Nat.le_refl _) (fun _ _ kk => ⟨kk.1, fr_trans (fr_trans p w4) kk.2⟩) ((IH m hm).1 _ _ _ _ _ _ _ _ _ lv l0 l1 l2 l3 l4 l5 l6 l7 l8))), fun _ => (fun m hm => (fun lv l0 l1 l2 l3 l4 l5 l6 l7 l8 => vt_mono (Nat.le_refl _) (fun _ _ kk => ⟨kk.1, fr_trans (fr_trans p w4) kk.2⟩) ((IH m hm).1 _ _ _ _ _ _ _ _ _ lv l0 l1 l2 l3 l4 l5 l6 l7 l8)))⟩, fun _ => ⟨fun _ => (fun m hm => (fun lv l0 l1 l2 l3 l4 l5 l6 l7 l8 => vt_mono (Nat.le_refl _) (fun _ _ kk => ⟨kk.1, fr_trans (fr_trans p w4) kk.2⟩) ((IH m hm).1 _ _ _ _ _ _ _ _ _ lv l0 l1 l2 l3 l4 l5 l6 l7 l8))), fun _ => (fun m hm => (fun lv l0 l1 l2 l3 l4 l5 l6 l7 l8 => vt_mono (Nat.le_refl _) (fun _ _ kk => ⟨kk.1, fr_trans (fr_trans p w4) kk.2⟩) ((IH m hm).1 _ _ _ _ _ _ _ _ _ lv l0 l1 l2 l3 l4 l5 l6 l7 l8)))⟩⟩⟩⟩))⟩)
    have hdGoodsBookModel_learnt_94_90 : (∀ (H : fl_H) (a1 : Int) (a2 : Int) (a4 : Int) (a5 : Int) (a6 : Int) (a7 : Int) (a8 : Int), hd_GoodsBookModel_learnt_94_90 (cm_pg X xs) N H a1 a2 a4 a5 a6 a7 a8 (fpI sU H)) := fun H a1 a2 a4 a5 a6 a7 a8 => vh_GoodsBookModel_learnt_94_90 (have p := fr_refl sU H
      ⟨fun _ => ⟨fun _ => ⟨⟨_, rfl⟩, p⟩, fun _ => ⟨fun _ => ⟨⟨_, rfl⟩, p⟩, fun _ => ⟨fun _ => ⟨⟨_, rfl⟩, p⟩, fun _ => ⟨⟨_, rfl⟩, p⟩⟩⟩⟩, fun _ => (fun lv l0 l1 l2 l3 l4 l5 l6 l7 l8 => vt_mono (Nat.le_refl _) (fun _ _ kk => ⟨kk.1, fr_trans p kk.2⟩) (hdGoodsBookModel_learnt_94_99 _ _ _ _ _ _ _ _ _ lv l0 l1 l2 l3 l4 l5 l6 l7 l8))⟩)
    have hdGoodsBookModel_learnt_94_27 : (∀ (H : fl_H) (a1 : Int) (a2 : Int) (a3 : Int) (a4 : Int), hd_GoodsBookModel_learnt_94_27 (cm_pg X xs) N H a1 a2 a3 a4 (fpI sU H)) := fun H a1 a2 a3 a4 => vh_GoodsBookModel_learnt_94_27 (have p := fr_refl sU H
      ⟨fun _ => ⟨fun _ => ⟨⟨_, rfl⟩, p⟩, fun _ => (fun lv l0 l1 l2 l3 l4 l5 l6 l7 => vt_mono (Nat.le_refl _) (fun _ _ kk => ⟨kk.1, fr_trans p kk.2⟩) (hdGoodsBookModel_learnt_94_90 _ _ _ _ _ _ _ _ lv l0 l1 l2 l3 l4 l5 l6 l7))⟩, fun _ => (fun _ => ⟨fun _ => (fun m hm => (fun lv l0 l1 l2 l3 l4 => vt_mono (Nat.le_refl _) (fun _ _ kk => ⟨kk.1, fr_trans p kk.2⟩) ((IH m hm).2.2.1 _ _ _ _ _ lv l0 l1 l2 l3 l4))), fun _ => (fun m hm => (fun lv l0 l1 l2 l3 l4 => vt_mono (Nat.le_refl _) (fun _ _ kk => ⟨kk.1, fr_trans p kk.2⟩) ((IH m hm).2.2.1 _ _ _ _ _ lv l0 l1 l2 l3 l4)))⟩)⟩)
    have hdE : (∀ (H : fl_H) (a1 : Int) (a2 : Int), ck (cm_pg X xs) N cm_m218 [.index 94, fl_t a1, fl_t a2] H (fpI sU H)) := fun H a1 a2 => ve_GoodsBookModel_learnt_94 (have p := fr_refl sU H
      (fun m hm => ck_mono ((fa_GoodsBookModel_isGood_94 m) _ _) (fun _ _ ⟨⟨x, hx⟩, w2⟩ => ⟨x, hx, ⟨fun _ => ⟨⟨_, rfl⟩, (fr_trans p w2)⟩, fun _ => ⟨fun _ => (fun lv l0 l1 l2 l3 l4 => vt_mono (Nat.le_refl _) (fun _ _ kk => ⟨kk.1, fr_trans (fr_trans p w2) kk.2⟩) (hdGoodsBookModel_learnt_94_27 _ _ _ _ _ lv l0 l1 l2 l3 l4)), fun _ => ⟨⟨_, rfl⟩, (fr_trans p w2)⟩⟩⟩⟩)))
    exact ⟨hdGoodsBookModel_learnt_94_99, hdGoodsBookModel_learnt_94_90, hdGoodsBookModel_learnt_94_27, hdE⟩

theorem fa_GoodsBookModel_sheet_94 {X : Term} {xs : List Int32} (N : Nat) : (∀ (H : fl_H) (a1 : Int) (a3 : Int) (a4 : Int), hd_GoodsBookModel_sheet_94_40 (cm_pg X xs) N H a1 a3 a4 (fpI sU H)) ∧ (∀ (H : fl_H) (a1 : Int) (a2 : Int) (a3 : Int), ck (cm_pg X xs) N cm_m236 [.index 94, fl_t a1, fl_t a2, fl_t a3] H (fpI sU H)) := by
  induction N using Nat.strongRecOn with
  | ind N IH =>
    have hdGoodsBookModel_sheet_94_40 : (∀ (H : fl_H) (a1 : Int) (a3 : Int) (a4 : Int), hd_GoodsBookModel_sheet_94_40 (cm_pg X xs) N H a1 a3 a4 (fpI sU H)) := fun H a1 a3 a4 => vh_GoodsBookModel_sheet_94_40 (have p := fr_refl sU H
      ⟨fun _ => ⟨⟨_, rfl⟩, p⟩, fun _ => (fun _ H2 e3 => (fun m hm => (fun lv l0 l1 l2 l3 => vt_mono (Nat.le_refl _) (fun _ _ kk => ⟨kk.1, fr_trans (fr_up p (by intros; rfl) e3) kk.2⟩) ((IH m hm).1 _ _ _ _ lv l0 l1 l2 l3))))⟩)
    have hdE : (∀ (H : fl_H) (a1 : Int) (a2 : Int) (a3 : Int), ck (cm_pg X xs) N cm_m236 [.index 94, fl_t a1, fl_t a2, fl_t a3] H (fpI sU H)) := fun H a1 a2 a3 => ve_GoodsBookModel_sheet_94 (have p := fr_refl sU H
      (fun m hm => ck_mono ((fa_GoodsBookModel_isSheet m) _ _ _) (fun _ _ ⟨⟨x, hx⟩, w2⟩ => ⟨x, hx, ⟨fun _ => ⟨⟨_, rfl⟩, (fr_trans p w2)⟩, fun _ => ⟨fun _ => ⟨fun _ => (fun _ H7 e8 => (fun _ H10 e11 => (fun lv l0 l1 l2 l3 => vt_mono (Nat.le_refl _) (fun _ _ kk => ⟨kk.1, fr_trans (fr_up (fr_up (fr_trans p w2) (by intros; rfl) e8) (by intros; rfl) e11) kk.2⟩) (hdGoodsBookModel_sheet_94_40 _ _ _ _ lv l0 l1 l2 l3)))), fun _ => ⟨⟨_, rfl⟩, (fr_trans p w2)⟩⟩, fun _ => ⟨⟨_, rfl⟩, (fr_trans p w2)⟩⟩⟩⟩)))
    exact ⟨hdGoodsBookModel_sheet_94_40, hdE⟩

theorem fa_GoodsBookModel_drop_94 {X : Term} {xs : List Int32} (N : Nat) : (∀ (H : fl_H) (a1 : Int), ck (cm_pg X xs) N cm_m237 [.index 94, fl_t a1] H (fpI sU H)) := by
  induction N using Nat.strongRecOn with
  | ind N IH =>
    have hdE : (∀ (H : fl_H) (a1 : Int), ck (cm_pg X xs) N cm_m237 [.index 94, fl_t a1] H (fpI sU H)) := fun H a1 => ve_GoodsBookModel_drop_94 (have p := fr_refl sU H
      ⟨fun _ => (fun _ => ⟨fun _ => (fun _ H4 e5 => (fun _ => ⟨⟨_, rfl⟩, (fr_up p (by intros; rfl) e5)⟩)), fun _ => ⟨⟨_, rfl⟩, p⟩⟩), fun _ => ⟨⟨_, rfl⟩, p⟩⟩)
    exact hdE

theorem fa_GoodsBookModel_item_94 {X : Term} {xs : List Int32} (N : Nat) : (∀ (H : fl_H) (a1 : Int) (a2 : Int) (a3 : Int) (a4 : Int), ck (cm_pg X xs) N cm_m239 [.index 94, fl_t a1, fl_t a2, fl_t a3, fl_t a4] H (fpI sU H)) := by
  induction N using Nat.strongRecOn with
  | ind N IH =>
    have hdE : (∀ (H : fl_H) (a1 : Int) (a2 : Int) (a3 : Int) (a4 : Int), ck (cm_pg X xs) N cm_m239 [.index 94, fl_t a1, fl_t a2, fl_t a3, fl_t a4] H (fpI sU H)) := fun H a1 a2 a3 a4 => ve_GoodsBookModel_item_94 (have p := fr_refl sU H
      (fun m hm => ck_mono ((fa_GoodsBookModel_isSheet m) _ _ _) (fun _ _ ⟨⟨x, hx⟩, w2⟩ => ⟨x, hx, ⟨fun _ => ⟨⟨_, rfl⟩, (fr_trans p w2)⟩, fun _ => (fun m hm => ck_mono ((fa_GoodsBookModel_lacksRow_94 m) _ _ _ _ _) (fun _ _ ⟨⟨x, hx⟩, w6⟩ => ⟨x, hx, ⟨fun _ => ⟨fun _ => (fun _ H10 e11 => ⟨⟨_, rfl⟩, (fr_up (fr_trans (fr_trans p w2) w6) (by intros; rfl) e11)⟩), fun _ => ⟨fun _ => (fun _ H14 e15 => ⟨⟨_, rfl⟩, (fr_up (fr_trans (fr_trans p w2) w6) (by intros; rfl) e15)⟩), fun _ => (fun _ H17 e18 => ⟨⟨_, rfl⟩, (fr_up (fr_trans (fr_trans p w2) w6) (by intros; rfl) e18)⟩)⟩⟩, fun _ => ⟨⟨_, rfl⟩, (fr_trans (fr_trans p w2) w6)⟩⟩⟩))⟩⟩)))
    exact hdE

end
