noncomputable section
/-! L3: calls that write at most what is drawn up anew. -/
def sQ (c : Nat) (_ : Nat) : Bool := !(Nat.beq c 85 || (Nat.beq c 86 || Nat.beq c 100))
theorem fv_GoodsBook_isPage_0 {X : Term} {xs : List Int32} (N : Nat) : (∀ (H : fl_H) (a1 : Int), ck (cm_pg X xs) N cm_m138 [.index 0, fl_t a1] H (fpI sQ H)) := by
  induction N using Nat.strongRecOn with
  | ind N IH =>
    have hdE : (∀ (H : fl_H) (a1 : Int), ck (cm_pg X xs) N cm_m138 [.index 0, fl_t a1] H (fpI sQ H)) := fun H a1 => ve_GoodsBook_isPage_0 (have p := fr_refl sQ H
      ⟨⟨_, rfl⟩, p⟩)
    exact hdE

theorem fv_Goods_area_3 {X : Term} {xs : List Int32} (N : Nat) : (∀ (H : fl_H) (a1 : Int), ck (cm_pg X xs) N cm_m45 [.index 3, fl_t a1] H (fpI sQ H)) := by
  induction N using Nat.strongRecOn with
  | ind N IH =>
    have hdE : (∀ (H : fl_H) (a1 : Int), ck (cm_pg X xs) N cm_m45 [.index 3, fl_t a1] H (fpI sQ H)) := fun H a1 => ve_Goods_area_3 (have p := fr_refl sQ H
      (fun _ => (fun _ => ⟨⟨_, rfl⟩, p⟩)))
    exact hdE

theorem fv_Sack_taken_85 {X : Term} {xs : List Int32} (N : Nat) : (∀ (H : fl_H) (a1 : Int) (a2 : Int) (a3 : Int) (a4 : Int) (a5 : Int) (a6 : Int), hd_Sack_taken_85_26 (cm_pg X xs) N H a1 a2 a3 a4 a5 a6 (fpI sQ H)) ∧ (∀ (H : fl_H) (a1 : Int) (a2 : Int) (a3 : Int), hd_Sack_taken_85_4 (cm_pg X xs) N H a1 a2 a3 (fpI sQ H)) ∧ (∀ (H : fl_H) (a1 : Int), ck (cm_pg X xs) N cm_m54 [.index 85, fl_t a1] H (fpI sQ H)) := by
  induction N using Nat.strongRecOn with
  | ind N IH =>
    have hdSack_taken_85_26 : (∀ (H : fl_H) (a1 : Int) (a2 : Int) (a3 : Int) (a4 : Int) (a5 : Int) (a6 : Int), hd_Sack_taken_85_26 (cm_pg X xs) N H a1 a2 a3 a4 a5 a6 (fpI sQ H)) := fun H a1 a2 a3 a4 a5 a6 => vh_Sack_taken_85_26 (have p := fr_refl sQ H
      ⟨fun _ => (fun m hm => (fun lv l0 l1 l2 l3 => vt_mono (Nat.le_refl _) (fun _ _ kk => ⟨kk.1, fr_trans p kk.2⟩) ((IH m hm).2.1 _ _ _ _ lv l0 l1 l2 l3))), fun _ => (fun m hm => ck_mono ((fv_Goods_area_3 m) _ _) (fun _ _ ⟨⟨x, hx⟩, w5⟩ => ⟨x, hx, (fun _ => ⟨fun _ => (fun m hm => (fun lv l0 l1 l2 l3 l4 l5 l6 => vt_mono (Nat.le_refl _) (fun _ _ kk => ⟨kk.1, fr_trans (fr_trans p w5) kk.2⟩) ((IH m hm).1 _ _ _ _ _ _ _ lv l0 l1 l2 l3 l4 l5 l6))), fun _ => ⟨fun _ => ⟨fun _ => (fun m hm => (fun lv l0 l1 l2 l3 l4 l5 l6 => vt_mono (Nat.le_refl _) (fun _ _ kk => ⟨kk.1, fr_trans (fr_trans p w5) kk.2⟩) ((IH m hm).1 _ _ _ _ _ _ _ lv l0 l1 l2 l3 l4 l5 l6))), fun _ => (fun m hm => (fun lv l0 l1 l2 l3 l4 l5 l6 => vt_mono (Nat.le_refl _) (fun _ _ kk => ⟨kk.1, fr_trans (fr_trans p w5) kk.2⟩) ((IH m hm).1 _ _ _ _ _ _ _ lv l0 l1 l2 l3 l4 l5 l6)))⟩, fun _ => (fun m hm => (fun lv l0 l1 l2 l3 l4 l5 l6 => vt_mono (Nat.le_refl _) (fun _ _ kk => ⟨kk.1, fr_trans (fr_trans p w5) kk.2⟩) ((IH m hm).1 _ _ _ _ _ _ _ lv l0 l1 l2 l3 l4 l5 l6)))⟩⟩)⟩))⟩)
    have hdSack_taken_85_4 : (∀ (H : fl_H) (a1 : Int) (a2 : Int) (a3 : Int), hd_Sack_taken_85_4 (cm_pg X xs) N H a1 a2 a3 (fpI sQ H)) := fun H a1 a2 a3 => vh_Sack_taken_85_4 (have p := fr_refl sQ H
      ⟨fun _ => ⟨⟨_, rfl⟩, p⟩, fun _ => (fun lv l0 l1 l2 l3 l4 l5 l6 => vt_mono (Nat.le_refl _) (fun _ _ kk => ⟨kk.1, fr_trans p kk.2⟩) (hdSack_taken_85_26 _ _ _ _ _ _ _ lv l0 l1 l2 l3 l4 l5 l6))⟩)
    have hdE : (∀ (H : fl_H) (a1 : Int), ck (cm_pg X xs) N cm_m54 [.index 85, fl_t a1] H (fpI sQ H)) := fun H a1 => ve_Sack_taken_85 (have p := fr_refl sQ H
      (fun lv l0 l1 l2 l3 => vt_mono (Nat.le_refl _) (fun _ _ kk => ⟨kk.1, fr_trans p kk.2⟩) (hdSack_taken_85_4 _ _ _ _ lv l0 l1 l2 l3)))
    exact ⟨hdSack_taken_85_26, hdSack_taken_85_4, hdE⟩

theorem fv_Sack_price_85 {X : Term} {xs : List Int32} (N : Nat) : (∀ (H : fl_H) (a2 : Int) (a3 : Int) (a4 : Int), hd_Sack_price_85_13 (cm_pg X xs) N H a2 a3 a4 (fpI sQ H)) ∧ (∀ (H : fl_H) (a1 : Int), ck (cm_pg X xs) N cm_m53 [.index 85, fl_t a1] H (fpI sQ H)) := by
  induction N using Nat.strongRecOn with
  | ind N IH =>
    have hdSack_price_85_13 : (∀ (H : fl_H) (a2 : Int) (a3 : Int) (a4 : Int), hd_Sack_price_85_13 (cm_pg X xs) N H a2 a3 a4 (fpI sQ H)) := fun H a2 a3 a4 => vh_Sack_price_85_13 (have p := fr_refl sQ H
      ⟨fun _ => ⟨⟨_, rfl⟩, p⟩, fun _ => ⟨fun _ => ⟨⟨_, rfl⟩, p⟩, fun _ => (fun m hm => ck_mono ((fv_Sack_taken_85 m).2.2 _ _) (fun _ _ ⟨⟨x, hx⟩, w5⟩ => ⟨x, hx, ⟨fun _ => (fun m hm => (fun lv l0 l1 l2 l3 => vt_mono (Nat.le_refl _) (fun _ _ kk => ⟨kk.1, fr_trans (fr_trans p w5) kk.2⟩) ((IH m hm).1 _ _ _ _ lv l0 l1 l2 l3))), fun _ => (fun m hm => (fun lv l0 l1 l2 l3 => vt_mono (Nat.le_refl _) (fun _ _ kk => ⟨kk.1, fr_trans (fr_trans p w5) kk.2⟩) ((IH m hm).1 _ _ _ _ lv l0 l1 l2 l3)))⟩⟩))⟩⟩)
    have hdE : (∀ (H : fl_H) (a1 : Int), ck (cm_pg X xs) N cm_m53 [.index 85, fl_t a1] H (fpI sQ H)) := fun H a1 => ve_Sack_price_85 (have p := fr_refl sQ H
      (fun H1 e2 => (fun lv l0 l1 l2 l3 => vt_mono (Nat.le_refl _) (fun _ _ kk => ⟨kk.1, fr_trans (fr_up p (by intros; rfl) e2) kk.2⟩) (hdSack_price_85_13 _ _ _ _ lv l0 l1 l2 l3))))
    exact ⟨hdSack_price_85_13, hdE⟩

theorem fv_Arrays_fill_86 {X : Term} {xs : List Int32} (N : Nat) : (∀ (H : fl_H) (a1 : Int) (a2 : Int) (a3 : Int), hd_Arrays_fill_86_5 (cm_pg X xs) N H a1 a2 a3 (fpV sQ H)) ∧ (∀ (H : fl_H) (a1 : Int), ck (cm_pg X xs) N cm_m249 [.index 86, fl_t a1] H (fpV sQ H)) := by
  induction N using Nat.strongRecOn with
  | ind N IH =>
    have hdArrays_fill_86_5 : (∀ (H : fl_H) (a1 : Int) (a2 : Int) (a3 : Int), hd_Arrays_fill_86_5 (cm_pg X xs) N H a1 a2 a3 (fpV sQ H)) := fun H a1 a2 a3 => vh_Arrays_fill_86_5 (have p := fr_refl sQ H
      ⟨fun _ => ⟨rfl, p⟩, fun _ => (fun _ H2 e3 => (fun m hm => (fun lv l0 l1 l2 l3 => vt_mono (Nat.le_refl _) (fun _ _ kk => ⟨kk.1, fr_trans (fr_up p (by intros; rfl) e3) kk.2⟩) ((IH m hm).1 _ _ _ _ lv l0 l1 l2 l3))))⟩)
    have hdE : (∀ (H : fl_H) (a1 : Int), ck (cm_pg X xs) N cm_m249 [.index 86, fl_t a1] H (fpV sQ H)) := fun H a1 => ve_Arrays_fill_86 (have p := fr_refl sQ H
      (fun lv l0 l1 l2 l3 => vt_mono (Nat.le_refl _) (fun _ _ kk => ⟨kk.1, fr_trans p kk.2⟩) (hdArrays_fill_86_5 _ _ _ _ lv l0 l1 l2 l3)))
    exact ⟨hdArrays_fill_86_5, hdE⟩

theorem fv_Sack_with_85 {X : Term} {xs : List Int32} (N : Nat) : (∀ (H : fl_H) (a1 : Int) (a2 : Int) (a3 : Int), ck (cm_pg X xs) N cm_m52 [.index 85, fl_t a1, fl_t a2, fl_t a3] H (fpI sQ H)) := by
  induction N using Nat.strongRecOn with
  | ind N IH =>
    have hdE : (∀ (H : fl_H) (a1 : Int) (a2 : Int) (a3 : Int), ck (cm_pg X xs) N cm_m52 [.index 85, fl_t a1, fl_t a2, fl_t a3] H (fpI sQ H)) := fun H a1 a2 a3 => ve_Sack_with_85 (have p := fr_refl sQ H
      ⟨fun _ => (fun _ => ⟨⟨_, rfl⟩, p⟩), fun _ => (fun m hm => ck_mono ((fv_Goods_area_3 m) _ _) (fun _ _ ⟨⟨x, hx⟩, w4⟩ => ⟨x, hx, ⟨fun _ => (fun _ => (fun _ => ⟨⟨_, rfl⟩, (fr_trans p w4)⟩)), fun _ => ⟨⟨_, rfl⟩, (fr_trans p w4)⟩⟩⟩))⟩)
    exact hdE

theorem fv_Sack_fill_85 {X : Term} {xs : List Int32} (N : Nat) : (∀ (H : fl_H) (a2 : Int) (a3 : Int) (a4 : Int) (a5 : Int), hd_Sack_fill_85_41 (cm_pg X xs) N H a2 a3 a4 a5 (fpV sQ H)) ∧ (∀ (H : fl_H) (a2 : Int) (a3 : Int), hd_Sack_fill_85_29 (cm_pg X xs) N H a2 a3 (fpV sQ H)) ∧ (∀ (H : fl_H) (a2 : Int), hd_Sack_fill_85_23 (cm_pg X xs) N H a2 (fpV sQ H)) ∧ (∀ (H : fl_H) (a1 : Int), ck (cm_pg X xs) N cm_m49 [.index 85, fl_t a1] H (fpV sQ H)) := by
  induction N using Nat.strongRecOn with
  | ind N IH =>
    have hdSack_fill_85_41 : (∀ (H : fl_H) (a2 : Int) (a3 : Int) (a4 : Int) (a5 : Int), hd_Sack_fill_85_41 (cm_pg X xs) N H a2 a3 a4 a5 (fpV sQ H)) := fun H a2 a3 a4 a5 => vh_Sack_fill_85_41 (have p := fr_refl sQ H
      ⟨fun _ => (fun _ H2 e3 => (fun m hm => (fun lv l0 l1 l2 => vt_mono (Nat.le_refl _) (fun _ _ kk => ⟨kk.1, fr_trans (fr_up p (by intros; rfl) e3) kk.2⟩) ((IH m hm).2.1 _ _ _ lv l0 l1 l2)))), fun _ => (fun m hm => ck_mono ((fv_Sack_with_85 m) _ _ _ _) (fun _ _ ⟨⟨x, hx⟩, w7⟩ => ⟨x, hx, (fun m hm => (fun lv l0 l1 l2 l3 l4 => vt_mono (Nat.le_refl _) (fun _ _ kk => ⟨kk.1, fr_trans (fr_trans p w7) kk.2⟩) ((IH m hm).1 _ _ _ _ _ lv l0 l1 l2 l3 l4)))⟩))⟩)
    have hdSack_fill_85_29 : (∀ (H : fl_H) (a2 : Int) (a3 : Int), hd_Sack_fill_85_29 (cm_pg X xs) N H a2 a3 (fpV sQ H)) := fun H a2 a3 => vh_Sack_fill_85_29 (have p := fr_refl sQ H
      ⟨fun _ => (fun m hm => (fun lv l0 l1 => vt_mono (Nat.le_refl _) (fun _ _ kk => ⟨kk.1, fr_trans p kk.2⟩) ((IH m hm).2.2.1 _ _ lv l0 l1))), fun _ => (fun lv l0 l1 l2 l3 l4 => vt_mono (Nat.le_refl _) (fun _ _ kk => ⟨kk.1, fr_trans p kk.2⟩) (hdSack_fill_85_41 _ _ _ _ _ lv l0 l1 l2 l3 l4))⟩)
    have hdSack_fill_85_23 : (∀ (H : fl_H) (a2 : Int), hd_Sack_fill_85_23 (cm_pg X xs) N H a2 (fpV sQ H)) := fun H a2 => vh_Sack_fill_85_23 (have p := fr_refl sQ H
      ⟨fun _ => ⟨rfl, p⟩, fun _ => (fun lv l0 l1 l2 => vt_mono (Nat.le_refl _) (fun _ _ kk => ⟨kk.1, fr_trans p kk.2⟩) (hdSack_fill_85_29 _ _ _ lv l0 l1 l2))⟩)
    have hdE : (∀ (H : fl_H) (a1 : Int), ck (cm_pg X xs) N cm_m49 [.index 85, fl_t a1] H (fpV sQ H)) := fun H a1 => ve_Sack_fill_85 (have p := fr_refl sQ H
      (fun H1 e2 => (fun m hm => ck_mono ((fv_Arrays_fill_86 m).2 _ _) (fun _ _ ⟨hx, w4⟩ => ⟨hx, (fun lv l0 l1 => vt_mono (Nat.le_refl _) (fun _ _ kk => ⟨kk.1, fr_trans (fr_trans (fr_up p (by intros; rfl) e2) w4) kk.2⟩) (hdSack_fill_85_23 _ _ lv l0 l1))⟩))))
    exact ⟨hdSack_fill_85_41, hdSack_fill_85_29, hdSack_fill_85_23, hdE⟩

theorem fv_Sack_most_85 {X : Term} {xs : List Int32} (N : Nat) : (∀ (H : fl_H), ck (cm_pg X xs) N cm_m50 [.index 85] H (fpI sQ H)) := by
  induction N using Nat.strongRecOn with
  | ind N IH =>
    have hdE : (∀ (H : fl_H), ck (cm_pg X xs) N cm_m50 [.index 85] H (fpI sQ H)) := fun H => ve_Sack_most_85 (have p := fr_refl sQ H
      ⟨⟨_, rfl⟩, p⟩)
    exact hdE

theorem fv_Sack_picked_85 {X : Term} {xs : List Int32} (N : Nat) : (∀ (H : fl_H) (a1 : Int) (a2 : Int) (a3 : Int) (a4 : Int), hd_Sack_picked_85_19 (cm_pg X xs) N H a1 a2 a3 a4 (fpI sQ H)) ∧ (∀ (H : fl_H) (a1 : Int) (a2 : Int) (a3 : Int), hd_Sack_picked_85_5 (cm_pg X xs) N H a1 a2 a3 (fpI sQ H)) ∧ (∀ (H : fl_H) (a1 : Int), ck (cm_pg X xs) N cm_m51 [.index 85, fl_t a1] H (fpI sQ H)) := by
  induction N using Nat.strongRecOn with
  | ind N IH =>
    have hdSack_picked_85_19 : (∀ (H : fl_H) (a1 : Int) (a2 : Int) (a3 : Int) (a4 : Int), hd_Sack_picked_85_19 (cm_pg X xs) N H a1 a2 a3 a4 (fpI sQ H)) := fun H a1 a2 a3 a4 => vh_Sack_picked_85_19 (have p := fr_refl sQ H
      ⟨fun _ => ⟨fun _ => ⟨⟨_, rfl⟩, p⟩, fun _ => ⟨fun _ => (fun m hm => (fun lv l0 l1 l2 l3 => vt_mono (Nat.le_refl _) (fun _ _ kk => ⟨kk.1, fr_trans p kk.2⟩) ((IH m hm).2.1 _ _ _ _ lv l0 l1 l2 l3))), fun _ => (fun m hm => ck_mono ((fv_Goods_area_3 m) _ _) (fun _ _ ⟨⟨x, hx⟩, w6⟩ => ⟨x, hx, (fun m hm => (fun lv l0 l1 l2 l3 => vt_mono (Nat.le_refl _) (fun _ _ kk => ⟨kk.1, fr_trans (fr_trans p w6) kk.2⟩) ((IH m hm).2.1 _ _ _ _ lv l0 l1 l2 l3)))⟩))⟩⟩, fun _ => (fun m hm => ck_mono ((fv_Sack_with_85 m) _ _ _ _) (fun _ _ ⟨⟨x, hx⟩, w11⟩ => ⟨x, hx, (fun _ => ⟨fun _ => ⟨fun _ => ⟨⟨_, rfl⟩, (fr_trans p w11)⟩, fun _ => ⟨fun _ => (fun m hm => (fun lv l0 l1 l2 l3 => vt_mono (Nat.le_refl _) (fun _ _ kk => ⟨kk.1, fr_trans (fr_trans p w11) kk.2⟩) ((IH m hm).2.1 _ _ _ _ lv l0 l1 l2 l3))), fun _ => (fun m hm => ck_mono ((fv_Goods_area_3 m) _ _) (fun _ _ ⟨⟨x, hx⟩, w19⟩ => ⟨x, hx, (fun m hm => (fun lv l0 l1 l2 l3 => vt_mono (Nat.le_refl _) (fun _ _ kk => ⟨kk.1, fr_trans (fr_trans (fr_trans p w11) w19) kk.2⟩) ((IH m hm).2.1 _ _ _ _ lv l0 l1 l2 l3)))⟩))⟩⟩, fun _ => (fun m hm => (fun lv l0 l1 l2 l3 l4 => vt_mono (Nat.le_refl _) (fun _ _ kk => ⟨kk.1, fr_trans (fr_trans p w11) kk.2⟩) ((IH m hm).1 _ _ _ _ _ lv l0 l1 l2 l3 l4)))⟩)⟩))⟩)
    have hdSack_picked_85_5 : (∀ (H : fl_H) (a1 : Int) (a2 : Int) (a3 : Int), hd_Sack_picked_85_5 (cm_pg X xs) N H a1 a2 a3 (fpI sQ H)) := fun H a1 a2 a3 => vh_Sack_picked_85_5 (have p := fr_refl sQ H
      ⟨fun _ => ⟨⟨_, rfl⟩, p⟩, fun _ => (fun lv l0 l1 l2 l3 l4 => vt_mono (Nat.le_refl _) (fun _ _ kk => ⟨kk.1, fr_trans p kk.2⟩) (hdSack_picked_85_19 _ _ _ _ _ lv l0 l1 l2 l3 l4))⟩)
    have hdE : (∀ (H : fl_H) (a1 : Int), ck (cm_pg X xs) N cm_m51 [.index 85, fl_t a1] H (fpI sQ H)) := fun H a1 => ve_Sack_picked_85 (have p := fr_refl sQ H
      (fun lv l0 l1 l2 l3 => vt_mono (Nat.le_refl _) (fun _ _ kk => ⟨kk.1, fr_trans p kk.2⟩) (hdSack_picked_85_5 _ _ _ _ lv l0 l1 l2 l3)))
    exact ⟨hdSack_picked_85_19, hdSack_picked_85_5, hdE⟩

theorem fv_GoodsBook_squares_0 {X : Term} {xs : List Int32} (N : Nat) : (∀ (H : fl_H) (a1 : Int) (a2 : Int), ck (cm_pg X xs) N cm_m121 [.index 0, fl_t a1, fl_t a2] H (fpI sQ H)) := by
  induction N using Nat.strongRecOn with
  | ind N IH =>
    have hdE : (∀ (H : fl_H) (a1 : Int) (a2 : Int), ck (cm_pg X xs) N cm_m121 [.index 0, fl_t a1, fl_t a2] H (fpI sQ H)) := fun H a1 a2 => ve_GoodsBook_squares_0 (have p := fr_refl sQ H
      (fun m hm => ck_mono ((fv_GoodsBook_isPage_0 m) _ _) (fun _ _ ⟨⟨x, hx⟩, w2⟩ => ⟨x, hx, ⟨fun _ => ⟨⟨_, rfl⟩, (fr_trans p w2)⟩, fun _ => ⟨fun _ => ⟨fun _ => (fun _ => (fun m hm => ck_mono ((fv_Sack_price_85 m).2 _ _) (fun _ _ ⟨⟨x, hx⟩, w9⟩ => ⟨x, hx, ⟨⟨_, rfl⟩, (fr_trans (fr_trans p w2) w9)⟩⟩))), fun _ => (fun _ => (fun m hm => ck_mono ((fv_Sack_fill_85 m).2.2.2 _ _) (fun _ _ ⟨hx, w13⟩ => ⟨hx, ⟨fun _ => (fun m hm => ck_mono ((fv_Sack_most_85 m) _) (fun _ _ ⟨⟨x, hx⟩, w16⟩ => ⟨x, hx, ⟨⟨_, rfl⟩, (fr_trans (fr_trans (fr_trans p w2) w13) w16)⟩⟩)), fun _ => (fun m hm => ck_mono ((fv_Sack_picked_85 m).2.2 _ _) (fun _ _ ⟨⟨x, hx⟩, w19⟩ => ⟨x, hx, ⟨⟨_, rfl⟩, (fr_trans (fr_trans (fr_trans p w2) w13) w19)⟩⟩))⟩⟩)))⟩, fun _ => ⟨⟨_, rfl⟩, (fr_trans p w2)⟩⟩⟩⟩)))
    exact hdE

theorem fv_GoodsBook_isGood_0 {X : Term} {xs : List Int32} (N : Nat) : (∀ (H : fl_H) (a1 : Int), ck (cm_pg X xs) N cm_m139 [.index 0, fl_t a1] H (fpI sQ H)) := by
  induction N using Nat.strongRecOn with
  | ind N IH =>
    have hdE : (∀ (H : fl_H) (a1 : Int), ck (cm_pg X xs) N cm_m139 [.index 0, fl_t a1] H (fpI sQ H)) := fun H a1 => ve_GoodsBook_isGood_0 (have p := fr_refl sQ H
      ⟨⟨_, rfl⟩, p⟩)
    exact hdE

theorem fv_Years_tellOf_14 {X : Term} {xs : List Int32} (N : Nat) : (∀ (H : fl_H) (a1 : Int) (a2 : Int), hd_Years_tellOf_14_2 (cm_pg X xs) N H a1 a2 (fpI sQ H)) ∧ (∀ (H : fl_H) (a1 : Int), ck (cm_pg X xs) N cm_m94 [.index 14, fl_t a1] H (fpI sQ H)) := by
  induction N using Nat.strongRecOn with
  | ind N IH =>
    have hdYears_tellOf_14_2 : (∀ (H : fl_H) (a1 : Int) (a2 : Int), hd_Years_tellOf_14_2 (cm_pg X xs) N H a1 a2 (fpI sQ H)) := fun H a1 a2 => vh_Years_tellOf_14_2 (have p := fr_refl sQ H
      ⟨fun _ => ⟨⟨_, rfl⟩, p⟩, fun _ => (fun _ => ⟨fun _ => ⟨⟨_, rfl⟩, p⟩, fun _ => (fun m hm => (fun lv l0 l1 l2 => vt_mono (Nat.le_refl _) (fun _ _ kk => ⟨kk.1, fr_trans p kk.2⟩) ((IH m hm).1 _ _ _ lv l0 l1 l2)))⟩)⟩)
    have hdE : (∀ (H : fl_H) (a1 : Int), ck (cm_pg X xs) N cm_m94 [.index 14, fl_t a1] H (fpI sQ H)) := fun H a1 => ve_Years_tellOf_14 (have p := fr_refl sQ H
      (fun lv l0 l1 l2 => vt_mono (Nat.le_refl _) (fun _ _ kk => ⟨kk.1, fr_trans p kk.2⟩) (hdYears_tellOf_14_2 _ _ _ lv l0 l1 l2)))
    exact ⟨hdYears_tellOf_14_2, hdE⟩

theorem fv_Years_distance_14 {X : Term} {xs : List Int32} (N : Nat) : (∀ (H : fl_H) (a1 : Int) (a2 : Int) (a3 : Int) (a4 : Int) (a5 : Int), hd_Years_distance_14_6 (cm_pg X xs) N H a1 a2 a3 a4 a5 (fpI sQ H)) ∧ (∀ (H : fl_H) (a1 : Int) (a2 : Int) (a3 : Int), ck (cm_pg X xs) N cm_m97 [.index 14, fl_t a1, fl_t a2, fl_t a3] H (fpI sQ H)) := by
  induction N using Nat.strongRecOn with
  | ind N IH =>
    have hdYears_distance_14_6 : (∀ (H : fl_H) (a1 : Int) (a2 : Int) (a3 : Int) (a4 : Int) (a5 : Int), hd_Years_distance_14_6 (cm_pg X xs) N H a1 a2 a3 a4 a5 (fpI sQ H)) := fun H a1 a2 a3 a4 a5 => vh_Years_distance_14_6 (have p := fr_refl sQ H
      ⟨fun _ => ⟨⟨_, rfl⟩, p⟩, fun _ => (fun _ => ⟨fun _ => (fun _ => ⟨fun _ => (fun _ => (fun m hm => (fun lv l0 l1 l2 l3 l4 l5 => vt_mono (Nat.le_refl _) (fun _ _ kk => ⟨kk.1, fr_trans p kk.2⟩) ((IH m hm).1 _ _ _ _ _ _ lv l0 l1 l2 l3 l4 l5)))), fun _ => (fun _ => (fun _ => (fun m hm => (fun lv l0 l1 l2 l3 l4 l5 => vt_mono (Nat.le_refl _) (fun _ _ kk => ⟨kk.1, fr_trans p kk.2⟩) ((IH m hm).1 _ _ _ _ _ _ lv l0 l1 l2 l3 l4 l5)))))⟩), fun _ => (fun m hm => (fun lv l0 l1 l2 l3 l4 l5 => vt_mono (Nat.le_refl _) (fun _ _ kk => ⟨kk.1, fr_trans p kk.2⟩) ((IH m hm).1 _ _ _ _ _ _ lv l0 l1 l2 l3 l4 l5)))⟩)⟩)
    have hdE : (∀ (H : fl_H) (a1 : Int) (a2 : Int) (a3 : Int), ck (cm_pg X xs) N cm_m97 [.index 14, fl_t a1, fl_t a2, fl_t a3] H (fpI sQ H)) := fun H a1 a2 a3 => ve_Years_distance_14 (have p := fr_refl sQ H
      (fun lv l0 l1 l2 l3 l4 l5 => vt_mono (Nat.le_refl _) (fun _ _ kk => ⟨kk.1, fr_trans p kk.2⟩) (hdYears_distance_14_6 _ _ _ _ _ _ lv l0 l1 l2 l3 l4 l5)))
    exact ⟨hdYears_distance_14_6, hdE⟩

theorem fv_Years_leastAt_14 {X : Term} {xs : List Int32} (N : Nat) : (∀ (H : fl_H) (a1 : Int) (a2 : Int) (a3 : Int) (a4 : Int) (a5 : Int), hd_Years_leastAt_14_10 (cm_pg X xs) N H a1 a2 a3 a4 a5 (fpI sQ H)) ∧ (∀ (H : fl_H) (a1 : Int) (a2 : Int), ck (cm_pg X xs) N cm_m96 [.index 14, fl_t a1, fl_t a2] H (fpI sQ H)) := by
  induction N using Nat.strongRecOn with
  | ind N IH =>
    have hdYears_leastAt_14_10 : (∀ (H : fl_H) (a1 : Int) (a2 : Int) (a3 : Int) (a4 : Int) (a5 : Int), hd_Years_leastAt_14_10 (cm_pg X xs) N H a1 a2 a3 a4 a5 (fpI sQ H)) := fun H a1 a2 a3 a4 a5 => vh_Years_leastAt_14_10 (have p := fr_refl sQ H
      ⟨fun _ => ⟨⟨_, rfl⟩, p⟩, fun _ => ⟨fun _ => ⟨⟨_, rfl⟩, p⟩, fun _ => (fun m hm => ck_mono ((fv_Years_distance_14 m).2 _ _ _ _) (fun _ _ ⟨⟨x, hx⟩, w5⟩ => ⟨x, hx, (fun m hm => ck_mono ((fv_Years_distance_14 m).2 _ _ _ _) (fun _ _ ⟨⟨x, hx⟩, w8⟩ => ⟨x, hx, ⟨fun _ => (fun m hm => (fun lv l0 l1 l2 l3 l4 l5 => vt_mono (Nat.le_refl _) (fun _ _ kk => ⟨kk.1, fr_trans (fr_trans (fr_trans p w5) w8) kk.2⟩) ((IH m hm).1 _ _ _ _ _ _ lv l0 l1 l2 l3 l4 l5))), fun _ => (fun m hm => (fun lv l0 l1 l2 l3 l4 l5 => vt_mono (Nat.le_refl _) (fun _ _ kk => ⟨kk.1, fr_trans (fr_trans (fr_trans p w5) w8) kk.2⟩) ((IH m hm).1 _ _ _ _ _ _ lv l0 l1 l2 l3 l4 l5)))⟩⟩))⟩))⟩⟩)
    have hdE : (∀ (H : fl_H) (a1 : Int) (a2 : Int), ck (cm_pg X xs) N cm_m96 [.index 14, fl_t a1, fl_t a2] H (fpI sQ H)) := fun H a1 a2 => ve_Years_leastAt_14 (have p := fr_refl sQ H
      (fun lv l0 l1 l2 l3 l4 l5 => vt_mono (Nat.le_refl _) (fun _ _ kk => ⟨kk.1, fr_trans p kk.2⟩) (hdYears_leastAt_14_10 _ _ _ _ _ _ lv l0 l1 l2 l3 l4 l5)))
    exact ⟨hdYears_leastAt_14_10, hdE⟩

theorem fv_Years_lesson_14 {X : Term} {xs : List Int32} (N : Nat) : (∀ (H : fl_H) (a1 : Int) (a2 : Int) (a3 : Int) (a4 : Int) (a5 : Int) (a6 : Int) (a7 : Int), hd_Years_lesson_14_26 (cm_pg X xs) N H a1 a2 a3 a4 a5 a6 a7 (fpI sQ H)) ∧ (∀ (H : fl_H) (a1 : Int) (a2 : Int), ck (cm_pg X xs) N cm_m95 [.index 14, fl_t a1, fl_t a2] H (fpI sQ H)) := by
  induction N using Nat.strongRecOn with
  | ind N IH =>
    have hdYears_lesson_14_26 : (∀ (H : fl_H) (a1 : Int) (a2 : Int) (a3 : Int) (a4 : Int) (a5 : Int) (a6 : Int) (a7 : Int), hd_Years_lesson_14_26 (cm_pg X xs) N H a1 a2 a3 a4 a5 a6 a7 (fpI sQ H)) := fun H a1 a2 a3 a4 a5 a6 a7 => vh_Years_lesson_14_26 (have p := fr_refl sQ H
      ⟨fun _ => ⟨fun _ => ⟨⟨_, rfl⟩, p⟩, fun _ => ⟨⟨_, rfl⟩, p⟩, fun _ => ⟨⟨_, rfl⟩, p⟩, fun _ => ⟨⟨_, rfl⟩, p⟩⟩, fun _ => (fun m hm => ck_mono ((fv_Years_leastAt_14 m).2 _ _ _) (fun _ _ ⟨⟨x, hx⟩, w7⟩ => ⟨x, hx, (fun m hm => ck_mono ((fv_Years_distance_14 m).2 _ _ _ _) (fun _ _ ⟨⟨x, hx⟩, w11⟩ => ⟨x, hx, ⟨fun _ => ⟨fun _ => (fun m hm => (fun lv l0 l1 l2 l3 l4 l5 l6 l7 => vt_mono (Nat.le_refl _) (fun _ _ kk => ⟨kk.1, fr_trans (fr_trans (fr_trans p w7) w11) kk.2⟩) ((IH m hm).1 _ _ _ _ _ _ _ _ lv l0 l1 l2 l3 l4 l5 l6 l7))), fun _ => (fun m hm => (fun lv l0 l1 l2 l3 l4 l5 l6 l7 => vt_mono (Nat.le_refl _) (fun _ _ kk => ⟨kk.1, fr_trans (fr_trans (fr_trans p w7) w11) kk.2⟩) ((IH m hm).1 _ _ _ _ _ _ _ _ lv l0 l1 l2 l3 l4 l5 l6 l7)))⟩, fun _ => ⟨fun _ => (fun m hm => (fun lv l0 l1 l2 l3 l4 l5 l6 l7 => vt_mono (Nat.le_refl _) (fun _ _ kk => ⟨kk.1, fr_trans (fr_trans (fr_trans p w7) w11) kk.2⟩) ((IH m hm).1 _ _ _ _ _ _ _ _ lv l0 l1 l2 l3 l4 l5 l6 l7))), fun _ => (fun m hm => (fun lv l0 l1 l2 l3 l4 l5 l6 l7 => vt_mono (Nat.le_refl _) (fun _ _ kk => ⟨kk.1, fr_trans (fr_trans (fr_trans p w7) w11) kk.2⟩) ((IH m hm).1 _ _ _ _ _ _ _ _ lv l0 l1 l2 l3 l4 l5 l6 l7)))⟩⟩⟩))⟩))⟩)
    have hdE : (∀ (H : fl_H) (a1 : Int) (a2 : Int), ck (cm_pg X xs) N cm_m95 [.index 14, fl_t a1, fl_t a2] H (fpI sQ H)) := fun H a1 a2 => ve_Years_lesson_14 (have p := fr_refl sQ H
      (fun m hm => ck_mono ((fv_Years_leastAt_14 m).2 _ _ _) (fun _ _ ⟨⟨x, hx⟩, w2⟩ => ⟨x, hx, (fun m hm => ck_mono ((fv_Years_distance_14 m).2 _ _ _ _) (fun _ _ ⟨⟨x, hx⟩, w5⟩ => ⟨x, hx, (fun lv l0 l1 l2 l3 l4 l5 l6 l7 => vt_mono (Nat.le_refl _) (fun _ _ kk => ⟨kk.1, fr_trans (fr_trans (fr_trans p w2) w5) kk.2⟩) (hdYears_lesson_14_26 _ _ _ _ _ _ _ _ lv l0 l1 l2 l3 l4 l5 l6 l7))⟩))⟩)))
    exact ⟨hdYears_lesson_14_26, hdE⟩

theorem fv_GoodsBook_learnt_0 {X : Term} {xs : List Int32} (N : Nat) : (∀ (H : fl_H) (a1 : Int) (a2 : Int), ck (cm_pg X xs) N cm_m129 [.index 0, fl_t a1, fl_t a2] H (fpI sQ H)) := by
  induction N using Nat.strongRecOn with
  | ind N IH =>
    have hdE : (∀ (H : fl_H) (a1 : Int) (a2 : Int), ck (cm_pg X xs) N cm_m129 [.index 0, fl_t a1, fl_t a2] H (fpI sQ H)) := fun H a1 a2 => ve_GoodsBook_learnt_0 (have p := fr_refl sQ H
      (fun m hm => ck_mono ((fv_GoodsBook_isGood_0 m) _ _) (fun _ _ ⟨⟨x, hx⟩, w2⟩ => ⟨x, hx, ⟨fun _ => ⟨⟨_, rfl⟩, (fr_trans p w2)⟩, fun _ => ⟨fun _ => (fun m hm => ck_mono ((fv_Years_tellOf_14 m).2 _ _) (fun _ _ ⟨⟨x, hx⟩, w7⟩ => ⟨x, hx, ⟨fun _ => ⟨⟨_, rfl⟩, (fr_trans (fr_trans p w2) w7)⟩, fun _ => (fun m hm => ck_mono ((fv_Years_lesson_14 m).2 _ _ _) (fun _ _ ⟨⟨x, hx⟩, w11⟩ => ⟨x, hx, ⟨⟨_, rfl⟩, (fr_trans (fr_trans (fr_trans p w2) w7) w11)⟩⟩))⟩⟩)), fun _ => ⟨⟨_, rfl⟩, (fr_trans p w2)⟩⟩⟩⟩)))
    exact hdE

theorem fv_GoodsBookModel_isPage_94 {X : Term} {xs : List Int32} (N : Nat) : (∀ (H : fl_H) (a1 : Int), ck (cm_pg X xs) N cm_m148 [.index 94, fl_t a1] H (fpI sQ H)) := by
  induction N using Nat.strongRecOn with
  | ind N IH =>
    have hdE : (∀ (H : fl_H) (a1 : Int), ck (cm_pg X xs) N cm_m148 [.index 94, fl_t a1] H (fpI sQ H)) := fun H a1 => ve_GoodsBookModel_isPage_94 (have p := fr_refl sQ H
      ⟨⟨_, rfl⟩, p⟩)
    exact hdE

theorem fv_GoodsBookModel_isSheet {X : Term} {xs : List Int32} (N : Nat) : (∀ (H : fl_H) (a0 : Int) (a1 : Int), ck (cm_pg X xs) N cm_m235 [fl_t a0, fl_t a1] H (fpI sQ H)) := by
  induction N using Nat.strongRecOn with
  | ind N IH =>
    have hdE : (∀ (H : fl_H) (a0 : Int) (a1 : Int), ck (cm_pg X xs) N cm_m235 [fl_t a0, fl_t a1] H (fpI sQ H)) := fun H a0 a1 => ve_GoodsBookModel_isSheet (have p := fr_refl sQ H
      ⟨fun _ => ⟨fun _ => ⟨⟨_, rfl⟩, p⟩, fun _ => ⟨⟨_, rfl⟩, p⟩⟩, fun _ => ⟨⟨_, rfl⟩, p⟩⟩)
    exact hdE

theorem fv_GoodsBookModel_takePlan_94 {X : Term} {xs : List Int32} (N : Nat) : (∀ (H : fl_H) (a1 : Int), hd_GoodsBookModel_takePlan_94_2 (cm_pg X xs) N H a1 (fpV sQ H)) ∧ (∀ (H : fl_H), ck (cm_pg X xs) N cm_m176 [.index 94] H (fpV sQ H)) := by
  induction N using Nat.strongRecOn with
  | ind N IH =>
    have hdGoodsBookModel_takePlan_94_2 : (∀ (H : fl_H) (a1 : Int), hd_GoodsBookModel_takePlan_94_2 (cm_pg X xs) N H a1 (fpV sQ H)) := fun H a1 => vh_GoodsBookModel_takePlan_94_2 (have p := fr_refl sQ H
      ⟨fun _ => ⟨rfl, p⟩, fun _ => ⟨fun _ => (fun _ H3 e4 => (fun m hm => (fun lv l0 l1 => vt_mono (Nat.le_refl _) (fun _ _ kk => ⟨kk.1, fr_trans (fr_up p (by intros; rfl) e4) kk.2⟩) ((IH m hm).1 _ _ lv l0 l1)))), fun _ => (fun _ => (fun _ H8 e9 => (fun m hm => (fun lv l0 l1 => vt_mono (Nat.le_refl _) (fun _ _ kk => ⟨kk.1, fr_trans (fr_up p (by intros; rfl) e9) kk.2⟩) ((IH m hm).1 _ _ lv l0 l1)))))⟩⟩)
    have hdE : (∀ (H : fl_H), ck (cm_pg X xs) N cm_m176 [.index 94] H (fpV sQ H)) := fun H => ve_GoodsBookModel_takePlan_94 (have p := fr_refl sQ H
      (fun lv l0 l1 => vt_mono (Nat.le_refl _) (fun _ _ kk => ⟨kk.1, fr_trans p kk.2⟩) (hdGoodsBookModel_takePlan_94_2 _ _ lv l0 l1)))
    exact ⟨hdGoodsBookModel_takePlan_94_2, hdE⟩

theorem fv_GoodsBookModel_pageOf {X : Term} {xs : List Int32} (N : Nat) : (∀ (H : fl_H) (a0 : Int), ck (cm_pg X xs) N cm_m151 [fl_t a0] H (fpI sQ H)) := by
  induction N using Nat.strongRecOn with
  | ind N IH =>
    have hdE : (∀ (H : fl_H) (a0 : Int), ck (cm_pg X xs) N cm_m151 [fl_t a0] H (fpI sQ H)) := fun H a0 => ve_GoodsBookModel_pageOf (have p := fr_refl sQ H
      ⟨fun _ => ⟨⟨_, rfl⟩, p⟩, fun _ => ⟨⟨_, rfl⟩, p⟩⟩)
    exact hdE

theorem fv_GoodsBookModel_onPage_94 {X : Term} {xs : List Int32} (N : Nat) : (∀ (H : fl_H) (a1 : Int) (a2 : Int) (a3 : Int), hd_GoodsBookModel_onPage_94_4 (cm_pg X xs) N H a1 a2 a3 (fpI sQ H)) ∧ (∀ (H : fl_H) (a1 : Int), ck (cm_pg X xs) N cm_m178 [.index 94, fl_t a1] H (fpI sQ H)) := by
  induction N using Nat.strongRecOn with
  | ind N IH =>
    have hdGoodsBookModel_onPage_94_4 : (∀ (H : fl_H) (a1 : Int) (a2 : Int) (a3 : Int), hd_GoodsBookModel_onPage_94_4 (cm_pg X xs) N H a1 a2 a3 (fpI sQ H)) := fun H a1 a2 a3 => vh_GoodsBookModel_onPage_94_4 (have p := fr_refl sQ H
      ⟨fun _ => ⟨⟨_, rfl⟩, p⟩, fun _ => (fun _ => (fun m hm => ck_mono ((fv_GoodsBookModel_pageOf m) _ _) (fun _ _ ⟨⟨x, hx⟩, w4⟩ => ⟨x, hx, ⟨fun _ => (fun m hm => (fun lv l0 l1 l2 l3 => vt_mono (Nat.le_refl _) (fun _ _ kk => ⟨kk.1, fr_trans (fr_trans p w4) kk.2⟩) ((IH m hm).1 _ _ _ _ lv l0 l1 l2 l3))), fun _ => (fun m hm => (fun lv l0 l1 l2 l3 => vt_mono (Nat.le_refl _) (fun _ _ kk => ⟨kk.1, fr_trans (fr_trans p w4) kk.2⟩) ((IH m hm).1 _ _ _ _ lv l0 l1 l2 l3)))⟩⟩)))⟩)
    have hdE : (∀ (H : fl_H) (a1 : Int), ck (cm_pg X xs) N cm_m178 [.index 94, fl_t a1] H (fpI sQ H)) := fun H a1 => ve_GoodsBookModel_onPage_94 (have p := fr_refl sQ H
      (fun lv l0 l1 l2 l3 => vt_mono (Nat.le_refl _) (fun _ _ kk => ⟨kk.1, fr_trans p kk.2⟩) (hdGoodsBookModel_onPage_94_4 _ _ _ _ lv l0 l1 l2 l3)))
    exact ⟨hdGoodsBookModel_onPage_94_4, hdE⟩

theorem fv_GoodsBookModel_lacksRow_94 {X : Term} {xs : List Int32} (N : Nat) : (∀ (H : fl_H) (a1 : Int) (a2 : Int) (a3 : Int) (a4 : Int), ck (cm_pg X xs) N cm_m238 [.index 94, fl_t a1, fl_t a2, fl_t a3, fl_t a4] H (fpI sQ H)) := by
  induction N using Nat.strongRecOn with
  | ind N IH =>
    have hdE : (∀ (H : fl_H) (a1 : Int) (a2 : Int) (a3 : Int) (a4 : Int), ck (cm_pg X xs) N cm_m238 [.index 94, fl_t a1, fl_t a2, fl_t a3, fl_t a4] H (fpI sQ H)) := fun H a1 a2 a3 a4 => ve_GoodsBookModel_lacksRow_94 (have p := fr_refl sQ H
      (fun _ => ⟨fun _ => (fun _ => ⟨fun _ => ⟨⟨_, rfl⟩, p⟩, fun _ => ⟨⟨_, rfl⟩, p⟩⟩), fun _ => (fun _ => ⟨fun _ => ⟨⟨_, rfl⟩, p⟩, fun _ => ⟨⟨_, rfl⟩, p⟩⟩)⟩))
    exact hdE

theorem fv_GoodsBookModel_wideOf_94 {X : Term} {xs : List Int32} (N : Nat) : (∀ (H : fl_H) (a1 : Int) (a2 : Int), ck (cm_pg X xs) N cm_m152 [.index 94, fl_t a1, fl_t a2] H (fpI sQ H)) := by
  induction N using Nat.strongRecOn with
  | ind N IH =>
    have hdE : (∀ (H : fl_H) (a1 : Int) (a2 : Int), ck (cm_pg X xs) N cm_m152 [.index 94, fl_t a1, fl_t a2] H (fpI sQ H)) := fun H a1 a2 => ve_GoodsBookModel_wideOf_94 (have p := fr_refl sQ H
      (fun _ => ⟨⟨_, rfl⟩, p⟩))
    exact hdE

theorem fv_GoodsBookModel_highOf_94 {X : Term} {xs : List Int32} (N : Nat) : (∀ (H : fl_H) (a1 : Int) (a2 : Int), ck (cm_pg X xs) N cm_m153 [.index 94, fl_t a1, fl_t a2] H (fpI sQ H)) := by
  induction N using Nat.strongRecOn with
  | ind N IH =>
    have hdE : (∀ (H : fl_H) (a1 : Int) (a2 : Int), ck (cm_pg X xs) N cm_m153 [.index 94, fl_t a1, fl_t a2] H (fpI sQ H)) := fun H a1 a2 => ve_GoodsBookModel_highOf_94 (have p := fr_refl sQ H
      (fun _ => ⟨⟨_, rfl⟩, p⟩))
    exact hdE

theorem fv_GoodsBookModel_bitsAt_94 {X : Term} {xs : List Int32} (N : Nat) : (∀ (H : fl_H) (a4 : Int) (a5 : Int) (a6 : Int) (a7 : Int) (a8 : Int) (a9 : Int) (a10 : Int), hd_GoodsBookModel_bitsAt_94_62 (cm_pg X xs) N H a4 a5 a6 a7 a8 a9 a10 (fpI sQ H)) ∧ (∀ (H : fl_H) (a4 : Int) (a5 : Int) (a6 : Int) (a7 : Int) (a8 : Int) (a9 : Int), hd_GoodsBookModel_bitsAt_94_52 (cm_pg X xs) N H a4 a5 a6 a7 a8 a9 (fpI sQ H)) ∧ (∀ (H : fl_H) (a1 : Int) (a2 : Int) (a3 : Int), ck (cm_pg X xs) N cm_m170 [.index 94, fl_t a1, fl_t a2, fl_t a3] H (fpI sQ H)) := by
  induction N using Nat.strongRecOn with
  | ind N IH =>
    have hdGoodsBookModel_bitsAt_94_62 : (∀ (H : fl_H) (a4 : Int) (a5 : Int) (a6 : Int) (a7 : Int) (a8 : Int) (a9 : Int) (a10 : Int), hd_GoodsBookModel_bitsAt_94_62 (cm_pg X xs) N H a4 a5 a6 a7 a8 a9 a10 (fpI sQ H)) := fun H a4 a5 a6 a7 a8 a9 a10 => vh_GoodsBookModel_bitsAt_94_62 (have p := fr_refl sQ H
      ⟨fun _ => (fun m hm => (fun lv l0 l1 l2 l3 l4 l5 => vt_mono (Nat.le_refl _) (fun _ _ kk => ⟨kk.1, fr_trans p kk.2⟩) ((IH m hm).2.1 _ _ _ _ _ _ _ lv l0 l1 l2 l3 l4 l5))), fun _ => (fun m hm => (fun lv l0 l1 l2 l3 l4 l5 l6 => vt_mono (Nat.le_refl _) (fun _ _ kk => ⟨kk.1, fr_trans p kk.2⟩) ((IH m hm).1 _ _ _ _ _ _ _ _ lv l0 l1 l2 l3 l4 l5 l6)))⟩)
    have hdGoodsBookModel_bitsAt_94_52 : (∀ (H : fl_H) (a4 : Int) (a5 : Int) (a6 : Int) (a7 : Int) (a8 : Int) (a9 : Int), hd_GoodsBookModel_bitsAt_94_52 (cm_pg X xs) N H a4 a5 a6 a7 a8 a9 (fpI sQ H)) := fun H a4 a5 a6 a7 a8 a9 => vh_GoodsBookModel_bitsAt_94_52 (have p := fr_refl sQ H
      ⟨fun _ => ⟨⟨_, rfl⟩, p⟩, fun _ => (fun lv l0 l1 l2 l3 l4 l5 l6 => vt_mono (Nat.le_refl _) (fun _ _ kk => ⟨kk.1, fr_trans p kk.2⟩) (hdGoodsBookModel_bitsAt_94_62 _ _ _ _ _ _ _ _ lv l0 l1 l2 l3 l4 l5 l6))⟩)
    have hdE : (∀ (H : fl_H) (a1 : Int) (a2 : Int) (a3 : Int), ck (cm_pg X xs) N cm_m170 [.index 94, fl_t a1, fl_t a2, fl_t a3] H (fpI sQ H)) := fun H a1 a2 a3 => ve_GoodsBookModel_bitsAt_94 (have p := fr_refl sQ H
      (fun m hm => ck_mono ((fv_GoodsBookModel_wideOf_94 m) _ _ _) (fun _ _ ⟨⟨x, hx⟩, w2⟩ => ⟨x, hx, (fun m hm => ck_mono ((fv_GoodsBookModel_highOf_94 m) _ _ _) (fun _ _ ⟨⟨x, hx⟩, w5⟩ => ⟨x, hx, ⟨fun _ => ⟨⟨_, rfl⟩, (fr_trans (fr_trans p w2) w5)⟩, fun _ => ⟨fun _ => (fun lv l0 l1 l2 l3 l4 l5 => vt_mono (Nat.le_refl _) (fun _ _ kk => ⟨kk.1, fr_trans (fr_trans (fr_trans p w2) w5) kk.2⟩) (hdGoodsBookModel_bitsAt_94_52 _ _ _ _ _ _ _ lv l0 l1 l2 l3 l4 l5)), fun _ => ⟨⟨_, rfl⟩, (fr_trans (fr_trans p w2) w5)⟩⟩⟩⟩))⟩)))
    exact ⟨hdGoodsBookModel_bitsAt_94_62, hdGoodsBookModel_bitsAt_94_52, hdE⟩

theorem fv_GoodsBookModel_judge_94 {X : Term} {xs : List Int32} (N : Nat) : (∀ (H : fl_H) (a1 : Int) (a6 : Int) (a7 : Int) (a8 : Int), hd_GoodsBookModel_judge_94_60 (cm_pg X xs) N H a1 a6 a7 a8 (fpI sQ H)) ∧ (∀ (H : fl_H) (a1 : Int) (a2 : Int) (a3 : Int) (a4 : Int), ck (cm_pg X xs) N cm_m241 [.index 94, fl_t a1, fl_t a2, fl_t a3, fl_t a4] H (fpI sQ H)) := by
  induction N using Nat.strongRecOn with
  | ind N IH =>
    have hdGoodsBookModel_judge_94_60 : (∀ (H : fl_H) (a1 : Int) (a6 : Int) (a7 : Int) (a8 : Int), hd_GoodsBookModel_judge_94_60 (cm_pg X xs) N H a1 a6 a7 a8 (fpI sQ H)) := fun H a1 a6 a7 a8 => vh_GoodsBookModel_judge_94_60 (have p := fr_refl sQ H
      ⟨fun _ => ⟨⟨_, rfl⟩, p⟩, fun _ => (fun _ => (fun m hm => ck_mono ((fv_GoodsBookModel_pageOf m) _ _) (fun _ _ ⟨⟨x, hx⟩, w4⟩ => ⟨x, hx, ⟨fun _ => (fun _ => ⟨fun _ => (fun _ => (fun _ => (fun m hm => ck_mono ((fv_GoodsBookModel_bitsAt_94 m).2.2 _ _ _ _) (fun _ _ ⟨⟨x, hx⟩, w12⟩ => ⟨x, hx, ⟨fun _ => ⟨⟨_, rfl⟩, (fr_trans (fr_trans p w4) w12)⟩, fun _ => ⟨fun _ => (fun m hm => (fun lv l0 l1 l2 l3 l4 => vt_mono (Nat.le_refl _) (fun _ _ kk => ⟨kk.1, fr_trans (fr_trans (fr_trans p w4) w12) kk.2⟩) ((IH m hm).1 _ _ _ _ _ lv l0 l1 l2 l3 l4))), fun _ => ⟨⟨_, rfl⟩, (fr_trans (fr_trans p w4) w12)⟩⟩⟩⟩)))), fun _ => ⟨⟨_, rfl⟩, (fr_trans p w4)⟩⟩), fun _ => (fun m hm => (fun lv l0 l1 l2 l3 l4 => vt_mono (Nat.le_refl _) (fun _ _ kk => ⟨kk.1, fr_trans (fr_trans p w4) kk.2⟩) ((IH m hm).1 _ _ _ _ _ lv l0 l1 l2 l3 l4)))⟩⟩)))⟩)
    have hdE : (∀ (H : fl_H) (a1 : Int) (a2 : Int) (a3 : Int) (a4 : Int), ck (cm_pg X xs) N cm_m241 [.index 94, fl_t a1, fl_t a2, fl_t a3, fl_t a4] H (fpI sQ H)) := fun H a1 a2 a3 a4 => ve_GoodsBookModel_judge_94 (have p := fr_refl sQ H
      (fun m hm => ck_mono ((fv_GoodsBookModel_isPage_94 m) _ _) (fun _ _ ⟨⟨x, hx⟩, w2⟩ => ⟨x, hx, ⟨fun _ => ⟨⟨_, rfl⟩, (fr_trans p w2)⟩, fun _ => (fun m hm => ck_mono ((fv_GoodsBookModel_isSheet m) _ _ _) (fun _ _ ⟨⟨x, hx⟩, w6⟩ => ⟨x, hx, ⟨fun _ => ⟨⟨_, rfl⟩, (fr_trans (fr_trans p w2) w6)⟩, fun _ => (fun m hm => ck_mono ((fv_GoodsBookModel_takePlan_94 m).2 _) (fun _ _ ⟨hx, w10⟩ => ⟨hx, (fun m hm => ck_mono ((fv_GoodsBookModel_onPage_94 m).2 _ _) (fun _ _ ⟨⟨x, hx⟩, w12⟩ => ⟨x, hx, (fun m hm => ck_mono ((fv_GoodsBookModel_lacksRow_94 m) _ _ _ _ _) (fun _ _ ⟨⟨x, hx⟩, w15⟩ => ⟨x, hx, ⟨fun _ => (fun lv l0 l1 l2 l3 l4 => vt_mono (Nat.le_refl _) (fun _ _ kk => ⟨kk.1, fr_trans (fr_trans (fr_trans (fr_trans (fr_trans (fr_trans p w2) w6) w10) w12) w15) kk.2⟩) (hdGoodsBookModel_judge_94_60 _ _ _ _ _ lv l0 l1 l2 l3 l4)), fun _ => ⟨⟨_, rfl⟩, (fr_trans (fr_trans (fr_trans (fr_trans (fr_trans p w2) w6) w10) w12) w15)⟩⟩⟩))⟩))⟩))⟩⟩))⟩⟩)))
    exact ⟨hdGoodsBookModel_judge_94_60, hdE⟩

theorem fv_GoodsBookModel_saleOf_94 {X : Term} {xs : List Int32} (N : Nat) : (∀ (H : fl_H) (a1 : Int) (a2 : Int), ck (cm_pg X xs) N cm_m154 [.index 94, fl_t a1, fl_t a2] H (fpI sQ H)) := by
  induction N using Nat.strongRecOn with
  | ind N IH =>
    have hdE : (∀ (H : fl_H) (a1 : Int) (a2 : Int), ck (cm_pg X xs) N cm_m154 [.index 94, fl_t a1, fl_t a2] H (fpI sQ H)) := fun H a1 a2 => ve_GoodsBookModel_saleOf_94 (have p := fr_refl sQ H
      (fun _ => ⟨⟨_, rfl⟩, p⟩))
    exact hdE

theorem fv_GoodsBookModel_areaOf_94 {X : Term} {xs : List Int32} (N : Nat) : (∀ (H : fl_H) (a1 : Int) (a2 : Int), ck (cm_pg X xs) N cm_m155 [.index 94, fl_t a1, fl_t a2] H (fpI sQ H)) := by
  induction N using Nat.strongRecOn with
  | ind N IH =>
    have hdE : (∀ (H : fl_H) (a1 : Int) (a2 : Int), ck (cm_pg X xs) N cm_m155 [.index 94, fl_t a1, fl_t a2] H (fpI sQ H)) := fun H a1 a2 => ve_GoodsBookModel_areaOf_94 (have p := fr_refl sQ H
      (fun m hm => ck_mono ((fv_GoodsBookModel_wideOf_94 m) _ _ _) (fun _ _ ⟨⟨x, hx⟩, w2⟩ => ⟨x, hx, (fun m hm => ck_mono ((fv_GoodsBookModel_highOf_94 m) _ _ _) (fun _ _ ⟨⟨x, hx⟩, w5⟩ => ⟨x, hx, ⟨⟨_, rfl⟩, (fr_trans (fr_trans p w2) w5)⟩⟩))⟩)))
    exact hdE

theorem fv_GoodsBookModel_alone_94 {X : Term} {xs : List Int32} (N : Nat) : (∀ (H : fl_H) (a1 : Int) (a2 : Int) (a3 : Int) (a4 : Int) (a5 : Int) (a6 : Int), hd_GoodsBookModel_alone_94_9 (cm_pg X xs) N H a1 a2 a3 a4 a5 a6 (fpI sQ H)) ∧ (∀ (H : fl_H) (a1 : Int) (a2 : Int) (a3 : Int), ck (cm_pg X xs) N cm_m199 [.index 94, fl_t a1, fl_t a2, fl_t a3] H (fpI sQ H)) := by
  induction N using Nat.strongRecOn with
  | ind N IH =>
    have hdGoodsBookModel_alone_94_9 : (∀ (H : fl_H) (a1 : Int) (a2 : Int) (a3 : Int) (a4 : Int) (a5 : Int) (a6 : Int), hd_GoodsBookModel_alone_94_9 (cm_pg X xs) N H a1 a2 a3 a4 a5 a6 (fpI sQ H)) := fun H a1 a2 a3 a4 a5 a6 => vh_GoodsBookModel_alone_94_9 (have p := fr_refl sQ H
      ⟨fun _ => ⟨⟨_, rfl⟩, p⟩, fun _ => (fun m hm => ck_mono ((fv_GoodsBookModel_saleOf_94 m) _ _ _) (fun _ _ ⟨⟨x, hx⟩, w3⟩ => ⟨x, hx, (fun m hm => ck_mono ((fv_GoodsBookModel_areaOf_94 m) _ _ _) (fun _ _ ⟨⟨x, hx⟩, w6⟩ => ⟨x, hx, ⟨fun _ => ⟨fun _ => (fun m hm => (fun lv l0 l1 l2 l3 l4 l5 l6 => vt_mono (Nat.le_refl _) (fun _ _ kk => ⟨kk.1, fr_trans (fr_trans (fr_trans p w3) w6) kk.2⟩) ((IH m hm).1 _ _ _ _ _ _ _ lv l0 l1 l2 l3 l4 l5 l6))), fun _ => (fun m hm => (fun lv l0 l1 l2 l3 l4 l5 l6 => vt_mono (Nat.le_refl _) (fun _ _ kk => ⟨kk.1, fr_trans (fr_trans (fr_trans p w3) w6) kk.2⟩) ((IH m hm).1 _ _ _ _ _ _ _ lv l0 l1 l2 l3 l4 l5 l6)))⟩, fun _ => ⟨fun _ => (fun m hm => ck_mono ((fv_GoodsBookModel_areaOf_94 m) _ _ _) (fun _ _ ⟨⟨x, hx⟩, w19⟩ => ⟨x, hx, (fun m hm => ck_mono ((fv_GoodsBookModel_areaOf_94 m) _ _ _) (fun _ _ ⟨⟨x, hx⟩, w22⟩ => ⟨x, hx, ⟨fun _ => ⟨fun _ => (fun m hm => (fun lv l0 l1 l2 l3 l4 l5 l6 => vt_mono (Nat.le_refl _) (fun _ _ kk => ⟨kk.1, fr_trans (fr_trans (fr_trans (fr_trans (fr_trans p w3) w6) w19) w22) kk.2⟩) ((IH m hm).1 _ _ _ _ _ _ _ lv l0 l1 l2 l3 l4 l5 l6))), fun _ => (fun m hm => (fun lv l0 l1 l2 l3 l4 l5 l6 => vt_mono (Nat.le_refl _) (fun _ _ kk => ⟨kk.1, fr_trans (fr_trans (fr_trans (fr_trans (fr_trans p w3) w6) w19) w22) kk.2⟩) ((IH m hm).1 _ _ _ _ _ _ _ lv l0 l1 l2 l3 l4 l5 l6)))⟩, fun _ => ⟨fun _ => (fun m hm => (fun lv l0 l1 l2 l3 l4 l5 l6 => vt_mono (Nat.le_refl _) (fun _ _ kk => ⟨kk.1, fr_trans (fr_trans (fr_trans (fr_trans (fr_trans p w3) w6) w19) w22) kk.2⟩) ((IH m hm).1 _ _ _ _ _ _ _ lv l0 l1 l2 l3 l4 l5 l6))), fun _ => (fun m hm => (fun lv l0 l1 l2 l3 l4 l5 l6 => vt_mono (Nat.le_refl _) (fun _ _ kk => ⟨kk.1, fr_trans (fr_trans (fr_trans (fr_trans (fr_trans p w3) w6) w19) w22) kk.2⟩) ((IH m hm).1 _ _ _ _ _ _ _ lv l0 l1 l2 l3 l4 l5 l6)))⟩⟩⟩))⟩)), fun _ => ⟨fun _ => (fun m hm => (fun lv l0 l1 l2 l3 l4 l5 l6 => vt_mono (Nat.le_refl _) (fun _ _ kk => ⟨kk.1, fr_trans (fr_trans (fr_trans p w3) w6) kk.2⟩) ((IH m hm).1 _ _ _ _ _ _ _ lv l0 l1 l2 l3 l4 l5 l6))), fun _ => (fun m hm => (fun lv l0 l1 l2 l3 l4 l5 l6 => vt_mono (Nat.le_refl _) (fun _ _ kk => ⟨kk.1, fr_trans (fr_trans (fr_trans p w3) w6) kk.2⟩) ((IH m hm).1 _ _ _ _ _ _ _ lv l0 l1 l2 l3 l4 l5 l6)))⟩⟩⟩⟩))⟩))⟩)
    have hdE : (∀ (H : fl_H) (a1 : Int) (a2 : Int) (a3 : Int), ck (cm_pg X xs) N cm_m199 [.index 94, fl_t a1, fl_t a2, fl_t a3] H (fpI sQ H)) := fun H a1 a2 a3 => ve_GoodsBookModel_alone_94 (have p := fr_refl sQ H
      (fun lv l0 l1 l2 l3 l4 l5 l6 => vt_mono (Nat.le_refl _) (fun _ _ kk => ⟨kk.1, fr_trans p kk.2⟩) (hdGoodsBookModel_alone_94_9 _ _ _ _ _ _ _ lv l0 l1 l2 l3 l4 l5 l6)))
    exact ⟨hdGoodsBookModel_alone_94_9, hdE⟩

theorem fv_GoodsBookModel_priceFor_94 {X : Term} {xs : List Int32} (N : Nat) : (∀ (H : fl_H) (a1 : Int) (a2 : Int) (a4 : Int) (a5 : Int), hd_GoodsBookModel_priceFor_94_14 (cm_pg X xs) N H a1 a2 a4 a5 (fpI sQ H)) ∧ (∀ (H : fl_H) (a1 : Int) (a2 : Int) (a3 : Int), hd_GoodsBookModel_priceFor_94_4 (cm_pg X xs) N H a1 a2 a3 (fpI sQ H)) ∧ (∀ (H : fl_H) (a1 : Int), ck (cm_pg X xs) N cm_m200 [.index 94, fl_t a1] H (fpI sQ H)) := by
  induction N using Nat.strongRecOn with
  | ind N IH =>
    have hdGoodsBookModel_priceFor_94_14 : (∀ (H : fl_H) (a1 : Int) (a2 : Int) (a4 : Int) (a5 : Int), hd_GoodsBookModel_priceFor_94_14 (cm_pg X xs) N H a1 a2 a4 a5 (fpI sQ H)) := fun H a1 a2 a4 a5 => vh_GoodsBookModel_priceFor_94_14 (have p := fr_refl sQ H
      ⟨fun _ => ⟨fun _ => (fun m hm => (fun lv l0 l1 l2 l3 => vt_mono (Nat.le_refl _) (fun _ _ kk => ⟨kk.1, fr_trans p kk.2⟩) ((IH m hm).2.1 _ _ _ _ lv l0 l1 l2 l3))), fun _ => (fun m hm => (fun lv l0 l1 l2 l3 => vt_mono (Nat.le_refl _) (fun _ _ kk => ⟨kk.1, fr_trans p kk.2⟩) ((IH m hm).2.1 _ _ _ _ lv l0 l1 l2 l3)))⟩, fun _ => (fun m hm => ck_mono ((fv_GoodsBookModel_alone_94 m).2 _ _ _ _) (fun _ _ ⟨⟨x, hx⟩, w10⟩ => ⟨x, hx, ⟨fun _ => (fun m hm => (fun lv l0 l1 l2 l3 l4 => vt_mono (Nat.le_refl _) (fun _ _ kk => ⟨kk.1, fr_trans (fr_trans p w10) kk.2⟩) ((IH m hm).1 _ _ _ _ _ lv l0 l1 l2 l3 l4))), fun _ => (fun m hm => ck_mono ((fv_GoodsBookModel_areaOf_94 m) _ _ _) (fun _ _ ⟨⟨x, hx⟩, w17⟩ => ⟨x, hx, (fun m hm => (fun lv l0 l1 l2 l3 l4 => vt_mono (Nat.le_refl _) (fun _ _ kk => ⟨kk.1, fr_trans (fr_trans (fr_trans p w10) w17) kk.2⟩) ((IH m hm).1 _ _ _ _ _ lv l0 l1 l2 l3 l4)))⟩))⟩⟩))⟩)
    have hdGoodsBookModel_priceFor_94_4 : (∀ (H : fl_H) (a1 : Int) (a2 : Int) (a3 : Int), hd_GoodsBookModel_priceFor_94_4 (cm_pg X xs) N H a1 a2 a3 (fpI sQ H)) := fun H a1 a2 a3 => vh_GoodsBookModel_priceFor_94_4 (have p := fr_refl sQ H
      ⟨fun _ => ⟨⟨_, rfl⟩, p⟩, fun _ => (fun lv l0 l1 l2 l3 l4 => vt_mono (Nat.le_refl _) (fun _ _ kk => ⟨kk.1, fr_trans p kk.2⟩) (hdGoodsBookModel_priceFor_94_14 _ _ _ _ _ lv l0 l1 l2 l3 l4))⟩)
    have hdE : (∀ (H : fl_H) (a1 : Int), ck (cm_pg X xs) N cm_m200 [.index 94, fl_t a1] H (fpI sQ H)) := fun H a1 => ve_GoodsBookModel_priceFor_94 (have p := fr_refl sQ H
      (fun lv l0 l1 l2 l3 => vt_mono (Nat.le_refl _) (fun _ _ kk => ⟨kk.1, fr_trans p kk.2⟩) (hdGoodsBookModel_priceFor_94_4 _ _ _ _ lv l0 l1 l2 l3)))
    exact ⟨hdGoodsBookModel_priceFor_94_14, hdGoodsBookModel_priceFor_94_4, hdE⟩

theorem fv_GoodsBookModel_codes_94 {X : Term} {xs : List Int32} (N : Nat) : (∀ (H : fl_H) (a1 : Int) (a2 : Int), hd_GoodsBookModel_codes_94_4 (cm_pg X xs) N H a1 a2 (fpI sQ H)) ∧ (∀ (H : fl_H), ck (cm_pg X xs) N cm_m174 [.index 94] H (fpI sQ H)) := by
  induction N using Nat.strongRecOn with
  | ind N IH =>
    have hdGoodsBookModel_codes_94_4 : (∀ (H : fl_H) (a1 : Int) (a2 : Int), hd_GoodsBookModel_codes_94_4 (cm_pg X xs) N H a1 a2 (fpI sQ H)) := fun H a1 a2 => vh_GoodsBookModel_codes_94_4 (have p := fr_refl sQ H
      ⟨fun _ => ⟨⟨_, rfl⟩, p⟩, fun _ => (fun m hm => (fun lv l0 l1 l2 => vt_mono (Nat.le_refl _) (fun _ _ kk => ⟨kk.1, fr_trans p kk.2⟩) ((IH m hm).1 _ _ _ lv l0 l1 l2)))⟩)
    have hdE : (∀ (H : fl_H), ck (cm_pg X xs) N cm_m174 [.index 94] H (fpI sQ H)) := fun H => ve_GoodsBookModel_codes_94 (have p := fr_refl sQ H
      (fun lv l0 l1 l2 => vt_mono (Nat.le_refl _) (fun _ _ kk => ⟨kk.1, fr_trans p kk.2⟩) (hdGoodsBookModel_codes_94_4 _ _ _ lv l0 l1 l2)))
    exact ⟨hdGoodsBookModel_codes_94_4, hdE⟩

theorem fv_GoodsBookModel_digitOf {X : Term} {xs : List Int32} (N : Nat) : (∀ (H : fl_H) (a1 : Int) (a2 : Int) (a3 : Int), hd_GoodsBookModel_digitOf_4 (cm_pg X xs) N H a1 a2 a3 (fpI sQ H)) ∧ (∀ (H : fl_H) (a0 : Int) (a1 : Int), ck (cm_pg X xs) N cm_m169 [fl_t a0, fl_t a1] H (fpI sQ H)) := by
  induction N using Nat.strongRecOn with
  | ind N IH =>
    have hdGoodsBookModel_digitOf_4 : (∀ (H : fl_H) (a1 : Int) (a2 : Int) (a3 : Int), hd_GoodsBookModel_digitOf_4 (cm_pg X xs) N H a1 a2 a3 (fpI sQ H)) := fun H a1 a2 a3 => vh_GoodsBookModel_digitOf_4 (have p := fr_refl sQ H
      ⟨fun _ => ⟨⟨_, rfl⟩, p⟩, fun _ => (fun m hm => (fun lv l0 l1 l2 => vt_mono (Nat.le_refl _) (fun _ _ kk => ⟨kk.1, fr_trans p kk.2⟩) ((IH m hm).1 _ _ _ _ lv l0 l1 l2)))⟩)
    have hdE : (∀ (H : fl_H) (a0 : Int) (a1 : Int), ck (cm_pg X xs) N cm_m169 [fl_t a0, fl_t a1] H (fpI sQ H)) := fun H a0 a1 => ve_GoodsBookModel_digitOf (have p := fr_refl sQ H
      (fun lv l0 l1 l2 => vt_mono (Nat.le_refl _) (fun _ _ kk => ⟨kk.1, fr_trans p kk.2⟩) (hdGoodsBookModel_digitOf_4 _ _ _ _ lv l0 l1 l2)))
    exact ⟨hdGoodsBookModel_digitOf_4, hdE⟩

theorem fv_GoodsBookModel_turned_94 {X : Term} {xs : List Int32} (N : Nat) : (∀ (H : fl_H) (a2 : Int) (a3 : Int) (a4 : Int), hd_GoodsBookModel_turned_94_7 (cm_pg X xs) N H a2 a3 a4 (fpI sQ H)) ∧ (∀ (H : fl_H) (a1 : Int), ck (cm_pg X xs) N cm_m201 [.index 94, fl_t a1] H (fpI sQ H)) := by
  induction N using Nat.strongRecOn with
  | ind N IH =>
    have hdGoodsBookModel_turned_94_7 : (∀ (H : fl_H) (a2 : Int) (a3 : Int) (a4 : Int), hd_GoodsBookModel_turned_94_7 (cm_pg X xs) N H a2 a3 a4 (fpI sQ H)) := fun H a2 a3 a4 => vh_GoodsBookModel_turned_94_7 (have p := fr_refl sQ H
      ⟨fun _ => ⟨⟨_, rfl⟩, p⟩, fun _ => (fun m hm => (fun lv l0 l1 l2 l3 => vt_mono (Nat.le_refl _) (fun _ _ kk => ⟨kk.1, fr_trans p kk.2⟩) ((IH m hm).1 _ _ _ _ lv l0 l1 l2 l3)))⟩)
    have hdE : (∀ (H : fl_H) (a1 : Int), ck (cm_pg X xs) N cm_m201 [.index 94, fl_t a1] H (fpI sQ H)) := fun H a1 => ve_GoodsBookModel_turned_94 (have p := fr_refl sQ H
      (fun lv l0 l1 l2 l3 => vt_mono (Nat.le_refl _) (fun _ _ kk => ⟨kk.1, fr_trans p kk.2⟩) (hdGoodsBookModel_turned_94_7 _ _ _ _ lv l0 l1 l2 l3)))
    exact ⟨hdGoodsBookModel_turned_94_7, hdE⟩

theorem fv_GoodsBookModel_areaOfCode_94 {X : Term} {xs : List Int32} (N : Nat) : (∀ (H : fl_H) (a1 : Int) (a2 : Int) (a3 : Int), hd_GoodsBookModel_areaOfCode_94_4 (cm_pg X xs) N H a1 a2 a3 (fpI sQ H)) ∧ (∀ (H : fl_H) (a1 : Int), ck (cm_pg X xs) N cm_m172 [.index 94, fl_t a1] H (fpI sQ H)) := by
  induction N using Nat.strongRecOn with
  | ind N IH =>
    have hdGoodsBookModel_areaOfCode_94_4 : (∀ (H : fl_H) (a1 : Int) (a2 : Int) (a3 : Int), hd_GoodsBookModel_areaOfCode_94_4 (cm_pg X xs) N H a1 a2 a3 (fpI sQ H)) := fun H a1 a2 a3 => vh_GoodsBookModel_areaOfCode_94_4 (have p := fr_refl sQ H
      ⟨fun _ => ⟨⟨_, rfl⟩, p⟩, fun _ => (fun m hm => ck_mono ((fv_GoodsBookModel_digitOf m).2 _ _ _) (fun _ _ ⟨⟨x, hx⟩, w3⟩ => ⟨x, hx, ⟨fun _ => (fun m hm => (fun lv l0 l1 l2 l3 => vt_mono (Nat.le_refl _) (fun _ _ kk => ⟨kk.1, fr_trans (fr_trans p w3) kk.2⟩) ((IH m hm).1 _ _ _ _ lv l0 l1 l2 l3))), fun _ => (fun m hm => ck_mono ((fv_GoodsBookModel_areaOf_94 m) _ _ _) (fun _ _ ⟨⟨x, hx⟩, w10⟩ => ⟨x, hx, (fun m hm => (fun lv l0 l1 l2 l3 => vt_mono (Nat.le_refl _) (fun _ _ kk => ⟨kk.1, fr_trans (fr_trans (fr_trans p w3) w10) kk.2⟩) ((IH m hm).1 _ _ _ _ lv l0 l1 l2 l3)))⟩))⟩⟩))⟩)
    have hdE : (∀ (H : fl_H) (a1 : Int), ck (cm_pg X xs) N cm_m172 [.index 94, fl_t a1] H (fpI sQ H)) := fun H a1 => ve_GoodsBookModel_areaOfCode_94 (have p := fr_refl sQ H
      (fun lv l0 l1 l2 l3 => vt_mono (Nat.le_refl _) (fun _ _ kk => ⟨kk.1, fr_trans p kk.2⟩) (hdGoodsBookModel_areaOfCode_94_4 _ _ _ _ lv l0 l1 l2 l3)))
    exact ⟨hdGoodsBookModel_areaOfCode_94_4, hdE⟩

theorem fv_GoodsBookModel_squares_94 {X : Term} {xs : List Int32} (N : Nat) : (∀ (H : fl_H) (a2 : Int) (a3 : Int) (a4 : Int) (a5 : Int) (a6 : Int) (a7 : Int) (a8 : Int) (a9 : Int) (a10 : Int), hd_GoodsBookModel_squares_94_99 (cm_pg X xs) N H a2 a3 a4 a5 a6 a7 a8 a9 a10 (fpI sQ H)) ∧ (∀ (H : fl_H) (a2 : Int) (a3 : Int) (a4 : Int) (a5 : Int) (a6 : Int) (a7 : Int), hd_GoodsBookModel_squares_94_67 (cm_pg X xs) N H a2 a3 a4 a5 a6 a7 (fpI sQ H)) ∧ (∀ (H : fl_H) (a1 : Int) (a2 : Int), ck (cm_pg X xs) N cm_m202 [.index 94, fl_t a1, fl_t a2] H (fpI sQ H)) := by
  induction N using Nat.strongRecOn with
  | ind N IH =>
    have hdGoodsBookModel_squares_94_99 : (∀ (H : fl_H) (a2 : Int) (a3 : Int) (a4 : Int) (a5 : Int) (a6 : Int) (a7 : Int) (a8 : Int) (a9 : Int) (a10 : Int), hd_GoodsBookModel_squares_94_99 (cm_pg X xs) N H a2 a3 a4 a5 a6 a7 a8 a9 a10 (fpI sQ H)) := fun H a2 a3 a4 a5 a6 a7 a8 a9 a10 => vh_GoodsBookModel_squares_94_99 (have p := fr_refl sQ H
      ⟨fun _ => ⟨fun _ => ⟨fun _ => (fun m hm => (fun lv l0 l1 l2 l3 l4 l5 l6 => vt_mono (Nat.le_refl _) (fun _ _ kk => ⟨kk.1, fr_trans p kk.2⟩) ((IH m hm).2.1 _ _ _ _ _ _ _ lv l0 l1 l2 l3 l4 l5 l6))), fun _ => (fun m hm => (fun lv l0 l1 l2 l3 l4 l5 l6 => vt_mono (Nat.le_refl _) (fun _ _ kk => ⟨kk.1, fr_trans p kk.2⟩) ((IH m hm).2.1 _ _ _ _ _ _ _ lv l0 l1 l2 l3 l4 l5 l6)))⟩, fun _ => ⟨fun _ => (fun m hm => (fun lv l0 l1 l2 l3 l4 l5 l6 => vt_mono (Nat.le_refl _) (fun _ _ kk => ⟨kk.1, fr_trans p kk.2⟩) ((IH m hm).2.1 _ _ _ _ _ _ _ lv l0 l1 l2 l3 l4 l5 l6))), fun _ => (fun m hm => (fun lv l0 l1 l2 l3 l4 l5 l6 => vt_mono (Nat.le_refl _) (fun _ _ kk => ⟨kk.1, fr_trans p kk.2⟩) ((IH m hm).2.1 _ _ _ _ _ _ _ lv l0 l1 l2 l3 l4 l5 l6)))⟩⟩, fun _ => (fun m hm => ck_mono ((fv_GoodsBookModel_digitOf m).2 _ _ _) (fun _ _ ⟨⟨x, hx⟩, w16⟩ => ⟨x, hx, ⟨fun _ => (fun m hm => (fun lv l0 l1 l2 l3 l4 l5 l6 l7 l8 l9 => vt_mono (Nat.le_refl _) (fun _ _ kk => ⟨kk.1, fr_trans (fr_trans p w16) kk.2⟩) ((IH m hm).1 _ _ _ _ _ _ _ _ _ _ lv l0 l1 l2 l3 l4 l5 l6 l7 l8 l9))), fun _ => (fun m hm => ck_mono ((fv_GoodsBookModel_saleOf_94 m) _ _ _) (fun _ _ ⟨⟨x, hx⟩, w23⟩ => ⟨x, hx, (fun m hm => (fun lv l0 l1 l2 l3 l4 l5 l6 l7 l8 l9 => vt_mono (Nat.le_refl _) (fun _ _ kk => ⟨kk.1, fr_trans (fr_trans (fr_trans p w16) w23) kk.2⟩) ((IH m hm).1 _ _ _ _ _ _ _ _ _ _ lv l0 l1 l2 l3 l4 l5 l6 l7 l8 l9)))⟩))⟩⟩))⟩)
    have hdGoodsBookModel_squares_94_67 : (∀ (H : fl_H) (a2 : Int) (a3 : Int) (a4 : Int) (a5 : Int) (a6 : Int) (a7 : Int), hd_GoodsBookModel_squares_94_67 (cm_pg X xs) N H a2 a3 a4 a5 a6 a7 (fpI sQ H)) := fun H a2 a3 a4 a5 a6 a7 => vh_GoodsBookModel_squares_94_67 (have p := fr_refl sQ H
      ⟨fun _ => ⟨fun _ => (fun m hm => ck_mono ((fv_GoodsBookModel_digitOf m).2 _ _ _) (fun _ _ ⟨⟨x, hx⟩, w4⟩ => ⟨x, hx, ⟨⟨_, rfl⟩, (fr_trans p w4)⟩⟩)), fun _ => ⟨⟨_, rfl⟩, p⟩⟩, fun _ => (fun m hm => ck_mono ((fv_GoodsBookModel_turned_94 m).2 _ _) (fun _ _ ⟨⟨x, hx⟩, w7⟩ => ⟨x, hx, (fun m hm => ck_mono ((fv_GoodsBookModel_areaOfCode_94 m).2 _ _) (fun _ _ ⟨⟨x, hx⟩, w11⟩ => ⟨x, hx, ⟨fun _ => (fun m hm => (fun lv l0 l1 l2 l3 l4 l5 l6 => vt_mono (Nat.le_refl _) (fun _ _ kk => ⟨kk.1, fr_trans (fr_trans (fr_trans p w7) w11) kk.2⟩) ((IH m hm).2.1 _ _ _ _ _ _ _ lv l0 l1 l2 l3 l4 l5 l6))), fun _ => (fun lv l0 l1 l2 l3 l4 l5 l6 l7 l8 l9 => vt_mono (Nat.le_refl _) (fun _ _ kk => ⟨kk.1, fr_trans (fr_trans (fr_trans p w7) w11) kk.2⟩) (hdGoodsBookModel_squares_94_99 _ _ _ _ _ _ _ _ _ _ lv l0 l1 l2 l3 l4 l5 l6 l7 l8 l9))⟩⟩))⟩))⟩)
    have hdE : (∀ (H : fl_H) (a1 : Int) (a2 : Int), ck (cm_pg X xs) N cm_m202 [.index 94, fl_t a1, fl_t a2] H (fpI sQ H)) := fun H a1 a2 => ve_GoodsBookModel_squares_94 (have p := fr_refl sQ H
      (fun m hm => ck_mono ((fv_GoodsBookModel_isPage_94 m) _ _) (fun _ _ ⟨⟨x, hx⟩, w2⟩ => ⟨x, hx, ⟨fun _ => ⟨⟨_, rfl⟩, (fr_trans p w2)⟩, fun _ => ⟨fun _ => (fun _ => ⟨fun _ => (fun m hm => ck_mono ((fv_GoodsBookModel_priceFor_94 m).2.2 _ _) (fun _ _ ⟨⟨x, hx⟩, w9⟩ => ⟨x, hx, ⟨⟨_, rfl⟩, (fr_trans (fr_trans p w2) w9)⟩⟩)), fun _ => (fun m hm => ck_mono ((fv_GoodsBookModel_codes_94 m).2 _) (fun _ _ ⟨⟨x, hx⟩, w12⟩ => ⟨x, hx, (fun lv l0 l1 l2 l3 l4 l5 l6 => vt_mono (Nat.le_refl _) (fun _ _ kk => ⟨kk.1, fr_trans (fr_trans (fr_trans p w2) w12) kk.2⟩) (hdGoodsBookModel_squares_94_67 _ _ _ _ _ _ _ lv l0 l1 l2 l3 l4 l5 l6))⟩))⟩), fun _ => ⟨⟨_, rfl⟩, (fr_trans p w2)⟩⟩⟩⟩)))
    exact ⟨hdGoodsBookModel_squares_94_99, hdGoodsBookModel_squares_94_67, hdE⟩

theorem fv_GoodsBookModel_bound_94 {X : Term} {xs : List Int32} (N : Nat) : (∀ (H : fl_H) (a1 : Int) (a2 : Int), hd_GoodsBookModel_bound_94_155 (cm_pg X xs) N H a1 a2 (fpI sQ H)) ∧ (∀ (H : fl_H) (a1 : Int) (a2 : Int) (a3 : Int) (a4 : Int) (a5 : Int), hd_GoodsBookModel_bound_94_33 (cm_pg X xs) N H a1 a2 a3 a4 a5 (fpI sQ H)) ∧ (∀ (H : fl_H) (a1 : Int) (a2 : Int), hd_GoodsBookModel_bound_94_4 (cm_pg X xs) N H a1 a2 (fpI sQ H)) ∧ (∀ (H : fl_H), ck (cm_pg X xs) N cm_m203 [.index 94] H (fpI sQ H)) := by
  induction N using Nat.strongRecOn with
  | ind N IH =>
    have hdGoodsBookModel_bound_94_155 : (∀ (H : fl_H) (a1 : Int) (a2 : Int), hd_GoodsBookModel_bound_94_155 (cm_pg X xs) N H a1 a2 (fpI sQ H)) := fun H a1 a2 => vh_GoodsBookModel_bound_94_155 (have p := fr_refl sQ H
      ⟨fun _ => ⟨⟨_, rfl⟩, p⟩, fun _ => (fun _ => ⟨fun _ => (fun m hm => (fun lv l0 l1 l2 => vt_mono (Nat.le_refl _) (fun _ _ kk => ⟨kk.1, fr_trans p kk.2⟩) ((IH m hm).1 _ _ _ lv l0 l1 l2))), fun _ => (fun m hm => (fun lv l0 l1 l2 => vt_mono (Nat.le_refl _) (fun _ _ kk => ⟨kk.1, fr_trans p kk.2⟩) ((IH m hm).1 _ _ _ lv l0 l1 l2)))⟩)⟩)
    have hdGoodsBookModel_bound_94_33 : (∀ (H : fl_H) (a1 : Int) (a2 : Int) (a3 : Int) (a4 : Int) (a5 : Int), hd_GoodsBookModel_bound_94_33 (cm_pg X xs) N H a1 a2 a3 a4 a5 (fpI sQ H)) := fun H a1 a2 a3 a4 a5 => vh_GoodsBookModel_bound_94_33 (have p := fr_refl sQ H
      ⟨fun _ => (fun m hm => (fun lv l0 l1 l2 => vt_mono (Nat.le_refl _) (fun _ _ kk => ⟨kk.1, fr_trans p kk.2⟩) ((IH m hm).2.2.1 _ _ _ lv l0 l1 l2))), fun _ => (fun m hm => ck_mono ((fv_GoodsBookModel_pageOf m) _ _) (fun _ _ ⟨⟨x, hx⟩, w5⟩ => ⟨x, hx, (fun _ => (fun m hm => ck_mono ((fv_GoodsBookModel_saleOf_94 m) _ _ _) (fun _ _ ⟨⟨x, hx⟩, w10⟩ => ⟨x, hx, ⟨fun _ => ⟨fun _ => (fun m hm => (fun lv l0 l1 l2 l3 l4 l5 => vt_mono (Nat.le_refl _) (fun _ _ kk => ⟨kk.1, fr_trans (fr_trans (fr_trans p w5) w10) kk.2⟩) ((IH m hm).2.1 _ _ _ _ _ _ lv l0 l1 l2 l3 l4 l5))), fun _ => (fun m hm => (fun lv l0 l1 l2 l3 l4 l5 => vt_mono (Nat.le_refl _) (fun _ _ kk => ⟨kk.1, fr_trans (fr_trans (fr_trans p w5) w10) kk.2⟩) ((IH m hm).2.1 _ _ _ _ _ _ lv l0 l1 l2 l3 l4 l5)))⟩, fun _ => ⟨fun _ => ⟨fun _ => (fun m hm => (fun lv l0 l1 l2 l3 l4 l5 => vt_mono (Nat.le_refl _) (fun _ _ kk => ⟨kk.1, fr_trans (fr_trans (fr_trans p w5) w10) kk.2⟩) ((IH m hm).2.1 _ _ _ _ _ _ lv l0 l1 l2 l3 l4 l5))), fun _ => (fun m hm => (fun lv l0 l1 l2 l3 l4 l5 => vt_mono (Nat.le_refl _) (fun _ _ kk => ⟨kk.1, fr_trans (fr_trans (fr_trans p w5) w10) kk.2⟩) ((IH m hm).2.1 _ _ _ _ _ _ lv l0 l1 l2 l3 l4 l5)))⟩, fun _ => ⟨fun _ => (fun m hm => (fun lv l0 l1 l2 l3 l4 l5 => vt_mono (Nat.le_refl _) (fun _ _ kk => ⟨kk.1, fr_trans (fr_trans (fr_trans p w5) w10) kk.2⟩) ((IH m hm).2.1 _ _ _ _ _ _ lv l0 l1 l2 l3 l4 l5))), fun _ => (fun m hm => (fun lv l0 l1 l2 l3 l4 l5 => vt_mono (Nat.le_refl _) (fun _ _ kk => ⟨kk.1, fr_trans (fr_trans (fr_trans p w5) w10) kk.2⟩) ((IH m hm).2.1 _ _ _ _ _ _ lv l0 l1 l2 l3 l4 l5)))⟩⟩⟩⟩)))⟩))⟩)
    have hdGoodsBookModel_bound_94_4 : (∀ (H : fl_H) (a1 : Int) (a2 : Int), hd_GoodsBookModel_bound_94_4 (cm_pg X xs) N H a1 a2 (fpI sQ H)) := fun H a1 a2 => vh_GoodsBookModel_bound_94_4 (have p := fr_refl sQ H
      ⟨fun _ => (fun lv l0 l1 l2 => vt_mono (Nat.le_refl _) (fun _ _ kk => ⟨kk.1, fr_trans p kk.2⟩) (hdGoodsBookModel_bound_94_155 _ _ _ lv l0 l1 l2)), fun _ => (fun _ => (fun lv l0 l1 l2 l3 l4 l5 => vt_mono (Nat.le_refl _) (fun _ _ kk => ⟨kk.1, fr_trans p kk.2⟩) (hdGoodsBookModel_bound_94_33 _ _ _ _ _ _ lv l0 l1 l2 l3 l4 l5)))⟩)
    have hdE : (∀ (H : fl_H), ck (cm_pg X xs) N cm_m203 [.index 94] H (fpI sQ H)) := fun H => ve_GoodsBookModel_bound_94 (have p := fr_refl sQ H
      (fun lv l0 l1 l2 => vt_mono (Nat.le_refl _) (fun _ _ kk => ⟨kk.1, fr_trans p kk.2⟩) (hdGoodsBookModel_bound_94_4 _ _ _ lv l0 l1 l2)))
    exact ⟨hdGoodsBookModel_bound_94_155, hdGoodsBookModel_bound_94_33, hdGoodsBookModel_bound_94_4, hdE⟩

theorem fv_GoodsBookModel_isGood_94 {X : Term} {xs : List Int32} (N : Nat) : (∀ (H : fl_H) (a1 : Int), ck (cm_pg X xs) N cm_m149 [.index 94, fl_t a1] H (fpI sQ H)) := by
  induction N using Nat.strongRecOn with
  | ind N IH =>
    have hdE : (∀ (H : fl_H) (a1 : Int), ck (cm_pg X xs) N cm_m149 [.index 94, fl_t a1] H (fpI sQ H)) := fun H a1 => ve_GoodsBookModel_isGood_94 (have p := fr_refl sQ H
      ⟨⟨_, rfl⟩, p⟩)
    exact hdE

theorem fv_GoodsBookModel_offBy_94 {X : Term} {xs : List Int32} (N : Nat) : (∀ (H : fl_H) (a1 : Int) (a2 : Int) (a3 : Int) (a4 : Int) (a5 : Int), hd_GoodsBookModel_offBy_94_6 (cm_pg X xs) N H a1 a2 a3 a4 a5 (fpI sQ H)) ∧ (∀ (H : fl_H) (a1 : Int) (a2 : Int) (a3 : Int), ck (cm_pg X xs) N cm_m217 [.index 94, fl_t a1, fl_t a2, fl_t a3] H (fpI sQ H)) := by
  induction N using Nat.strongRecOn with
  | ind N IH =>
    have hdGoodsBookModel_offBy_94_6 : (∀ (H : fl_H) (a1 : Int) (a2 : Int) (a3 : Int) (a4 : Int) (a5 : Int), hd_GoodsBookModel_offBy_94_6 (cm_pg X xs) N H a1 a2 a3 a4 a5 (fpI sQ H)) := fun H a1 a2 a3 a4 a5 => vh_GoodsBookModel_offBy_94_6 (have p := fr_refl sQ H
      ⟨fun _ => ⟨⟨_, rfl⟩, p⟩, fun _ => (fun _ => ⟨fun _ => (fun _ => ⟨fun _ => (fun _ => ⟨fun _ => (fun _ => (fun m hm => (fun lv l0 l1 l2 l3 l4 l5 => vt_mono (Nat.le_refl _) (fun _ _ kk => ⟨kk.1, fr_trans p kk.2⟩) ((IH m hm).1 _ _ _ _ _ _ lv l0 l1 l2 l3 l4 l5)))), fun _ => (fun _ => (fun m hm => (fun lv l0 l1 l2 l3 l4 l5 => vt_mono (Nat.le_refl _) (fun _ _ kk => ⟨kk.1, fr_trans p kk.2⟩) ((IH m hm).1 _ _ _ _ _ _ lv l0 l1 l2 l3 l4 l5))))⟩), fun _ => ⟨fun _ => (fun _ => ⟨fun _ => (fun _ => (fun m hm => (fun lv l0 l1 l2 l3 l4 l5 => vt_mono (Nat.le_refl _) (fun _ _ kk => ⟨kk.1, fr_trans p kk.2⟩) ((IH m hm).1 _ _ _ _ _ _ lv l0 l1 l2 l3 l4 l5)))), fun _ => (fun _ => (fun m hm => (fun lv l0 l1 l2 l3 l4 l5 => vt_mono (Nat.le_refl _) (fun _ _ kk => ⟨kk.1, fr_trans p kk.2⟩) ((IH m hm).1 _ _ _ _ _ _ lv l0 l1 l2 l3 l4 l5))))⟩), fun _ => ⟨fun _ => (fun _ => ⟨fun _ => (fun _ => (fun m hm => (fun lv l0 l1 l2 l3 l4 l5 => vt_mono (Nat.le_refl _) (fun _ _ kk => ⟨kk.1, fr_trans p kk.2⟩) ((IH m hm).1 _ _ _ _ _ _ lv l0 l1 l2 l3 l4 l5)))), fun _ => (fun _ => (fun m hm => (fun lv l0 l1 l2 l3 l4 l5 => vt_mono (Nat.le_refl _) (fun _ _ kk => ⟨kk.1, fr_trans p kk.2⟩) ((IH m hm).1 _ _ _ _ _ _ lv l0 l1 l2 l3 l4 l5))))⟩), fun _ => (fun _ => ⟨fun _ => (fun _ => (fun m hm => (fun lv l0 l1 l2 l3 l4 l5 => vt_mono (Nat.le_refl _) (fun _ _ kk => ⟨kk.1, fr_trans p kk.2⟩) ((IH m hm).1 _ _ _ _ _ _ lv l0 l1 l2 l3 l4 l5)))), fun _ => (fun _ => (fun m hm => (fun lv l0 l1 l2 l3 l4 l5 => vt_mono (Nat.le_refl _) (fun _ _ kk => ⟨kk.1, fr_trans p kk.2⟩) ((IH m hm).1 _ _ _ _ _ _ lv l0 l1 l2 l3 l4 l5))))⟩)⟩⟩⟩), fun _ => (fun m hm => (fun lv l0 l1 l2 l3 l4 l5 => vt_mono (Nat.le_refl _) (fun _ _ kk => ⟨kk.1, fr_trans p kk.2⟩) ((IH m hm).1 _ _ _ _ _ _ lv l0 l1 l2 l3 l4 l5)))⟩)⟩)
    have hdE : (∀ (H : fl_H) (a1 : Int) (a2 : Int) (a3 : Int), ck (cm_pg X xs) N cm_m217 [.index 94, fl_t a1, fl_t a2, fl_t a3] H (fpI sQ H)) := fun H a1 a2 a3 => ve_GoodsBookModel_offBy_94 (have p := fr_refl sQ H
      (fun lv l0 l1 l2 l3 l4 l5 => vt_mono (Nat.le_refl _) (fun _ _ kk => ⟨kk.1, fr_trans p kk.2⟩) (hdGoodsBookModel_offBy_94_6 _ _ _ _ _ _ lv l0 l1 l2 l3 l4 l5)))
    exact ⟨hdGoodsBookModel_offBy_94_6, hdE⟩

theorem fv_GoodsBookModel_learnt_94 {X : Term} {xs : List Int32} (N : Nat) : (∀ (H : fl_H) (a1 : Int) (a2 : Int) (a4 : Int) (a5 : Int) (a6 : Int) (a7 : Int) (a8 : Int) (a9 : Int), hd_GoodsBookModel_learnt_94_99 (cm_pg X xs) N H a1 a2 a4 a5 a6 a7 a8 a9 (fpI sQ H)) ∧ (∀ (H : fl_H) (a1 : Int) (a2 : Int) (a4 : Int) (a5 : Int) (a6 : Int) (a7 : Int) (a8 : Int), hd_GoodsBookModel_learnt_94_90 (cm_pg X xs) N H a1 a2 a4 a5 a6 a7 a8 (fpI sQ H)) ∧ (∀ (H : fl_H) (a1 : Int) (a2 : Int) (a3 : Int) (a4 : Int), hd_GoodsBookModel_learnt_94_27 (cm_pg X xs) N H a1 a2 a3 a4 (fpI sQ H)) ∧ (∀ (H : fl_H) (a1 : Int) (a2 : Int), ck (cm_pg X xs) N cm_m218 [.index 94, fl_t a1, fl_t a2] H (fpI sQ H)) := by
  induction N using Nat.strongRecOn with
  | ind N IH =>
    have hdGoodsBookModel_learnt_94_99 : (∀ (H : fl_H) (a1 : Int) (a2 : Int) (a4 : Int) (a5 : Int) (a6 : Int) (a7 : Int) (a8 : Int) (a9 : Int), hd_GoodsBookModel_learnt_94_99 (cm_pg X xs) N H a1 a2 a4 a5 a6 a7 a8 a9 (fpI sQ H)) := fun H a1 a2 a4 a5 a6 a7 a8 a9 => vh_GoodsBookModel_learnt_94_99 (have p := fr_refl sQ H
      ⟨fun _ => (fun m hm => (fun lv l0 l1 l2 l3 l4 l5 l6 l7 => vt_mono (Nat.le_refl _) (fun _ _ kk => ⟨kk.1, fr_trans p kk.2⟩) ((IH m hm).2.1 _ _ _ _ _ _ _ _ lv l0 l1 l2 l3 l4 l5 l6 l7))), fun _ => (fun m hm => ck_mono ((fv_GoodsBookModel_offBy_94 m).2 _ _ _ _) (fun _ _ ⟨⟨x, hx⟩, w4⟩ => ⟨x, hx, ⟨fun _ => ⟨fun _ => (fun m hm => (fun lv l0 l1 l2 l3 l4 l5 l6 l7 l8 => vt_mono (Nat.le_refl _) (fun _ _ kk => ⟨kk.1, fr_trans (fr_trans p w4) kk.2⟩) ((IH m hm).1 _ _ _ _ _ _ _ _ _ lv l0 l1 l2 l3 l4 l5 l6 l7 l8))), fun _ => (fun m hm => (fun lv l0 l1 l2 l3 l4 l5 l6 l7 l8 => vt_mono (Nat.le_refl _) (fun _ _ kk => ⟨kk.1, fr_trans (fr_trans p w4) kk.2⟩) ((IH m hm).1 _ _ _ _ _ _ _ _ _ lv l0 l1 l2 l3 l4 l5 l6 l7 l8)))⟩, fun _ => ⟨fun _ => ⟨fun _ => (fun m hm => (fun lv l0 l1 l2 l3 l4 l5 l6 l7 l8 => vt_mono (Nat.le_refl _) (fun _ _ kk => ⟨kk.1, fr_trans (fr_trans p w4) kk.2⟩) ((IH m hm).1 _ _ _ _ _ _ _ _ _ lv l0 l1 l2 l3 l4 l5 l6 l7 l8))), fun _ => (fun m hm => (fun lv l0 l1 l2 l3 l4 l5 l6 l7 l8 => vt_mono (Nat.le_refl _) (fun _ _ kk => ⟨kk.1, fr_trans (fr_trans p w4) kk.2⟩) ((IH m hm).1 _ _ _ _ _ _ _ _ _ lv l0 l1 l2 l3 l4 l5 l6 l7 l8)))⟩, fun _ => ⟨fun _ => (fun m hm => (fun lv l0 l1 l2 l3 l4 l5 l6 l7 l8 => vt_mono (Nat.le_refl _) (fun _ _ kk => ⟨kk.1, fr_trans (fr_trans p w4) kk.2⟩) ((IH m hm).1 _ _ _ _ _ _ _ _ _ lv l0 l1 l2 l3 l4 l5 l6 l7 l8))), fun _ => (fun m hm => (fun lv l0 l1 l2 l3 l4 l5 l6 l7 l8 => vt_mono (Nat.le_refl _) (fun _ _ kk => ⟨kk.1, fr_trans (fr_trans p w4) kk.2⟩) ((IH m hm).1 _ _ _ _ _ _ _ _ _ lv l0 l1 l2 l3 l4 l5 l6 l7 l8)))⟩⟩⟩⟩))⟩)
    have hdGoodsBookModel_learnt_94_90 : (∀ (H : fl_H) (a1 : Int) (a2 : Int) (a4 : Int) (a5 : Int) (a6 : Int) (a7 : Int) (a8 : Int), hd_GoodsBookModel_learnt_94_90 (cm_pg X xs) N H a1 a2 a4 a5 a6 a7 a8 (fpI sQ H)) := fun H a1 a2 a4 a5 a6 a7 a8 => vh_GoodsBookModel_learnt_94_90 (have p := fr_refl sQ H
      ⟨fun _ => ⟨fun _ => ⟨⟨_, rfl⟩, p⟩, fun _ => ⟨fun _ => ⟨⟨_, rfl⟩, p⟩, fun _ => ⟨fun _ => ⟨⟨_, rfl⟩, p⟩, fun _ => ⟨⟨_, rfl⟩, p⟩⟩⟩⟩, fun _ => (fun lv l0 l1 l2 l3 l4 l5 l6 l7 l8 => vt_mono (Nat.le_refl _) (fun _ _ kk => ⟨kk.1, fr_trans p kk.2⟩) (hdGoodsBookModel_learnt_94_99 _ _ _ _ _ _ _ _ _ lv l0 l1 l2 l3 l4 l5 l6 l7 l8))⟩)
    have hdGoodsBookModel_learnt_94_27 : (∀ (H : fl_H) (a1 : Int) (a2 : Int) (a3 : Int) (a4 : Int), hd_GoodsBookModel_learnt_94_27 (cm_pg X xs) N H a1 a2 a3 a4 (fpI sQ H)) := fun H a1 a2 a3 a4 => vh_GoodsBookModel_learnt_94_27 (have p := fr_refl sQ H
      ⟨fun _ => ⟨fun _ => ⟨⟨_, rfl⟩, p⟩, fun _ => (fun lv l0 l1 l2 l3 l4 l5 l6 l7 => vt_mono (Nat.le_refl _) (fun _ _ kk => ⟨kk.1, fr_trans p kk.2⟩) (hdGoodsBookModel_learnt_94_90 _ _ _ _ _ _ _ _ lv l0 l1 l2 l3 l4 l5 l6 l7))⟩, fun _ => (fun _ => ⟨fun _ => (fun m hm => (fun lv l0 l1 l2 l3 l4 => vt_mono (Nat.le_refl _) (fun _ _ kk => ⟨kk.1, fr_trans p kk.2⟩) ((IH m hm).2.2.1 _ _ _ _ _ lv l0 l1 l2 l3 l4))), fun _ => (fun m hm => (fun lv l0 l1 l2 l3 l4 => vt_mono (Nat.le_refl _) (fun _ _ kk => ⟨kk.1, fr_trans p kk.2⟩) ((IH m hm).2.2.1 _ _ _ _ _ lv l0 l1 l2 l3 l4)))⟩)⟩)
    have hdE : (∀ (H : fl_H) (a1 : Int) (a2 : Int), ck (cm_pg X xs) N cm_m218 [.index 94, fl_t a1, fl_t a2] H (fpI sQ H)) := fun H a1 a2 => ve_GoodsBookModel_learnt_94 (have p := fr_refl sQ H
      (fun m hm => ck_mono ((fv_GoodsBookModel_isGood_94 m) _ _) (fun _ _ ⟨⟨x, hx⟩, w2⟩ => ⟨x, hx, ⟨fun _ => ⟨⟨_, rfl⟩, (fr_trans p w2)⟩, fun _ => ⟨fun _ => (fun lv l0 l1 l2 l3 l4 => vt_mono (Nat.le_refl _) (fun _ _ kk => ⟨kk.1, fr_trans (fr_trans p w2) kk.2⟩) (hdGoodsBookModel_learnt_94_27 _ _ _ _ _ lv l0 l1 l2 l3 l4)), fun _ => ⟨⟨_, rfl⟩, (fr_trans p w2)⟩⟩⟩⟩)))
    exact ⟨hdGoodsBookModel_learnt_94_99, hdGoodsBookModel_learnt_94_90, hdGoodsBookModel_learnt_94_27, hdE⟩

theorem fv_GoodsBook_pageOf {X : Term} {xs : List Int32} (N : Nat) : (∀ (H : fl_H) (a0 : Int), ck (cm_pg X xs) N cm_m136 [fl_t a0] H (fpI sQ H)) := by
  induction N using Nat.strongRecOn with
  | ind N IH =>
    have hdE : (∀ (H : fl_H) (a0 : Int), ck (cm_pg X xs) N cm_m136 [fl_t a0] H (fpI sQ H)) := fun H a0 => ve_GoodsBook_pageOf (have p := fr_refl sQ H
      ⟨⟨_, rfl⟩, p⟩)
    exact hdE

theorem fv_GoodsBook_sizeOf {X : Term} {xs : List Int32} (N : Nat) : (∀ (H : fl_H) (a0 : Int), ck (cm_pg X xs) N cm_m137 [fl_t a0] H (fpI sQ H)) := by
  induction N using Nat.strongRecOn with
  | ind N IH =>
    have hdE : (∀ (H : fl_H) (a0 : Int), ck (cm_pg X xs) N cm_m137 [fl_t a0] H (fpI sQ H)) := fun H a0 => ve_GoodsBook_sizeOf (have p := fr_refl sQ H
      ⟨⟨_, rfl⟩, p⟩)
    exact hdE

theorem fv_Sheets_value_60 {X : Term} {xs : List Int32} (N : Nat) : (∀ (H : fl_H) (a1 : Int) (a2 : Int), ck (cm_pg X xs) N cm_m71 [.index 60, fl_t a1, fl_t a2] H (fpI sQ H)) := by
  induction N using Nat.strongRecOn with
  | ind N IH =>
    have hdE : (∀ (H : fl_H) (a1 : Int) (a2 : Int), ck (cm_pg X xs) N cm_m71 [.index 60, fl_t a1, fl_t a2] H (fpI sQ H)) := fun H a1 a2 => ve_Sheets_value_60 (have p := fr_refl sQ H
      (fun _ => ⟨⟨_, rfl⟩, p⟩))
    exact hdE

theorem fv_Floor_spot_64 {X : Term} {xs : List Int32} (N : Nat) : (∀ (H : fl_H) (a1 : Int) (a2 : Int), ck (cm_pg X xs) N cm_m34 [.index 64, fl_t a1, fl_t a2] H (fpI sQ H)) := by
  induction N using Nat.strongRecOn with
  | ind N IH =>
    have hdE : (∀ (H : fl_H) (a1 : Int) (a2 : Int), ck (cm_pg X xs) N cm_m34 [.index 64, fl_t a1, fl_t a2] H (fpI sQ H)) := fun H a1 a2 => ve_Floor_spot_64 (have p := fr_refl sQ H
      ⟨fun _ => (fun _ => ⟨⟨_, rfl⟩, p⟩), fun _ => ⟨⟨_, rfl⟩, p⟩⟩)
    exact hdE

theorem fv_Sheets_isNamed {X : Term} {xs : List Int32} (N : Nat) : (∀ (H : fl_H) (a0 : Int) (a1 : Int), ck (cm_pg X xs) N cm_m73 [fl_t a0, fl_t a1] H (fpI sQ H)) := by
  induction N using Nat.strongRecOn with
  | ind N IH =>
    have hdE : (∀ (H : fl_H) (a0 : Int) (a1 : Int), ck (cm_pg X xs) N cm_m73 [fl_t a0, fl_t a1] H (fpI sQ H)) := fun H a0 a1 => ve_Sheets_isNamed (have p := fr_refl sQ H
      ⟨fun _ => ⟨fun _ => ⟨⟨_, rfl⟩, p⟩, fun _ => ⟨⟨_, rfl⟩, p⟩⟩, fun _ => ⟨⟨_, rfl⟩, p⟩⟩)
    exact hdE

theorem fv_Sheets_refusal_60 {X : Term} {xs : List Int32} (N : Nat) : (∀ (H : fl_H) (a1 : Int) (a2 : Int) (a3 : Int) (a4 : Int), ck (cm_pg X xs) N cm_m70 [.index 60, fl_t a1, fl_t a2, fl_t a3, fl_t a4] H (fpI sQ H)) := by
  induction N using Nat.strongRecOn with
  | ind N IH =>
    have hdE : (∀ (H : fl_H) (a1 : Int) (a2 : Int) (a3 : Int) (a4 : Int), ck (cm_pg X xs) N cm_m70 [.index 60, fl_t a1, fl_t a2, fl_t a3, fl_t a4] H (fpI sQ H)) := fun H a1 a2 a3 a4 => ve_Sheets_refusal_60 (have p := fr_refl sQ H
      (fun m hm => ck_mono ((fv_Sheets_isNamed m) _ _ _) (fun _ _ ⟨⟨x, hx⟩, w2⟩ => ⟨x, hx, ⟨fun _ => ⟨⟨_, rfl⟩, (fr_trans p w2)⟩, fun _ => (fun _ => ⟨fun _ => ⟨⟨_, rfl⟩, (fr_trans p w2)⟩, fun _ => (fun _ => ⟨fun _ => ⟨fun _ => ⟨⟨_, rfl⟩, (fr_trans p w2)⟩, fun _ => (fun _ => ⟨fun _ => ⟨⟨_, rfl⟩, (fr_trans p w2)⟩, fun _ => ⟨⟨_, rfl⟩, (fr_trans p w2)⟩⟩)⟩, fun _ => ⟨⟨_, rfl⟩, (fr_trans p w2)⟩⟩)⟩)⟩⟩)))
    exact hdE

theorem fv_judge_54 {X : Term} {xs : List Int32} (N : Nat) : (∀ (H : fl_H) (a1 : Int) (a2 : Int) (a6 : Int) (a7 : Int) (a8 : Int), hd_GoodsBook_judge_0_54 (cm_pg X xs) N H a1 a2 a6 a7 a8 (fpI sQ H)) := by
  induction N using Nat.strongRecOn with
  | ind N IH =>
    exact fun H a1 a2 a6 a7 a8 => vh_GoodsBook_judge_0_54 (have p := fr_refl sQ H
      ⟨fun _ => ⟨⟨_, rfl⟩, p⟩, fun _ => (fun _ => ⟨fun _ => (fun m hm => (fun lv l0 l1 l2 l3 l4 l5 => vt_mono (Nat.le_refl _) (fun _ _ kk => ⟨kk.1, fr_trans p kk.2⟩) ((IH m hm) _ _ _ _ _ _ lv l0 l1 l2 l3 l4 l5))), fun _ => (fun m hm => ck_mono ((fv_GoodsBook_pageOf m) _ _) (fun _ _ ⟨⟨x, hx⟩, w7⟩ => ⟨x, hx, ⟨fun _ => (fun m hm => ck_mono ((fv_GoodsBook_sizeOf m) _ _) (fun _ _ ⟨⟨x, hx⟩, w11⟩ => ⟨x, hx, (fun m hm => ck_mono ((fv_Sheets_value_60 m) _ _ _) (fun _ _ ⟨⟨x, hx⟩, w14⟩ => ⟨x, hx, (fun m hm => ck_mono ((fv_Floor_spot_64 m) _ _ _) (fun _ _ ⟨⟨x, hx⟩, w17⟩ => ⟨x, hx, ⟨fun _ => ⟨⟨_, rfl⟩, (fr_trans (fr_trans (fr_trans (fr_trans p w7) w11) w14) w17)⟩, fun _ => ⟨fun _ => (fun m hm => (fun lv l0 l1 l2 l3 l4 l5 => vt_mono (Nat.le_refl _) (fun _ _ kk => ⟨kk.1, fr_trans (fr_trans (fr_trans (fr_trans (fr_trans p w7) w11) w14) w17) kk.2⟩) ((IH m hm) _ _ _ _ _ _ lv l0 l1 l2 l3 l4 l5))), fun _ => ⟨⟨_, rfl⟩, (fr_trans (fr_trans (fr_trans (fr_trans p w7) w11) w14) w17)⟩⟩⟩⟩))⟩))⟩)), fun _ => (fun m hm => (fun lv l0 l1 l2 l3 l4 l5 => vt_mono (Nat.le_refl _) (fun _ _ kk => ⟨kk.1, fr_trans (fr_trans p w7) kk.2⟩) ((IH m hm) _ _ _ _ _ _ lv l0 l1 l2 l3 l4 l5)))⟩⟩))⟩)⟩)

end
