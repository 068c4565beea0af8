noncomputable section
/-! L3: the law, from a call to the next. -/
set_option maxRecDepth 8192
def hd_GoodsBookLaw_law_s0_18 (P : cm_G) (N : Nat) (H : fl_H) (a3 : Int) (Q : Option Int → fl_H → Prop) : Prop := ∀ lv : cm_Lv, cm_nth lv 0 = some (some (.string "" 0)) → cm_nth lv 1 = some (some (.index 0)) → cm_nth lv 2 = some (some (.index 94)) → cm_nth lv 3 = some (some (fl_t a3)) → vt P N cm_m252 18 lv [] H Q
theorem vh_GoodsBookLaw_law_s0_18 {X : Term} {xs : List Int32} {N : Nat} {H : fl_H} {a3 : Int} {Q : Option Int → fl_H → Prop} (W : ((fl_w ((xs.length : Int) - 6) < fl_w a3) → Q (some 1) H) ∧ (¬ (fl_w ((xs.length : Int) - 6) < fl_w a3) → (0 ≤ fl_w a3 ∧ fl_w a3 < (xs.length : Int) → (fl_w (fl_and (xi xs (fl_w a3).toNat) 63) = 0 → (0 ≤ fl_w (a3 + 1) ∧ fl_w (a3 + 1) < (xs.length : Int) → ∀ m, m < N → ck (cm_pg X xs) m cm_m100 [.index 0, fl_t (xi xs (fl_w (a3 + 1)).toNat)] H (fun r H5 => ∃ x7, r = some x7 ∧ ((0 ≤ fl_w (a3 + 1) ∧ fl_w (a3 + 1) < (xs.length : Int) → ∀ m, m < N → ck (cm_pg X xs) m cm_m156 [.index 94, fl_t (xi xs (fl_w (a3 + 1)).toNat)] H5 (fun r H9 => ∃ x11, r = some x11 ∧ (∀ m, m < N → hd_GoodsBookLaw_law_s0_18 (cm_pg X xs) m H9 (a3 + 6) Q))))))) ∧ (fl_w (fl_and (xi xs (fl_w a3).toNat) 63) = 1 → (0 ≤ fl_w (a3 + 1) ∧ fl_w (a3 + 1) < (xs.length : Int) → (0 ≤ fl_w (a3 + 2) ∧ fl_w (a3 + 2) < (xs.length : Int) → ∀ m, m < N → ck (cm_pg X xs) m cm_m101 [.index 0, fl_t (xi xs (fl_w (a3 + 1)).toNat), fl_t (xi xs (fl_w (a3 + 2)).toNat)] H (fun r H16 => ∃ x18, r = some x18 ∧ ((0 ≤ fl_w (a3 + 1) ∧ fl_w (a3 + 1) < (xs.length : Int) → (0 ≤ fl_w (a3 + 2) ∧ fl_w (a3 + 2) < (xs.length : Int) → ∀ m, m < N → ck (cm_pg X xs) m cm_m157 [.index 94, fl_t (xi xs (fl_w (a3 + 1)).toNat), fl_t (xi xs (fl_w (a3 + 2)).toNat)] H16 (fun r H21 => ∃ x23, r = some x23 ∧ (∀ m, m < N → hd_GoodsBookLaw_law_s0_18 (cm_pg X xs) m H21 (a3 + 6) Q))))))))) ∧ (fl_w (fl_and (xi xs (fl_w a3).toNat) 63) = 2 → (0 ≤ fl_w (a3 + 1) ∧ fl_w (a3 + 1) < (xs.length : Int) → (0 ≤ fl_w (a3 + 2) ∧ fl_w (a3 + 2) < (xs.length : Int) → ∀ m, m < N → ck (cm_pg X xs) m cm_m102 [.index 0, fl_t (xi xs (fl_w (a3 + 1)).toNat), fl_t (xi xs (fl_w (a3 + 2)).toNat)] H (fun r H28 => ∃ x30, r = some x30 ∧ ((0 ≤ fl_w (a3 + 1) ∧ fl_w (a3 + 1) < (xs.length : Int) → (0 ≤ fl_w (a3 + 2) ∧ fl_w (a3 + 2) < (xs.length : Int) → ∀ m, m < N → ck (cm_pg X xs) m cm_m159 [.index 94, fl_t (xi xs (fl_w (a3 + 1)).toNat), fl_t (xi xs (fl_w (a3 + 2)).toNat)] H28 (fun r H33 => ∃ x35, r = some x35 ∧ (∀ m, m < N → hd_GoodsBookLaw_law_s0_18 (cm_pg X xs) m H33 (a3 + 6) Q))))))))) ∧ (fl_w (fl_and (xi xs (fl_w a3).toNat) 63) = 3 → (0 ≤ fl_w (a3 + 1) ∧ fl_w (a3 + 1) < (xs.length : Int) → (0 ≤ fl_w (a3 + 2) ∧ fl_w (a3 + 2) < (xs.length : Int) → (0 ≤ fl_w (a3 + 3) ∧ fl_w (a3 + 3) < (xs.length : Int) → (0 ≤ fl_w (a3 + 4) ∧ fl_w (a3 + 4) < (xs.length : Int) → (0 ≤ fl_w (a3 + 5) ∧ fl_w (a3 + 5) < (xs.length : Int) → ∀ m, m < N → ck (cm_pg X xs) m cm_m103 [.index 0, fl_t (xi xs (fl_w (a3 + 1)).toNat), fl_t (xi xs (fl_w (a3 + 2)).toNat), fl_t (xi xs (fl_w (a3 + 3)).toNat), fl_t (xi xs (fl_w (a3 + 4)).toNat), fl_t (xi xs (fl_w (a3 + 5)).toNat)] H (fun r H43 => ∃ x45, r = some x45 ∧ ((0 ≤ fl_w (a3 + 1) ∧ fl_w (a3 + 1) < (xs.length : Int) → (0 ≤ fl_w (a3 + 2) ∧ fl_w (a3 + 2) < (xs.length : Int) → (0 ≤ fl_w (a3 + 3) ∧ fl_w (a3 + 3) < (xs.length : Int) → (0 ≤ fl_w (a3 + 4) ∧ fl_w (a3 + 4) < (xs.length : Int) → (0 ≤ fl_w (a3 + 5) ∧ fl_w (a3 + 5) < (xs.length : Int) → ∀ m, m < N → ck (cm_pg X xs) m cm_m161 [.index 94, fl_t (xi xs (fl_w (a3 + 1)).toNat), fl_t (xi xs (fl_w (a3 + 2)).toNat), fl_t (xi xs (fl_w (a3 + 3)).toNat), fl_t (xi xs (fl_w (a3 + 4)).toNat), fl_t (xi xs (fl_w (a3 + 5)).toNat)] H43 (fun r H51 => ∃ x53, r = some x53 ∧ (∀ m, m < N → hd_GoodsBookLaw_law_s0_18 (cm_pg X xs) m H51 (a3 + 6) Q))))))))))))))) ∧ (fl_w (fl_and (xi xs (fl_w a3).toNat) 63) = 4 → (0 ≤ fl_w (a3 + 1) ∧ fl_w (a3 + 1) < (xs.length : Int) → (0 ≤ fl_w (a3 + 2) ∧ fl_w (a3 + 2) < (xs.length : Int) → ∀ m, m < N → ck (cm_pg X xs) m cm_m104 [.index 0, fl_t (xi xs (fl_w (a3 + 1)).toNat), fl_t (xi xs (fl_w (a3 + 2)).toNat)] H (fun r H58 => ∃ x60, r = some x60 ∧ ((0 ≤ fl_w (a3 + 1) ∧ fl_w (a3 + 1) < (xs.length : Int) → (0 ≤ fl_w (a3 + 2) ∧ fl_w (a3 + 2) < (xs.length : Int) → ∀ m, m < N → ck (cm_pg X xs) m cm_m162 [.index 94, fl_t (xi xs (fl_w (a3 + 1)).toNat), fl_t (xi xs (fl_w (a3 + 2)).toNat)] H58 (fun r H63 => ∃ x65, r = some x65 ∧ (∀ m, m < N → hd_GoodsBookLaw_law_s0_18 (cm_pg X xs) m H63 (a3 + 6) Q))))))))) ∧ (fl_w (fl_and (xi xs (fl_w a3).toNat) 63) = 5 → (0 ≤ fl_w (a3 + 1) ∧ fl_w (a3 + 1) < (xs.length : Int) → (0 ≤ fl_w (a3 + 2) ∧ fl_w (a3 + 2) < (xs.length : Int) → (0 ≤ fl_w (a3 + 3) ∧ fl_w (a3 + 3) < (xs.length : Int) → (0 ≤ fl_w (a3 + 4) ∧ fl_w (a3 + 4) < (xs.length : Int) → ∀ m, m < N → ck (cm_pg X xs) m cm_m105 [.index 0, fl_t (xi xs (fl_w (a3 + 1)).toNat), fl_t (xi xs (fl_w (a3 + 2)).toNat), fl_t (xi xs (fl_w (a3 + 3)).toNat), fl_t (xi xs (fl_w (a3 + 4)).toNat)] H (fun r H72 => ∃ x74, r = some x74 ∧ ((0 ≤ fl_w (a3 + 1) ∧ fl_w (a3 + 1) < (xs.length : Int) → (0 ≤ fl_w (a3 + 2) ∧ fl_w (a3 + 2) < (xs.length : Int) → (0 ≤ fl_w (a3 + 3) ∧ fl_w (a3 + 3) < (xs.length : Int) → (0 ≤ fl_w (a3 + 4) ∧ fl_w (a3 + 4) < (xs.length : Int) → ∀ m, m < N → ck (cm_pg X xs) m cm_m164 [.index 94, fl_t (xi xs (fl_w (a3 + 1)).toNat), fl_t (xi xs (fl_w (a3 + 2)).toNat), fl_t (xi xs (fl_w (a3 + 3)).toNat), fl_t (xi xs (fl_w (a3 + 4)).toNat)] H72 (fun r H79 => ∃ x81, r = some x81 ∧ (∀ m, m < N → hd_GoodsBookLaw_law_s0_18 (cm_pg X xs) m H79 (a3 + 6) Q))))))))))))) ∧ (fl_w (fl_and (xi xs (fl_w a3).toNat) 63) = 6 → (0 ≤ fl_w (a3 + 1) ∧ fl_w (a3 + 1) < (xs.length : Int) → (0 ≤ fl_w (a3 + 2) ∧ fl_w (a3 + 2) < (xs.length : Int) → ∀ m, m < N → ck (cm_pg X xs) m cm_m106 [.index 0, fl_t (xi xs (fl_w (a3 + 1)).toNat), fl_t (xi xs (fl_w (a3 + 2)).toNat)] H (fun r H86 => ∃ x88, r = some x88 ∧ ((0 ≤ fl_w (a3 + 1) ∧ fl_w (a3 + 1) < (xs.length : Int) → (0 ≤ fl_w (a3 + 2) ∧ fl_w (a3 + 2) < (xs.length : Int) → ∀ m, m < N → ck (cm_pg X xs) m cm_m165 [.index 94, fl_t (xi xs (fl_w (a3 + 1)).toNat), fl_t (xi xs (fl_w (a3 + 2)).toNat)] H86 (fun r H91 => ∃ x93, r = some x93 ∧ (∀ m, m < N → hd_GoodsBookLaw_law_s0_18 (cm_pg X xs) m H91 (a3 + 6) Q))))))))) ∧ (fl_w (fl_and (xi xs (fl_w a3).toNat) 63) = 7 → (0 ≤ fl_w (a3 + 1) ∧ fl_w (a3 + 1) < (xs.length : Int) → (0 ≤ fl_w (a3 + 2) ∧ fl_w (a3 + 2) < (xs.length : Int) → ∀ m, m < N → ck (cm_pg X xs) m cm_m107 [.index 0, fl_t (xi xs (fl_w (a3 + 1)).toNat), fl_t (xi xs (fl_w (a3 + 2)).toNat)] H (fun r H98 => ∃ x100, r = some x100 ∧ ((0 ≤ fl_w (a3 + 1) ∧ fl_w (a3 + 1) < (xs.length : Int) → (0 ≤ fl_w (a3 + 2) ∧ fl_w (a3 + 2) < (xs.length : Int) → ∀ m, m < N → ck (cm_pg X xs) m cm_m166 [.index 94, fl_t (xi xs (fl_w (a3 + 1)).toNat), fl_t (xi xs (fl_w (a3 + 2)).toNat)] H98 (fun r H103 => ∃ x105, r = some x105 ∧ (∀ m, m < N → hd_GoodsBookLaw_law_s0_18 (cm_pg X xs) m H103 (a3 + 6) Q))))))))) ∧ (fl_w (fl_and (xi xs (fl_w a3).toNat) 63) = 8 → (0 ≤ fl_w (a3 + 1) ∧ fl_w (a3 + 1) < (xs.length : Int) → (0 ≤ fl_w (a3 + 2) ∧ fl_w (a3 + 2) < (xs.length : Int) → (0 ≤ fl_w (a3 + 3) ∧ fl_w (a3 + 3) < (xs.length : Int) → ∀ m, m < N → ck (cm_pg X xs) m cm_m108 [.index 0, fl_l (fl_lor (fl_lshl (fl_w (xi xs (fl_w (a3 + 1)).toNat)) 32) (fl_land (fl_w (xi xs (fl_w (a3 + 2)).toNat)) 4294967295)), fl_t (xi xs (fl_w (a3 + 3)).toNat)] H (fun r H111 => ∃ x113, r = some x113 ∧ ((0 ≤ fl_w (a3 + 1) ∧ fl_w (a3 + 1) < (xs.length : Int) → (0 ≤ fl_w (a3 + 2) ∧ fl_w (a3 + 2) < (xs.length : Int) → (0 ≤ fl_w (a3 + 3) ∧ fl_w (a3 + 3) < (xs.length : Int) → ∀ m, m < N → ck (cm_pg X xs) m cm_m219 [.index 94, fl_l (fl_lor (fl_lshl (fl_w (xi xs (fl_w (a3 + 1)).toNat)) 32) (fl_land (fl_w (xi xs (fl_w (a3 + 2)).toNat)) 4294967295)), fl_t (xi xs (fl_w (a3 + 3)).toNat)] H111 (fun r H117 => ∃ x119, r = some x119 ∧ (((fl_w x113 = fl_w x119) → ∀ m, m < N → hd_GoodsBookLaw_law_s0_18 (cm_pg X xs) m H117 (a3 + 6) Q) ∧ (¬ (fl_w x113 = fl_w x119) → Q (some 0) H117)))))))))))) ∧ (fl_w (fl_and (xi xs (fl_w a3).toNat) 63) = 9 → ∀ m, m < N → ck (cm_pg X xs) m cm_m109 [.index 0] H (fun r H123 => ∃ x125, r = some x125 ∧ (∀ m, m < N → ck (cm_pg X xs) m cm_m232 [.index 94] H123 (fun r H126 => ∃ x128, r = some x128 ∧ (∀ m, m < N → hd_GoodsBookLaw_law_s0_18 (cm_pg X xs) m H126 (a3 + 6) Q))))) ∧ (fl_w (fl_and (xi xs (fl_w a3).toNat) 63) = 10 → (0 ≤ fl_w (a3 + 1) ∧ fl_w (a3 + 1) < (xs.length : Int) → ∀ m, m < N → ck (cm_pg X xs) m cm_m110 [.index 0, fl_t (xi xs (fl_w (a3 + 1)).toNat)] H (fun r H132 => ∃ x134, r = some x134 ∧ ((0 ≤ fl_w (a3 + 1) ∧ fl_w (a3 + 1) < (xs.length : Int) → ∀ m, m < N → ck (cm_pg X xs) m cm_m167 [.index 94, fl_t (xi xs (fl_w (a3 + 1)).toNat)] H132 (fun r H136 => ∃ x138, r = some x138 ∧ (∀ m, m < N → hd_GoodsBookLaw_law_s0_18 (cm_pg X xs) m H136 (a3 + 6) Q))))))) ∧ (fl_w (fl_and (xi xs (fl_w a3).toNat) 63) = 11 → (0 ≤ fl_w (a3 + 1) ∧ fl_w (a3 + 1) < (xs.length : Int) → (0 ≤ fl_w (a3 + 2) ∧ fl_w (a3 + 2) < (xs.length : Int) → ∀ m, m < N → ck (cm_pg X xs) m cm_m111 [.index 0, fl_t (xi xs (fl_w (a3 + 1)).toNat), fl_t (xi xs (fl_w (a3 + 2)).toNat)] H (fun r H143 => ∃ x145, r = some x145 ∧ ((0 ≤ fl_w (a3 + 1) ∧ fl_w (a3 + 1) < (xs.length : Int) → (0 ≤ fl_w (a3 + 2) ∧ fl_w (a3 + 2) < (xs.length : Int) → ∀ m, m < N → ck (cm_pg X xs) m cm_m188 [.index 94, fl_t (xi xs (fl_w (a3 + 1)).toNat), fl_t (xi xs (fl_w (a3 + 2)).toNat)] H143 (fun r H148 => ∃ x150, r = some x150 ∧ (∀ m, m < N → hd_GoodsBookLaw_law_s0_18 (cm_pg X xs) m H148 (a3 + 6) Q))))))))) ∧ (fl_w (fl_and (xi xs (fl_w a3).toNat) 63) = 12 → (0 ≤ fl_w (a3 + 1) ∧ fl_w (a3 + 1) < (xs.length : Int) → (0 ≤ fl_w (a3 + 2) ∧ fl_w (a3 + 2) < (xs.length : Int) → (0 ≤ fl_w (a3 + 3) ∧ fl_w (a3 + 3) < (xs.length : Int) → ∀ m, m < N → ck (cm_pg X xs) m cm_m112 [.index 0, fl_t (xi xs (fl_w (a3 + 1)).toNat), fl_t (xi xs (fl_w (a3 + 2)).toNat), fl_t (xi xs (fl_w (a3 + 3)).toNat)] H (fun r H156 => ∃ x158, r = some x158 ∧ ((0 ≤ fl_w (a3 + 1) ∧ fl_w (a3 + 1) < (xs.length : Int) → (0 ≤ fl_w (a3 + 2) ∧ fl_w (a3 + 2) < (xs.length : Int) → (0 ≤ fl_w (a3 + 3) ∧ fl_w (a3 + 3) < (xs.length : Int) → ∀ m, m < N → ck (cm_pg X xs) m cm_m240 [.index 94, fl_t (xi xs (fl_w (a3 + 1)).toNat), fl_t (xi xs (fl_w (a3 + 2)).toNat), fl_t (xi xs (fl_w (a3 + 3)).toNat)] H156 (fun r H162 => ∃ x164, r = some x164 ∧ (∀ m, m < N → hd_GoodsBookLaw_law_s0_18 (cm_pg X xs) m H162 (a3 + 6) Q))))))))))) ∧ (fl_w (fl_and (xi xs (fl_w a3).toNat) 63) = 13 → (0 ≤ fl_w (a3 + 1) ∧ fl_w (a3 + 1) < (xs.length : Int) → ∀ m, m < N → ck (cm_pg X xs) m cm_m113 [.index 0, fl_t (xi xs (fl_w (a3 + 1)).toNat)] H (fun r H168 => ∃ x170, r = some x170 ∧ ((0 ≤ fl_w (a3 + 1) ∧ fl_w (a3 + 1) < (xs.length : Int) → ∀ m, m < N → ck (cm_pg X xs) m cm_m189 [.index 94, fl_t (xi xs (fl_w (a3 + 1)).toNat)] H168 (fun r H172 => ∃ x174, r = some x174 ∧ (∀ m, m < N → hd_GoodsBookLaw_law_s0_18 (cm_pg X xs) m H172 (a3 + 6) Q))))))) ∧ (fl_w (fl_and (xi xs (fl_w a3).toNat) 63) = 14 → ∀ m, m < N → ck (cm_pg X xs) m cm_m114 [.index 0] H (fun r H177 => ∃ x179, r = some x179 ∧ (∀ m, m < N → ck (cm_pg X xs) m cm_m190 [.index 94] H177 (fun r H180 => ∃ x182, r = some x182 ∧ (∀ m, m < N → hd_GoodsBookLaw_law_s0_18 (cm_pg X xs) m H180 (a3 + 6) Q))))) ∧ (fl_w (fl_and (xi xs (fl_w a3).toNat) 63) = 15 → (0 ≤ fl_w (a3 + 1) ∧ fl_w (a3 + 1) < (xs.length : Int) → ∀ m, m < N → ck (cm_pg X xs) m cm_m115 [.index 0, fl_t (xi xs (fl_w (a3 + 1)).toNat)] H (fun r H186 => ∃ x188, r = some x188 ∧ ((0 ≤ fl_w (a3 + 1) ∧ fl_w (a3 + 1) < (xs.length : Int) → ∀ m, m < N → ck (cm_pg X xs) m cm_m191 [.index 94, fl_t (xi xs (fl_w (a3 + 1)).toNat)] H186 (fun r H190 => ∃ x192, r = some x192 ∧ (∀ m, m < N → hd_GoodsBookLaw_law_s0_18 (cm_pg X xs) m H190 (a3 + 6) Q))))))) ∧ (fl_w (fl_and (xi xs (fl_w a3).toNat) 63) = 16 → (0 ≤ fl_w (a3 + 1) ∧ fl_w (a3 + 1) < (xs.length : Int) → ∀ m, m < N → ck (cm_pg X xs) m cm_m116 [.index 0, fl_t (xi xs (fl_w (a3 + 1)).toNat)] H (fun r H196 => ∃ x198, r = some x198 ∧ ((0 ≤ fl_w (a3 + 1) ∧ fl_w (a3 + 1) < (xs.length : Int) → ∀ m, m < N → ck (cm_pg X xs) m cm_m192 [.index 94, fl_t (xi xs (fl_w (a3 + 1)).toNat)] H196 (fun r H200 => ∃ x202, r = some x202 ∧ (∀ m, m < N → hd_GoodsBookLaw_law_s0_18 (cm_pg X xs) m H200 (a3 + 6) Q))))))) ∧ (fl_w (fl_and (xi xs (fl_w a3).toNat) 63) = 17 → (0 ≤ fl_w (a3 + 1) ∧ fl_w (a3 + 1) < (xs.length : Int) → (0 ≤ fl_w (a3 + 2) ∧ fl_w (a3 + 2) < (xs.length : Int) → (0 ≤ fl_w (a3 + 3) ∧ fl_w (a3 + 3) < (xs.length : Int) → (0 ≤ fl_w (a3 + 4) ∧ fl_w (a3 + 4) < (xs.length : Int) → ∀ m, m < N → ck (cm_pg X xs) m cm_m117 [.index 0, fl_t (xi xs (fl_w (a3 + 1)).toNat), fl_t (xi xs (fl_w (a3 + 2)).toNat), fl_t (xi xs (fl_w (a3 + 3)).toNat), fl_t (xi xs (fl_w (a3 + 4)).toNat)] H (fun r H209 => ∃ x211, r = some x211 ∧ ((0 ≤ fl_w (a3 + 1) ∧ fl_w (a3 + 1) < (xs.length : Int) → (0 ≤ fl_w (a3 + 2) ∧ fl_w (a3 + 2) < (xs.length : Int) → (0 ≤ fl_w (a3 + 3) ∧ fl_w (a3 + 3) < (xs.length : Int) → (0 ≤ fl_w (a3 + 4) ∧ fl_w (a3 + 4) < (xs.length : Int) → ∀ m, m < N → ck (cm_pg X xs) m cm_m241 [.index 94, fl_t (xi xs (fl_w (a3 + 1)).toNat), fl_t (xi xs (fl_w (a3 + 2)).toNat), fl_t (xi xs (fl_w (a3 + 3)).toNat), fl_t (xi xs (fl_w (a3 + 4)).toNat)] H209 (fun r H216 => ∃ x218, r = some x218 ∧ (∀ m, m < N → hd_GoodsBookLaw_law_s0_18 (cm_pg X xs) m H216 (a3 + 6) Q))))))))))))) ∧ (fl_w (fl_and (xi xs (fl_w a3).toNat) 63) = 18 → (0 ≤ fl_w (a3 + 1) ∧ fl_w (a3 + 1) < (xs.length : Int) → ∀ m, m < N → ck (cm_pg X xs) m cm_m118 [.index 0, fl_t (xi xs (fl_w (a3 + 1)).toNat)] H (fun r H222 => ∃ x224, r = some x224 ∧ ((0 ≤ fl_w (a3 + 1) ∧ fl_w (a3 + 1) < (xs.length : Int) → ∀ m, m < N → ck (cm_pg X xs) m cm_m175 [.index 94, fl_t (xi xs (fl_w (a3 + 1)).toNat)] H222 (fun r H226 => ∃ x228, r = some x228 ∧ (∀ m, m < N → hd_GoodsBookLaw_law_s0_18 (cm_pg X xs) m H226 (a3 + 6) Q))))))) ∧ (fl_w (fl_and (xi xs (fl_w a3).toNat) 63) = 19 → (0 ≤ fl_w (a3 + 1) ∧ fl_w (a3 + 1) < (xs.length : Int) → ∀ m, m < N → ck (cm_pg X xs) m cm_m119 [.index 0, fl_t (xi xs (fl_w (a3 + 1)).toNat)] H (fun r H232 => ∃ x234, r = some x234 ∧ ((0 ≤ fl_w (a3 + 1) ∧ fl_w (a3 + 1) < (xs.length : Int) → ∀ m, m < N → ck (cm_pg X xs) m cm_m197 [.index 94, fl_t (xi xs (fl_w (a3 + 1)).toNat)] H232 (fun r H236 => ∃ x238, r = some x238 ∧ (∀ m, m < N → hd_GoodsBookLaw_law_s0_18 (cm_pg X xs) m H236 (a3 + 6) Q))))))) ∧ (fl_w (fl_and (xi xs (fl_w a3).toNat) 63) = 20 → ∀ m, m < N → ck (cm_pg X xs) m cm_m120 [.index 0] H (fun r H241 => ∃ x243, r = some x243 ∧ (∀ m, m < N → ck (cm_pg X xs) m cm_m198 [.index 94] H241 (fun r H244 => ∃ x246, r = some x246 ∧ (∀ m, m < N → hd_GoodsBookLaw_law_s0_18 (cm_pg X xs) m H244 (a3 + 6) Q))))) ∧ (fl_w (fl_and (xi xs (fl_w a3).toNat) 63) = 21 → (0 ≤ fl_w (a3 + 1) ∧ fl_w (a3 + 1) < (xs.length : Int) → (0 ≤ fl_w (a3 + 2) ∧ fl_w (a3 + 2) < (xs.length : Int) → ∀ m, m < N → ck (cm_pg X xs) m cm_m121 [.index 0, fl_t (xi xs (fl_w (a3 + 1)).toNat), fl_t (xi xs (fl_w (a3 + 2)).toNat)] H (fun r H251 => ∃ x253, r = some x253 ∧ ((0 ≤ fl_w (a3 + 1) ∧ fl_w (a3 + 1) < (xs.length : Int) → (0 ≤ fl_w (a3 + 2) ∧ fl_w (a3 + 2) < (xs.length : Int) → ∀ m, m < N → ck (cm_pg X xs) m cm_m202 [.index 94, fl_t (xi xs (fl_w (a3 + 1)).toNat), fl_t (xi xs (fl_w (a3 + 2)).toNat)] H251 (fun r H256 => ∃ x258, r = some x258 ∧ (∀ m, m < N → hd_GoodsBookLaw_law_s0_18 (cm_pg X xs) m H256 (a3 + 6) Q))))))))) ∧ (fl_w (fl_and (xi xs (fl_w a3).toNat) 63) = 22 → ∀ m, m < N → ck (cm_pg X xs) m cm_m122 [.index 0] H (fun r H261 => ∃ x263, r = some x263 ∧ (∀ m, m < N → ck (cm_pg X xs) m cm_m203 [.index 94] H261 (fun r H264 => ∃ x266, r = some x266 ∧ (∀ m, m < N → hd_GoodsBookLaw_law_s0_18 (cm_pg X xs) m H264 (a3 + 6) Q))))) ∧ (fl_w (fl_and (xi xs (fl_w a3).toNat) 63) = 23 → (0 ≤ fl_w (a3 + 1) ∧ fl_w (a3 + 1) < (xs.length : Int) → ∀ m, m < N → ck (cm_pg X xs) m cm_m123 [.index 0, fl_t (xi xs (fl_w (a3 + 1)).toNat)] H (fun r H270 => ∃ x272, r = some x272 ∧ ((0 ≤ fl_w (a3 + 1) ∧ fl_w (a3 + 1) < (xs.length : Int) → ∀ m, m < N → ck (cm_pg X xs) m cm_m208 [.index 94, fl_t (xi xs (fl_w (a3 + 1)).toNat)] H270 (fun r H274 => ∃ x276, r = some x276 ∧ (∀ m, m < N → hd_GoodsBookLaw_law_s0_18 (cm_pg X xs) m H274 (a3 + 6) Q))))))) ∧ (fl_w (fl_and (xi xs (fl_w a3).toNat) 63) = 24 → (0 ≤ fl_w (a3 + 1) ∧ fl_w (a3 + 1) < (xs.length : Int) → ∀ m, m < N → ck (cm_pg X xs) m cm_m124 [.index 0, fl_t (xi xs (fl_w (a3 + 1)).toNat)] H (fun r H280 => ∃ x282, r = some x282 ∧ ((0 ≤ fl_w (a3 + 1) ∧ fl_w (a3 + 1) < (xs.length : Int) → ∀ m, m < N → ck (cm_pg X xs) m cm_m211 [.index 94, fl_t (xi xs (fl_w (a3 + 1)).toNat)] H280 (fun r H284 => ∃ x286, r = some x286 ∧ (∀ m, m < N → hd_GoodsBookLaw_law_s0_18 (cm_pg X xs) m H284 (a3 + 6) Q))))))) ∧ (fl_w (fl_and (xi xs (fl_w a3).toNat) 63) = 25 → (0 ≤ fl_w (a3 + 1) ∧ fl_w (a3 + 1) < (xs.length : Int) → ∀ m, m < N → ck (cm_pg X xs) m cm_m125 [.index 0, fl_t (xi xs (fl_w (a3 + 1)).toNat)] H (fun r H290 => ∃ x292, r = some x292 ∧ ((0 ≤ fl_w (a3 + 1) ∧ fl_w (a3 + 1) < (xs.length : Int) → ∀ m, m < N → ck (cm_pg X xs) m cm_m212 [.index 94, fl_t (xi xs (fl_w (a3 + 1)).toNat)] H290 (fun r H294 => ∃ x296, r = some x296 ∧ (∀ m, m < N → hd_GoodsBookLaw_law_s0_18 (cm_pg X xs) m H294 (a3 + 6) Q))))))) ∧ (fl_w (fl_and (xi xs (fl_w a3).toNat) 63) = 26 → (0 ≤ fl_w (a3 + 1) ∧ fl_w (a3 + 1) < (xs.length : Int) → ∀ m, m < N → ck (cm_pg X xs) m cm_m126 [.index 0, fl_t (xi xs (fl_w (a3 + 1)).toNat)] H (fun r H300 => ∃ x302, r = some x302 ∧ ((0 ≤ fl_w (a3 + 1) ∧ fl_w (a3 + 1) < (xs.length : Int) → ∀ m, m < N → ck (cm_pg X xs) m cm_m213 [.index 94, fl_t (xi xs (fl_w (a3 + 1)).toNat)] H300 (fun r H304 => ∃ x306, r = some x306 ∧ (∀ m, m < N → hd_GoodsBookLaw_law_s0_18 (cm_pg X xs) m H304 (a3 + 6) Q))))))) ∧ (fl_w (fl_and (xi xs (fl_w a3).toNat) 63) = 27 → (0 ≤ fl_w (a3 + 1) ∧ fl_w (a3 + 1) < (xs.length : Int) → (0 ≤ fl_w (a3 + 2) ∧ fl_w (a3 + 2) < (xs.length : Int) → ∀ m, m < N → ck (cm_pg X xs) m cm_m127 [.index 0, fl_t (xi xs (fl_w (a3 + 1)).toNat), fl_t (xi xs (fl_w (a3 + 2)).toNat)] H (fun r H311 => ∃ x313, r = some x313 ∧ ((0 ≤ fl_w (a3 + 1) ∧ fl_w (a3 + 1) < (xs.length : Int) → (0 ≤ fl_w (a3 + 2) ∧ fl_w (a3 + 2) < (xs.length : Int) → ∀ m, m < N → ck (cm_pg X xs) m cm_m215 [.index 94, fl_t (xi xs (fl_w (a3 + 1)).toNat), fl_t (xi xs (fl_w (a3 + 2)).toNat)] H311 (fun r H316 => ∃ x318, r = some x318 ∧ (∀ m, m < N → hd_GoodsBookLaw_law_s0_18 (cm_pg X xs) m H316 (a3 + 6) Q))))))))) ∧ (fl_w (fl_and (xi xs (fl_w a3).toNat) 63) = 28 → (0 ≤ fl_w (a3 + 1) ∧ fl_w (a3 + 1) < (xs.length : Int) → (0 ≤ fl_w (a3 + 2) ∧ fl_w (a3 + 2) < (xs.length : Int) → (0 ≤ fl_w (a3 + 3) ∧ fl_w (a3 + 3) < (xs.length : Int) → ∀ m, m < N → ck (cm_pg X xs) m cm_m128 [.index 0, fl_t (xi xs (fl_w (a3 + 1)).toNat), fl_t (xi xs (fl_w (a3 + 2)).toNat), fl_t (xi xs (fl_w (a3 + 3)).toNat)] H (fun r H324 => ∃ x326, r = some x326 ∧ ((0 ≤ fl_w (a3 + 1) ∧ fl_w (a3 + 1) < (xs.length : Int) → (0 ≤ fl_w (a3 + 2) ∧ fl_w (a3 + 2) < (xs.length : Int) → (0 ≤ fl_w (a3 + 3) ∧ fl_w (a3 + 3) < (xs.length : Int) → ∀ m, m < N → ck (cm_pg X xs) m cm_m216 [.index 94, fl_t (xi xs (fl_w (a3 + 1)).toNat), fl_t (xi xs (fl_w (a3 + 2)).toNat), fl_t (xi xs (fl_w (a3 + 3)).toNat)] H324 (fun r H330 => ∃ x332, r = some x332 ∧ (∀ m, m < N → hd_GoodsBookLaw_law_s0_18 (cm_pg X xs) m H330 (a3 + 6) Q))))))))))) ∧ (fl_w (fl_and (xi xs (fl_w a3).toNat) 63) = 29 → (0 ≤ fl_w (a3 + 1) ∧ fl_w (a3 + 1) < (xs.length : Int) → (0 ≤ fl_w (a3 + 2) ∧ fl_w (a3 + 2) < (xs.length : Int) → ∀ m, m < N → ck (cm_pg X xs) m cm_m129 [.index 0, fl_t (xi xs (fl_w (a3 + 1)).toNat), fl_t (xi xs (fl_w (a3 + 2)).toNat)] H (fun r H337 => ∃ x339, r = some x339 ∧ ((0 ≤ fl_w (a3 + 1) ∧ fl_w (a3 + 1) < (xs.length : Int) → (0 ≤ fl_w (a3 + 2) ∧ fl_w (a3 + 2) < (xs.length : Int) → ∀ m, m < N → ck (cm_pg X xs) m cm_m218 [.index 94, fl_t (xi xs (fl_w (a3 + 1)).toNat), fl_t (xi xs (fl_w (a3 + 2)).toNat)] H337 (fun r H342 => ∃ x344, r = some x344 ∧ (∀ m, m < N → hd_GoodsBookLaw_law_s0_18 (cm_pg X xs) m H342 (a3 + 6) Q))))))))) ∧ (fl_w (fl_and (xi xs (fl_w a3).toNat) 63) = 30 → ∀ m, m < N → ck (cm_pg X xs) m cm_m130 [.index 0] H (fun r H347 => ∃ x349, r = some x349 ∧ (∀ m, m < N → ck (cm_pg X xs) m cm_m233 [.index 94] H347 (fun r H350 => ∃ x352, r = some x352 ∧ (∀ m, m < N → hd_GoodsBookLaw_law_s0_18 (cm_pg X xs) m H350 (a3 + 6) Q))))) ∧ (fl_w (fl_and (xi xs (fl_w a3).toNat) 63) = 31 → ∀ m, m < N → ck (cm_pg X xs) m cm_m131 [.index 0] H (fun r H355 => ∃ x357, r = some x357 ∧ (∀ m, m < N → ck (cm_pg X xs) m cm_m234 [.index 94] H355 (fun r H358 => ∃ x360, r = some x360 ∧ (∀ m, m < N → hd_GoodsBookLaw_law_s0_18 (cm_pg X xs) m H358 (a3 + 6) Q))))) ∧ (fl_w (fl_and (xi xs (fl_w a3).toNat) 63) = 32 → (0 ≤ fl_w (a3 + 1) ∧ fl_w (a3 + 1) < (xs.length : Int) → (0 ≤ fl_w (a3 + 2) ∧ fl_w (a3 + 2) < (xs.length : Int) → (0 ≤ fl_w (a3 + 3) ∧ fl_w (a3 + 3) < (xs.length : Int) → ∀ m, m < N → ck (cm_pg X xs) m cm_m132 [.index 0, fl_t (xi xs (fl_w (a3 + 1)).toNat), fl_t (xi xs (fl_w (a3 + 2)).toNat), fl_t (xi xs (fl_w (a3 + 3)).toNat)] H (fun r H366 => ∃ x368, r = some x368 ∧ ((0 ≤ fl_w (a3 + 1) ∧ fl_w (a3 + 1) < (xs.length : Int) → (0 ≤ fl_w (a3 + 2) ∧ fl_w (a3 + 2) < (xs.length : Int) → (0 ≤ fl_w (a3 + 3) ∧ fl_w (a3 + 3) < (xs.length : Int) → ∀ m, m < N → ck (cm_pg X xs) m cm_m236 [.index 94, fl_t (xi xs (fl_w (a3 + 1)).toNat), fl_t (xi xs (fl_w (a3 + 2)).toNat), fl_t (xi xs (fl_w (a3 + 3)).toNat)] H366 (fun r H372 => ∃ x374, r = some x374 ∧ (∀ m, m < N → hd_GoodsBookLaw_law_s0_18 (cm_pg X xs) m H372 (a3 + 6) Q))))))))))) ∧ (fl_w (fl_and (xi xs (fl_w a3).toNat) 63) = 33 → (0 ≤ fl_w (a3 + 1) ∧ fl_w (a3 + 1) < (xs.length : Int) → ∀ m, m < N → ck (cm_pg X xs) m cm_m133 [.index 0, fl_t (xi xs (fl_w (a3 + 1)).toNat)] H (fun r H378 => ∃ x380, r = some x380 ∧ ((0 ≤ fl_w (a3 + 1) ∧ fl_w (a3 + 1) < (xs.length : Int) → ∀ m, m < N → ck (cm_pg X xs) m cm_m237 [.index 94, fl_t (xi xs (fl_w (a3 + 1)).toNat)] H378 (fun r H382 => ∃ x384, r = some x384 ∧ (∀ m, m < N → hd_GoodsBookLaw_law_s0_18 (cm_pg X xs) m H382 (a3 + 6) Q))))))) ∧ (fl_w (fl_and (xi xs (fl_w a3).toNat) 63) = 34 → (0 ≤ fl_w (a3 + 1) ∧ fl_w (a3 + 1) < (xs.length : Int) → (0 ≤ fl_w (a3 + 2) ∧ fl_w (a3 + 2) < (xs.length : Int) → (0 ≤ fl_w (a3 + 3) ∧ fl_w (a3 + 3) < (xs.length : Int) → (0 ≤ fl_w (a3 + 4) ∧ fl_w (a3 + 4) < (xs.length : Int) → ∀ m, m < N → ck (cm_pg X xs) m cm_m134 [.index 0, fl_t (xi xs (fl_w (a3 + 1)).toNat), fl_t (xi xs (fl_w (a3 + 2)).toNat), fl_t (xi xs (fl_w (a3 + 3)).toNat), fl_t (xi xs (fl_w (a3 + 4)).toNat)] H (fun r H391 => ∃ x393, r = some x393 ∧ ((0 ≤ fl_w (a3 + 1) ∧ fl_w (a3 + 1) < (xs.length : Int) → (0 ≤ fl_w (a3 + 2) ∧ fl_w (a3 + 2) < (xs.length : Int) → (0 ≤ fl_w (a3 + 3) ∧ fl_w (a3 + 3) < (xs.length : Int) → (0 ≤ fl_w (a3 + 4) ∧ fl_w (a3 + 4) < (xs.length : Int) → ∀ m, m < N → ck (cm_pg X xs) m cm_m239 [.index 94, fl_t (xi xs (fl_w (a3 + 1)).toNat), fl_t (xi xs (fl_w (a3 + 2)).toNat), fl_t (xi xs (fl_w (a3 + 3)).toNat), fl_t (xi xs (fl_w (a3 + 4)).toNat)] H391 (fun r H398 => ∃ x400, r = some x400 ∧ (∀ m, m < N → hd_GoodsBookLaw_law_s0_18 (cm_pg X xs) m H398 (a3 + 6) Q))))))))))))) ∧ (fl_w (fl_and (xi xs (fl_w a3).toNat) 63) < 0 ∨ 34 < fl_w (fl_and (xi xs (fl_w a3).toNat) 63) → ∀ m, m < N → hd_GoodsBookLaw_law_s0_18 (cm_pg X xs) m H (a3 + 6) Q)))) : hd_GoodsBookLaw_law_s0_18 (cm_pg X xs) N H a3 Q :=
 fun lv h0 h1 h2 h3 =>
 vt_iload_n rfl h3
 (vt_aload_n rfl h0 rfl
 (vt_alenx (l := xs) rfl rfl rfl
 (vt_bipush (v := 6) rfl (by decide)
 (vt_isub rfl
 (vt_icmp rfl (fun hc1 => vt_iconst rfl
 (vt_ret rfl (W.1 hc1))) (fun hc1 => vt_aload_n rfl h0 rfl
 (vt_iload_n rfl h3
 (vt_iolx (l := xs) rfl rfl rfl (fun hf2 => vt_bipush (v := 63) rfl (by decide)
 (vt_iand rfl
 (if hs3 : fl_w (fl_and (xi xs (fl_w a3).toNat) 63) = 0 then vt_swk rfl (vt_sw_in (j := 0) (by omega) (by omega) (by omega) rfl) (vt_aload_n rfl h1 rfl
 (vt_aload_n rfl h0 rfl
 (vt_iload_n rfl h3
 (vt_iconst rfl
 (vt_iadd rfl
 (vt_iolx (l := xs) rfl rfl rfl (fun hf4 => vt_callV rfl rfl (fun _ => rfl) (fun m hm => vt_int (((((W.2 hc1) hf2).1 hs3) hf4) m hm) (fun x7 H5 w6 => vt_mv (fun _ _ => rfl)
 (vt_aload_n rfl h2 rfl
 (vt_aload_n rfl h0 rfl
 (vt_iload_n rfl h3
 (vt_iconst rfl
 (vt_iadd rfl
 (vt_iolx (l := xs) rfl rfl rfl (fun hf8 => vt_callV rfl rfl (fun _ => rfl) (fun m hm => vt_int ((w6 hf8) m hm) (fun x11 H9 w10 => vt_mv (fun _ _ => rfl)
 (vt_goto rfl
 (vt_iincA rfl h3 (fun hl12 => vt_gotoS rfl (fun m hm => (w10 m hm) _ (fl_lsn (by decide) h0) (fl_lsn (by decide) h1) (fl_lsn (by decide) h2) (fl_lse hl12))))))))))))))))))))))) else if hs13 : fl_w (fl_and (xi xs (fl_w a3).toNat) 63) = 1 then vt_swk rfl (vt_sw_in (j := 1) (by omega) (by omega) (by omega) rfl) (vt_aload_n rfl h1 rfl
 (vt_aload_n rfl h0 rfl
 (vt_iload_n rfl h3
 (vt_iconst rfl
 (vt_iadd rfl
 (vt_iolx (l := xs) rfl rfl rfl (fun hf14 => vt_aload_n rfl h0 rfl
 (vt_iload_n rfl h3
 (vt_iconst rfl
 (vt_iadd rfl
 (vt_iolx (l := xs) rfl rfl rfl (fun hf15 => vt_callV rfl rfl (fun _ => rfl) (fun m hm => vt_int ((((((W.2 hc1) hf2).2.1 hs13) hf14) hf15) m hm) (fun x18 H16 w17 => vt_mv (fun _ _ => rfl)
 (vt_aload_n rfl h2 rfl
 (vt_aload_n rfl h0 rfl
 (vt_iload_n rfl h3
 (vt_iconst rfl
 (vt_iadd rfl
 (vt_iolx (l := xs) rfl rfl rfl (fun hf19 => vt_aload_n rfl h0 rfl
 (vt_iload_n rfl h3
 (vt_iconst rfl
 (vt_iadd rfl
 (vt_iolx (l := xs) rfl rfl rfl (fun hf20 => vt_callV rfl rfl (fun _ => rfl) (fun m hm => vt_int (((w17 hf19) hf20) m hm) (fun x23 H21 w22 => vt_mv (fun _ _ => rfl)
 (vt_goto rfl
 (vt_iincA rfl h3 (fun hl24 => vt_gotoS rfl (fun m hm => (w22 m hm) _ (fl_lsn (by decide) h0) (fl_lsn (by decide) h1) (fl_lsn (by decide) h2) (fl_lse hl24))))))))))))))))))))))))))))))))) else if hs25 : fl_w (fl_and (xi xs (fl_w a3).toNat) 63) = 2 then vt_swk rfl (vt_sw_in (j := 2) (by omega) (by omega) (by omega) rfl) (vt_aload_n rfl h1 rfl
 (vt_aload_n rfl h0 rfl
 (vt_iload_n rfl h3
 (vt_iconst rfl
 (vt_iadd rfl
 (vt_iolx (l := xs) rfl rfl rfl (fun hf26 => vt_aload_n rfl h0 rfl
 (vt_iload_n rfl h3
 (vt_iconst rfl
 (vt_iadd rfl
 (vt_iolx (l := xs) rfl rfl rfl (fun hf27 => vt_callV rfl rfl (fun _ => rfl) (fun m hm => vt_int ((((((W.2 hc1) hf2).2.2.1 hs25) hf26) hf27) m hm) (fun x30 H28 w29 => vt_mv (fun _ _ => rfl)
 (vt_aload_n rfl h2 rfl
 (vt_aload_n rfl h0 rfl
 (vt_iload_n rfl h3
 (vt_iconst rfl
 (vt_iadd rfl
 (vt_iolx (l := xs) rfl rfl rfl (fun hf31 => vt_aload_n rfl h0 rfl
 (vt_iload_n rfl h3
 (vt_iconst rfl
 (vt_iadd rfl
 (vt_iolx (l := xs) rfl rfl rfl (fun hf32 => vt_callV rfl rfl (fun _ => rfl) (fun m hm => vt_int (((w29 hf31) hf32) m hm) (fun x35 H33 w34 => vt_mv (fun _ _ => rfl)
 (vt_goto rfl
 (vt_iincA rfl h3 (fun hl36 => vt_gotoS rfl (fun m hm => (w34 m hm) _ (fl_lsn (by decide) h0) (fl_lsn (by decide) h1) (fl_lsn (by decide) h2) (fl_lse hl36))))))))))))))))))))))))))))))))) else if hs37 : fl_w (fl_and (xi xs (fl_w a3).toNat) 63) = 3 then vt_swk rfl (vt_sw_in (j := 3) (by omega) (by omega) (by omega) rfl) (vt_aload_n rfl h1 rfl
 (vt_aload_n rfl h0 rfl
 (vt_iload_n rfl h3
 (vt_iconst rfl
 (vt_iadd rfl
 (vt_iolx (l := xs) rfl rfl rfl (fun hf38 => vt_aload_n rfl h0 rfl
 (vt_iload_n rfl h3
 (vt_iconst rfl
 (vt_iadd rfl
 (vt_iolx (l := xs) rfl rfl rfl (fun hf39 => vt_aload_n rfl h0 rfl
 (vt_iload_n rfl h3
 (vt_iconst rfl
 (vt_iadd rfl
 (vt_iolx (l := xs) rfl rfl rfl (fun hf40 => vt_aload_n rfl h0 rfl
 (vt_iload_n rfl h3
 (vt_iconst rfl
 (vt_iadd rfl
 (vt_iolx (l := xs) rfl rfl rfl (fun hf41 => vt_aload_n rfl h0 rfl
 (vt_iload_n rfl h3
 (vt_iconst rfl
 (vt_iadd rfl
 (vt_iolx (l := xs) rfl rfl rfl (fun hf42 => vt_callV rfl rfl (fun _ => rfl) (fun m hm => vt_int (((((((((W.2 hc1) hf2).2.2.2.1 hs37) hf38) hf39) hf40) hf41) hf42) m hm) (fun x45 H43 w44 => vt_mv (fun _ _ => rfl)
 (vt_aload_n rfl h2 rfl
 (vt_aload_n rfl h0 rfl
 (vt_iload_n rfl h3
 (vt_iconst rfl
 (vt_iadd rfl
 (vt_iolx (l := xs) rfl rfl rfl (fun hf46 => vt_aload_n rfl h0 rfl
 (vt_iload_n rfl h3
 (vt_iconst rfl
 (vt_iadd rfl
 (vt_iolx (l := xs) rfl rfl rfl (fun hf47 => vt_aload_n rfl h0 rfl
 (vt_iload_n rfl h3
 (vt_iconst rfl
 (vt_iadd rfl
 (vt_iolx (l := xs) rfl rfl rfl (fun hf48 => vt_aload_n rfl h0 rfl
 (vt_iload_n rfl h3
 (vt_iconst rfl
 (vt_iadd rfl
 (vt_iolx (l := xs) rfl rfl rfl (fun hf49 => vt_aload_n rfl h0 rfl
 (vt_iload_n rfl h3
 (vt_iconst rfl
 (vt_iadd rfl
 (vt_iolx (l := xs) rfl rfl rfl (fun hf50 => vt_callV rfl rfl (fun _ => rfl) (fun m hm => vt_int ((((((w44 hf46) hf47) hf48) hf49) hf50) m hm) (fun x53 H51 w52 => vt_mv (fun _ _ => rfl)
 (vt_goto rfl
 (vt_iincA rfl h3 (fun hl54 => vt_gotoS rfl (fun m hm => (w52 m hm) _ (fl_lsn (by decide) h0) (fl_lsn (by decide) h1) (fl_lsn (by decide) h2) (fl_lse hl54))))))))))))))))))))))))))))))))))))))))))))))))))))))))))))))) else if hs55 : fl_w (fl_and (xi xs (fl_w a3).toNat) 63) = 4 then vt_swk rfl (vt_sw_in (j := 4) (by omega) (by omega) (by omega) rfl) (vt_aload_n rfl h1 rfl
 (vt_aload_n rfl h0 rfl
 (vt_iload_n rfl h3
 (vt_iconst rfl
 (vt_iadd rfl
 (vt_iolx (l := xs) rfl rfl rfl (fun hf56 => vt_aload_n rfl h0 rfl
 (vt_iload_n rfl h3
 (vt_iconst rfl
 (vt_iadd rfl
 (vt_iolx (l := xs) rfl rfl rfl (fun hf57 => vt_callV rfl rfl (fun _ => rfl) (fun m hm => vt_int ((((((W.2 hc1) hf2).2.2.2.2.1 hs55) hf56) hf57) m hm) (fun x60 H58 w59 => vt_mv (fun _ _ => rfl)
 (vt_aload_n rfl h2 rfl
 (vt_aload_n rfl h0 rfl
 (vt_iload_n rfl h3
 (vt_iconst rfl
 (vt_iadd rfl
 (vt_iolx (l := xs) rfl rfl rfl (fun hf61 => vt_aload_n rfl h0 rfl
 (vt_iload_n rfl h3
 (vt_iconst rfl
 (vt_iadd rfl
 (vt_iolx (l := xs) rfl rfl rfl (fun hf62 => vt_callV rfl rfl (fun _ => rfl) (fun m hm => vt_int (((w59 hf61) hf62) m hm) (fun x65 H63 w64 => vt_mv (fun _ _ => rfl)
 (vt_goto rfl
 (vt_iincA rfl h3 (fun hl66 => vt_gotoS rfl (fun m hm => (w64 m hm) _ (fl_lsn (by decide) h0) (fl_lsn (by decide) h1) (fl_lsn (by decide) h2) (fl_lse hl66))))))))))))))))))))))))))))))))) else if hs67 : fl_w (fl_and (xi xs (fl_w a3).toNat) 63) = 5 then vt_swk rfl (vt_sw_in (j := 5) (by omega) (by omega) (by omega) rfl) (vt_aload_n rfl h1 rfl
 (vt_aload_n rfl h0 rfl
 (vt_iload_n rfl h3
 (vt_iconst rfl
 (vt_iadd rfl
 (vt_iolx (l := xs) rfl rfl rfl (fun hf68 => vt_aload_n rfl h0 rfl
 (vt_iload_n rfl h3
 (vt_iconst rfl
 (vt_iadd rfl
 (vt_iolx (l := xs) rfl rfl rfl (fun hf69 => vt_aload_n rfl h0 rfl
 (vt_iload_n rfl h3
 (vt_iconst rfl
 (vt_iadd rfl
 (vt_iolx (l := xs) rfl rfl rfl (fun hf70 => vt_aload_n rfl h0 rfl
 (vt_iload_n rfl h3
 (vt_iconst rfl
 (vt_iadd rfl
 (vt_iolx (l := xs) rfl rfl rfl (fun hf71 => vt_callV rfl rfl (fun _ => rfl) (fun m hm => vt_int ((((((((W.2 hc1) hf2).2.2.2.2.2.1 hs67) hf68) hf69) hf70) hf71) m hm) (fun x74 H72 w73 => vt_mv (fun _ _ => rfl)
 (vt_aload_n rfl h2 rfl
 (vt_aload_n rfl h0 rfl
 (vt_iload_n rfl h3
 (vt_iconst rfl
 (vt_iadd rfl
 (vt_iolx (l := xs) rfl rfl rfl (fun hf75 => vt_aload_n rfl h0 rfl
 (vt_iload_n rfl h3
 (vt_iconst rfl
 (vt_iadd rfl
 (vt_iolx (l := xs) rfl rfl rfl (fun hf76 => vt_aload_n rfl h0 rfl
 (vt_iload_n rfl h3
 (vt_iconst rfl
 (vt_iadd rfl
 (vt_iolx (l := xs) rfl rfl rfl (fun hf77 => vt_aload_n rfl h0 rfl
 (vt_iload_n rfl h3
 (vt_iconst rfl
 (vt_iadd rfl
 (vt_iolx (l := xs) rfl rfl rfl (fun hf78 => vt_callV rfl rfl (fun _ => rfl) (fun m hm => vt_int (((((w73 hf75) hf76) hf77) hf78) m hm) (fun x81 H79 w80 => vt_mv (fun _ _ => rfl)
 (vt_goto rfl
 (vt_iincA rfl h3 (fun hl82 => vt_gotoS rfl (fun m hm => (w80 m hm) _ (fl_lsn (by decide) h0) (fl_lsn (by decide) h1) (fl_lsn (by decide) h2) (fl_lse hl82))))))))))))))))))))))))))))))))))))))))))))))))))))) else if hs83 : fl_w (fl_and (xi xs (fl_w a3).toNat) 63) = 6 then vt_swk rfl (vt_sw_in (j := 6) (by omega) (by omega) (by omega) rfl) (vt_aload_n rfl h1 rfl
 (vt_aload_n rfl h0 rfl
 (vt_iload_n rfl h3
 (vt_iconst rfl
 (vt_iadd rfl
 (vt_iolx (l := xs) rfl rfl rfl (fun hf84 => vt_aload_n rfl h0 rfl
 (vt_iload_n rfl h3
 (vt_iconst rfl
 (vt_iadd rfl
 (vt_iolx (l := xs) rfl rfl rfl (fun hf85 => vt_callV rfl rfl (fun _ => rfl) (fun m hm => vt_int ((((((W.2 hc1) hf2).2.2.2.2.2.2.1 hs83) hf84) hf85) m hm) (fun x88 H86 w87 => vt_mv (fun _ _ => rfl)
 (vt_aload_n rfl h2 rfl
 (vt_aload_n rfl h0 rfl
 (vt_iload_n rfl h3
 (vt_iconst rfl
 (vt_iadd rfl
 (vt_iolx (l := xs) rfl rfl rfl (fun hf89 => vt_aload_n rfl h0 rfl
 (vt_iload_n rfl h3
 (vt_iconst rfl
 (vt_iadd rfl
 (vt_iolx (l := xs) rfl rfl rfl (fun hf90 => vt_callV rfl rfl (fun _ => rfl) (fun m hm => vt_int (((w87 hf89) hf90) m hm) (fun x93 H91 w92 => vt_mv (fun _ _ => rfl)
 (vt_goto rfl
 (vt_iincA rfl h3 (fun hl94 => vt_gotoS rfl (fun m hm => (w92 m hm) _ (fl_lsn (by decide) h0) (fl_lsn (by decide) h1) (fl_lsn (by decide) h2) (fl_lse hl94))))))))))))))))))))))))))))))))) else if hs95 : fl_w (fl_and (xi xs (fl_w a3).toNat) 63) = 7 then vt_swk rfl (vt_sw_in (j := 7) (by omega) (by omega) (by omega) rfl) (vt_aload_n rfl h1 rfl
 (vt_aload_n rfl h0 rfl
 (vt_iload_n rfl h3
 (vt_iconst rfl
 (vt_iadd rfl
 (vt_iolx (l := xs) rfl rfl rfl (fun hf96 => vt_aload_n rfl h0 rfl
 (vt_iload_n rfl h3
 (vt_iconst rfl
 (vt_iadd rfl
 (vt_iolx (l := xs) rfl rfl rfl (fun hf97 => vt_callV rfl rfl (fun _ => rfl) (fun m hm => vt_int ((((((W.2 hc1) hf2).2.2.2.2.2.2.2.1 hs95) hf96) hf97) m hm) (fun x100 H98 w99 => vt_mv (fun _ _ => rfl)
 (vt_aload_n rfl h2 rfl
 (vt_aload_n rfl h0 rfl
 (vt_iload_n rfl h3
 (vt_iconst rfl
 (vt_iadd rfl
 (vt_iolx (l := xs) rfl rfl rfl (fun hf101 => vt_aload_n rfl h0 rfl
 (vt_iload_n rfl h3
 (vt_iconst rfl
 (vt_iadd rfl
 (vt_iolx (l := xs) rfl rfl rfl (fun hf102 => vt_callV rfl rfl (fun _ => rfl) (fun m hm => vt_int (((w99 hf101) hf102) m hm) (fun x105 H103 w104 => vt_mv (fun _ _ => rfl)
 (vt_goto rfl
 (vt_iincA rfl h3 (fun hl106 => vt_gotoS rfl (fun m hm => (w104 m hm) _ (fl_lsn (by decide) h0) (fl_lsn (by decide) h1) (fl_lsn (by decide) h2) (fl_lse hl106))))))))))))))))))))))))))))))))) else if hs107 : fl_w (fl_and (xi xs (fl_w a3).toNat) 63) = 8 then vt_swk rfl (vt_sw_in (j := 8) (by omega) (by omega) (by omega) rfl) (vt_aload_n rfl h1 rfl
 (vt_aload_n rfl h0 rfl
 (vt_iload_n rfl h3
 (vt_iconst rfl
 (vt_iadd rfl
 (vt_iolx (l := xs) rfl rfl rfl (fun hf108 => vt_i2l rfl
 (vt_bipush (v := 32) rfl (by decide)
 (vt_lshl rfl
 (vt_aload_n rfl h0 rfl
 (vt_iload_n rfl h3
 (vt_iconst rfl
 (vt_iadd rfl
 (vt_iolx (l := xs) rfl rfl rfl (fun hf109 => vt_i2l rfl
 (vt_ldc2 (v := 4294967295) rfl (by decide)
 (vt_land rfl
 (vt_lor rfl
 (vt_aload_n rfl h0 rfl
 (vt_iload_n rfl h3
 (vt_iconst rfl
 (vt_iadd rfl
 (vt_iolx (l := xs) rfl rfl rfl (fun hf110 => vt_callV rfl rfl (fun _ => rfl) (fun m hm => vt_int (((((((W.2 hc1) hf2).2.2.2.2.2.2.2.2.1 hs107) hf108) hf109) hf110) m hm) (fun x113 H111 w112 => vt_aload_n rfl h2 rfl
 (vt_aload_n rfl h0 rfl
 (vt_iload_n rfl h3
 (vt_iconst rfl
 (vt_iadd rfl
 (vt_iolx (l := xs) rfl rfl rfl (fun hf114 => vt_i2l rfl
 (vt_bipush (v := 32) rfl (by decide)
 (vt_lshl rfl
 (vt_aload_n rfl h0 rfl
 (vt_iload_n rfl h3
 (vt_iconst rfl
 (vt_iadd rfl
 (vt_iolx (l := xs) rfl rfl rfl (fun hf115 => vt_i2l rfl
 (vt_ldc2 (v := 4294967295) rfl (by decide)
 (vt_land rfl
 (vt_lor rfl
 (vt_aload_n rfl h0 rfl
 (vt_iload_n rfl h3
 (vt_iconst rfl
 (vt_iadd rfl
 (vt_iolx (l := xs) rfl rfl rfl (fun hf116 => vt_callV rfl rfl (fun _ => rfl) (fun m hm => vt_int ((((w112 hf114) hf115) hf116) m hm) (fun x119 H117 w118 => vt_icmp rfl (fun hc120 => vt_iincA rfl h3 (fun hl121 => vt_gotoS rfl (fun m hm => ((w118.1 hc120) m hm) _ (fl_lsn (by decide) h0) (fl_lsn (by decide) h1) (fl_lsn (by decide) h2) (fl_lse hl121)))) (fun hc120 => vt_iconst rfl
 (vt_ret rfl (w118.2 hc120)))))))))))))))))))))))))))))))))))))))))))))))))))))) else if hs122 : fl_w (fl_and (xi xs (fl_w a3).toNat) 63) = 9 then vt_swk rfl (vt_sw_in (j := 9) (by omega) (by omega) (by omega) rfl) (vt_aload_n rfl h1 rfl
 (vt_callV rfl rfl (fun _ => rfl) (fun m hm => vt_int ((((W.2 hc1) hf2).2.2.2.2.2.2.2.2.2.1 hs122) m hm) (fun x125 H123 w124 => vt_mv (fun _ _ => rfl)
 (vt_aload_n rfl h2 rfl
 (vt_callV rfl rfl (fun _ => rfl) (fun m hm => vt_int (w124 m hm) (fun x128 H126 w127 => vt_mv (fun _ _ => rfl)
 (vt_goto rfl
 (vt_iincA rfl h3 (fun hl129 => vt_gotoS rfl (fun m hm => (w127 m hm) _ (fl_lsn (by decide) h0) (fl_lsn (by decide) h1) (fl_lsn (by decide) h2) (fl_lse hl129))))))))))))) else if hs130 : fl_w (fl_and (xi xs (fl_w a3).toNat) 63) = 10 then vt_swk rfl (vt_sw_in (j := 10) (by omega) (by omega) (by omega) rfl) (vt_aload_n rfl h1 rfl
 (vt_aload_n rfl h0 rfl
 (vt_iload_n rfl h3
 (vt_iconst rfl
 (vt_iadd rfl
 (vt_iolx (l := xs) rfl rfl rfl (fun hf131 => vt_callV rfl rfl (fun _ => rfl) (fun m hm => vt_int (((((W.2 hc1) hf2).2.2.2.2.2.2.2.2.2.2.1 hs130) hf131) m hm) (fun x134 H132 w133 => vt_mv (fun _ _ => rfl)
 (vt_aload_n rfl h2 rfl
 (vt_aload_n rfl h0 rfl
 (vt_iload_n rfl h3
 (vt_iconst rfl
 (vt_iadd rfl
 (vt_iolx (l := xs) rfl rfl rfl (fun hf135 => vt_callV rfl rfl (fun _ => rfl) (fun m hm => vt_int ((w133 hf135) m hm) (fun x138 H136 w137 => vt_mv (fun _ _ => rfl)
 (vt_goto rfl
 (vt_iincA rfl h3 (fun hl139 => vt_gotoS rfl (fun m hm => (w137 m hm) _ (fl_lsn (by decide) h0) (fl_lsn (by decide) h1) (fl_lsn (by decide) h2) (fl_lse hl139))))))))))))))))))))))) else if hs140 : fl_w (fl_and (xi xs (fl_w a3).toNat) 63) = 11 then vt_swk rfl (vt_sw_in (j := 11) (by omega) (by omega) (by omega) rfl) (vt_aload_n rfl h1 rfl
 (vt_aload_n rfl h0 rfl
 (vt_iload_n rfl h3
 (vt_iconst rfl
 (vt_iadd rfl
 (vt_iolx (l := xs) rfl rfl rfl (fun hf141 => vt_aload_n rfl h0 rfl
 (vt_iload_n rfl h3
 (vt_iconst rfl
 (vt_iadd rfl
 (vt_iolx (l := xs) rfl rfl rfl (fun hf142 => vt_callV rfl rfl (fun _ => rfl) (fun m hm => vt_int ((((((W.2 hc1) hf2).2.2.2.2.2.2.2.2.2.2.2.1 hs140) hf141) hf142) m hm) (fun x145 H143 w144 => vt_mv (fun _ _ => rfl)
 (vt_aload_n rfl h2 rfl
 (vt_aload_n rfl h0 rfl
 (vt_iload_n rfl h3
 (vt_iconst rfl
 (vt_iadd rfl
 (vt_iolx (l := xs) rfl rfl rfl (fun hf146 => vt_aload_n rfl h0 rfl
 (vt_iload_n rfl h3
 (vt_iconst rfl
 (vt_iadd rfl
 (vt_iolx (l := xs) rfl rfl rfl (fun hf147 => vt_callV rfl rfl (fun _ => rfl) (fun m hm => vt_int (((w144 hf146) hf147) m hm) (fun x150 H148 w149 => vt_mv (fun _ _ => rfl)
 (vt_goto rfl
 (vt_iincA rfl h3 (fun hl151 => vt_gotoS rfl (fun m hm => (w149 m hm) _ (fl_lsn (by decide) h0) (fl_lsn (by decide) h1) (fl_lsn (by decide) h2) (fl_lse hl151))))))))))))))))))))))))))))))))) else if hs152 : fl_w (fl_and (xi xs (fl_w a3).toNat) 63) = 12 then vt_swk rfl (vt_sw_in (j := 12) (by omega) (by omega) (by omega) rfl) (vt_aload_n rfl h1 rfl
 (vt_aload_n rfl h0 rfl
 (vt_iload_n rfl h3
 (vt_iconst rfl
 (vt_iadd rfl
 (vt_iolx (l := xs) rfl rfl rfl (fun hf153 => vt_aload_n rfl h0 rfl
 (vt_iload_n rfl h3
 (vt_iconst rfl
 (vt_iadd rfl
 (vt_iolx (l := xs) rfl rfl rfl (fun hf154 => vt_aload_n rfl h0 rfl
 (vt_iload_n rfl h3
 (vt_iconst rfl
 (vt_iadd rfl
 (vt_iolx (l := xs) rfl rfl rfl (fun hf155 => vt_callV rfl rfl (fun _ => rfl) (fun m hm => vt_int (((((((W.2 hc1) hf2).2.2.2.2.2.2.2.2.2.2.2.2.1 hs152) hf153) hf154) hf155) m hm) (fun x158 H156 w157 => vt_mv (fun _ _ => rfl)
 (vt_aload_n rfl h2 rfl
 (vt_aload_n rfl h0 rfl
 (vt_iload_n rfl h3
 (vt_iconst rfl
 (vt_iadd rfl
 (vt_iolx (l := xs) rfl rfl rfl (fun hf159 => vt_aload_n rfl h0 rfl
 (vt_iload_n rfl h3
 (vt_iconst rfl
 (vt_iadd rfl
 (vt_iolx (l := xs) rfl rfl rfl (fun hf160 => vt_aload_n rfl h0 rfl
 (vt_iload_n rfl h3
 (vt_iconst rfl
 (vt_iadd rfl
 (vt_iolx (l := xs) rfl rfl rfl (fun hf161 => vt_callV rfl rfl (fun _ => rfl) (fun m hm => vt_int ((((w157 hf159) hf160) hf161) m hm) (fun x164 H162 w163 => vt_mv (fun _ _ => rfl)
 (vt_goto rfl
 (vt_iincA rfl h3 (fun hl165 => vt_gotoS rfl (fun m hm => (w163 m hm) _ (fl_lsn (by decide) h0) (fl_lsn (by decide) h1) (fl_lsn (by decide) h2) (fl_lse hl165))))))))))))))))))))))))))))))))))))))))))) else if hs166 : fl_w (fl_and (xi xs (fl_w a3).toNat) 63) = 13 then vt_swk rfl (vt_sw_in (j := 13) (by omega) (by omega) (by omega) rfl) (vt_aload_n rfl h1 rfl
 (vt_aload_n rfl h0 rfl
 (vt_iload_n rfl h3
 (vt_iconst rfl
 (vt_iadd rfl
 (vt_iolx (l := xs) rfl rfl rfl (fun hf167 => vt_callV rfl rfl (fun _ => rfl) (fun m hm => vt_int (((((W.2 hc1) hf2).2.2.2.2.2.2.2.2.2.2.2.2.2.1 hs166) hf167) m hm) (fun x170 H168 w169 => vt_mv (fun _ _ => rfl)
 (vt_aload_n rfl h2 rfl
 (vt_aload_n rfl h0 rfl
 (vt_iload_n rfl h3
 (vt_iconst rfl
 (vt_iadd rfl
 (vt_iolx (l := xs) rfl rfl rfl (fun hf171 => vt_callV rfl rfl (fun _ => rfl) (fun m hm => vt_int ((w169 hf171) m hm) (fun x174 H172 w173 => vt_mv (fun _ _ => rfl)
 (vt_goto rfl
 (vt_iincA rfl h3 (fun hl175 => vt_gotoS rfl (fun m hm => (w173 m hm) _ (fl_lsn (by decide) h0) (fl_lsn (by decide) h1) (fl_lsn (by decide) h2) (fl_lse hl175))))))))))))))))))))))) else if hs176 : fl_w (fl_and (xi xs (fl_w a3).toNat) 63) = 14 then vt_swk rfl (vt_sw_in (j := 14) (by omega) (by omega) (by omega) rfl) (vt_aload_n rfl h1 rfl
 (vt_callV rfl rfl (fun _ => rfl) (fun m hm => vt_int ((((W.2 hc1) hf2).2.2.2.2.2.2.2.2.2.2.2.2.2.2.1 hs176) m hm) (fun x179 H177 w178 => vt_mv (fun _ _ => rfl)
 (vt_aload_n rfl h2 rfl
 (vt_callV rfl rfl (fun _ => rfl) (fun m hm => vt_int (w178 m hm) (fun x182 H180 w181 => vt_mv (fun _ _ => rfl)
 (vt_goto rfl
 (vt_iincA rfl h3 (fun hl183 => vt_gotoS rfl (fun m hm => (w181 m hm) _ (fl_lsn (by decide) h0) (fl_lsn (by decide) h1) (fl_lsn (by decide) h2) (fl_lse hl183))))))))))))) else if hs184 : fl_w (fl_and (xi xs (fl_w a3).toNat) 63) = 15 then vt_swk rfl (vt_sw_in (j := 15) (by omega) (by omega) (by omega) rfl) (vt_aload_n rfl h1 rfl
 (vt_aload_n rfl h0 rfl
 (vt_iload_n rfl h3
 (vt_iconst rfl
 (vt_iadd rfl
 (vt_iolx (l := xs) rfl rfl rfl (fun hf185 => vt_callV rfl rfl (fun _ => rfl) (fun m hm => vt_int (((((W.2 hc1) hf2).2.2.2.2.2.2.2.2.2.2.2.2.2.2.2.1 hs184) hf185) m hm) (fun x188 H186 w187 => vt_mv (fun _ _ => rfl)
 (vt_aload_n rfl h2 rfl
 (vt_aload_n rfl h0 rfl
 (vt_iload_n rfl h3
 (vt_iconst rfl
 (vt_iadd rfl
 (vt_iolx (l := xs) rfl rfl rfl (fun hf189 => vt_callV rfl rfl (fun _ => rfl) (fun m hm => vt_int ((w187 hf189) m hm) (fun x192 H190 w191 => vt_mv (fun _ _ => rfl)
 (vt_goto rfl
 (vt_iincA rfl h3 (fun hl193 => vt_gotoS rfl (fun m hm => (w191 m hm) _ (fl_lsn (by decide) h0) (fl_lsn (by decide) h1) (fl_lsn (by decide) h2) (fl_lse hl193))))))))))))))))))))))) else if hs194 : fl_w (fl_and (xi xs (fl_w a3).toNat) 63) = 16 then vt_swk rfl (vt_sw_in (j := 16) (by omega) (by omega) (by omega) rfl) (vt_aload_n rfl h1 rfl
 (vt_aload_n rfl h0 rfl
 (vt_iload_n rfl h3
 (vt_iconst rfl
 (vt_iadd rfl
 (vt_iolx (l := xs) rfl rfl rfl (fun hf195 => vt_callV rfl rfl (fun _ => rfl) (fun m hm => vt_int (((((W.2 hc1) hf2).2.2.2.2.2.2.2.2.2.2.2.2.2.2.2.2.1 hs194) hf195) m hm) (fun x198 H196 w197 => vt_mv (fun _ _ => rfl)
 (vt_aload_n rfl h2 rfl
 (vt_aload_n rfl h0 rfl
 (vt_iload_n rfl h3
 (vt_iconst rfl
 (vt_iadd rfl
 (vt_iolx (l := xs) rfl rfl rfl (fun hf199 => vt_callV rfl rfl (fun _ => rfl) (fun m hm => vt_int ((w197 hf199) m hm) (fun x202 H200 w201 => vt_mv (fun _ _ => rfl)
 (vt_goto rfl
 (vt_iincA rfl h3 (fun hl203 => vt_gotoS rfl (fun m hm => (w201 m hm) _ (fl_lsn (by decide) h0) (fl_lsn (by decide) h1) (fl_lsn (by decide) h2) (fl_lse hl203))))))))))))))))))))))) else if hs204 : fl_w (fl_and (xi xs (fl_w a3).toNat) 63) = 17 then vt_swk rfl (vt_sw_in (j := 17) (by omega) (by omega) (by omega) rfl) (vt_aload_n rfl h1 rfl
 (vt_aload_n rfl h0 rfl
 (vt_iload_n rfl h3
 (vt_iconst rfl
 (vt_iadd rfl
 (vt_iolx (l := xs) rfl rfl rfl (fun hf205 => vt_aload_n rfl h0 rfl
 (vt_iload_n rfl h3
 (vt_iconst rfl
 (vt_iadd rfl
 (vt_iolx (l := xs) rfl rfl rfl (fun hf206 => vt_aload_n rfl h0 rfl
 (vt_iload_n rfl h3
 (vt_iconst rfl
 (vt_iadd rfl
 (vt_iolx (l := xs) rfl rfl rfl (fun hf207 => vt_aload_n rfl h0 rfl
 (vt_iload_n rfl h3
 (vt_iconst rfl
 (vt_iadd rfl
 (vt_iolx (l := xs) rfl rfl rfl (fun hf208 => vt_callV rfl rfl (fun _ => rfl) (fun m hm => vt_int ((((((((W.2 hc1) hf2).2.2.2.2.2.2.2.2.2.2.2.2.2.2.2.2.2.1 hs204) hf205) hf206) hf207) hf208) m hm) (fun x211 H209 w210 => vt_mv (fun _ _ => rfl)
 (vt_aload_n rfl h2 rfl
 (vt_aload_n rfl h0 rfl
 (vt_iload_n rfl h3
 (vt_iconst rfl
 (vt_iadd rfl
 (vt_iolx (l := xs) rfl rfl rfl (fun hf212 => vt_aload_n rfl h0 rfl
 (vt_iload_n rfl h3
 (vt_iconst rfl
 (vt_iadd rfl
 (vt_iolx (l := xs) rfl rfl rfl (fun hf213 => vt_aload_n rfl h0 rfl
 (vt_iload_n rfl h3
 (vt_iconst rfl
 (vt_iadd rfl
 (vt_iolx (l := xs) rfl rfl rfl (fun hf214 => vt_aload_n rfl h0 rfl
 (vt_iload_n rfl h3
 (vt_iconst rfl
 (vt_iadd rfl
 (vt_iolx (l := xs) rfl rfl rfl (fun hf215 => vt_callV rfl rfl (fun _ => rfl) (fun m hm => vt_int (((((w210 hf212) hf213) hf214) hf215) m hm) (fun x218 H216 w217 => vt_mv (fun _ _ => rfl)
 (vt_goto rfl
 (vt_iincA rfl h3 (fun hl219 => vt_gotoS rfl (fun m hm => (w217 m hm) _ (fl_lsn (by decide) h0) (fl_lsn (by decide) h1) (fl_lsn (by decide) h2) (fl_lse hl219))))))))))))))))))))))))))))))))))))))))))))))))))))) else if hs220 : fl_w (fl_and (xi xs (fl_w a3).toNat) 63) = 18 then vt_swk rfl (vt_sw_in (j := 18) (by omega) (by omega) (by omega) rfl) (vt_aload_n rfl h1 rfl
 (vt_aload_n rfl h0 rfl
 (vt_iload_n rfl h3
 (vt_iconst rfl
 (vt_iadd rfl
 (vt_iolx (l := xs) rfl rfl rfl (fun hf221 => vt_callV rfl rfl (fun _ => rfl) (fun m hm => vt_int (((((W.2 hc1) hf2).2.2.2.2.2.2.2.2.2.2.2.2.2.2.2.2.2.2.1 hs220) hf221) m hm) (fun x224 H222 w223 => vt_mv (fun _ _ => rfl)
 (vt_aload_n rfl h2 rfl
 (vt_aload_n rfl h0 rfl
 (vt_iload_n rfl h3
 (vt_iconst rfl
 (vt_iadd rfl
 (vt_iolx (l := xs) rfl rfl rfl (fun hf225 => vt_callV rfl rfl (fun _ => rfl) (fun m hm => vt_int ((w223 hf225) m hm) (fun x228 H226 w227 => vt_mv (fun _ _ => rfl)
 (vt_goto rfl
 (vt_iincA rfl h3 (fun hl229 => vt_gotoS rfl (fun m hm => (w227 m hm) _ (fl_lsn (by decide) h0) (fl_lsn (by decide) h1) (fl_lsn (by decide) h2) (fl_lse hl229))))))))))))))))))))))) else if hs230 : fl_w (fl_and (xi xs (fl_w a3).toNat) 63) = 19 then vt_swk rfl (vt_sw_in (j := 19) (by omega) (by omega) (by omega) rfl) (vt_aload_n rfl h1 rfl
 (vt_aload_n rfl h0 rfl
 (vt_iload_n rfl h3
 (vt_iconst rfl
 (vt_iadd rfl
 (vt_iolx (l := xs) rfl rfl rfl (fun hf231 => vt_callV rfl rfl (fun _ => rfl) (fun m hm => vt_int (((((W.2 hc1) hf2).2.2.2.2.2.2.2.2.2.2.2.2.2.2.2.2.2.2.2.1 hs230) hf231) m hm) (fun x234 H232 w233 => vt_mv (fun _ _ => rfl)
 (vt_aload_n rfl h2 rfl
 (vt_aload_n rfl h0 rfl
 (vt_iload_n rfl h3
 (vt_iconst rfl
 (vt_iadd rfl
 (vt_iolx (l := xs) rfl rfl rfl (fun hf235 => vt_callV rfl rfl (fun _ => rfl) (fun m hm => vt_int ((w233 hf235) m hm) (fun x238 H236 w237 => vt_mv (fun _ _ => rfl)
 (vt_goto rfl
 (vt_iincA rfl h3 (fun hl239 => vt_gotoS rfl (fun m hm => (w237 m hm) _ (fl_lsn (by decide) h0) (fl_lsn (by decide) h1) (fl_lsn (by decide) h2) (fl_lse hl239))))))))))))))))))))))) else if hs240 : fl_w (fl_and (xi xs (fl_w a3).toNat) 63) = 20 then vt_swk rfl (vt_sw_in (j := 20) (by omega) (by omega) (by omega) rfl) (vt_aload_n rfl h1 rfl
 (vt_callV rfl rfl (fun _ => rfl) (fun m hm => vt_int ((((W.2 hc1) hf2).2.2.2.2.2.2.2.2.2.2.2.2.2.2.2.2.2.2.2.2.1 hs240) m hm) (fun x243 H241 w242 => vt_mv (fun _ _ => rfl)
 (vt_aload_n rfl h2 rfl
 (vt_callV rfl rfl (fun _ => rfl) (fun m hm => vt_int (w242 m hm) (fun x246 H244 w245 => vt_mv (fun _ _ => rfl)
 (vt_goto rfl
 (vt_iincA rfl h3 (fun hl247 => vt_gotoS rfl (fun m hm => (w245 m hm) _ (fl_lsn (by decide) h0) (fl_lsn (by decide) h1) (fl_lsn (by decide) h2) (fl_lse hl247))))))))))))) else if hs248 : fl_w (fl_and (xi xs (fl_w a3).toNat) 63) = 21 then vt_swk rfl (vt_sw_in (j := 21) (by omega) (by omega) (by omega) rfl) (vt_aload_n rfl h1 rfl
 (vt_aload_n rfl h0 rfl
 (vt_iload_n rfl h3
 (vt_iconst rfl
 (vt_iadd rfl
 (vt_iolx (l := xs) rfl rfl rfl (fun hf249 => vt_aload_n rfl h0 rfl
 (vt_iload_n rfl h3
 (vt_iconst rfl
 (vt_iadd rfl
 (vt_iolx (l := xs) rfl rfl rfl (fun hf250 => vt_callV rfl rfl (fun _ => rfl) (fun m hm => vt_int ((((((W.2 hc1) hf2).2.2.2.2.2.2.2.2.2.2.2.2.2.2.2.2.2.2.2.2.2.1 hs248) hf249) hf250) m hm) (fun x253 H251 w252 => vt_mv (fun _ _ => rfl)
 (vt_aload_n rfl h2 rfl
 (vt_aload_n rfl h0 rfl
 (vt_iload_n rfl h3
 (vt_iconst rfl
 (vt_iadd rfl
 (vt_iolx (l := xs) rfl rfl rfl (fun hf254 => vt_aload_n rfl h0 rfl
 (vt_iload_n rfl h3
 (vt_iconst rfl
 (vt_iadd rfl
 (vt_iolx (l := xs) rfl rfl rfl (fun hf255 => vt_callV rfl rfl (fun _ => rfl) (fun m hm => vt_int (((w252 hf254) hf255) m hm) (fun x258 H256 w257 => vt_mv (fun _ _ => rfl)
 (vt_goto rfl
 (vt_iincA rfl h3 (fun hl259 => vt_gotoS rfl (fun m hm => (w257 m hm) _ (fl_lsn (by decide) h0) (fl_lsn (by decide) h1) (fl_lsn (by decide) h2) (fl_lse hl259))))))))))))))))))))))))))))))))) else if hs260 : fl_w (fl_and (xi xs (fl_w a3).toNat) 63) = 22 then vt_swk rfl (vt_sw_in (j := 22) (by omega) (by omega) (by omega) rfl) (vt_aload_n rfl h1 rfl
 (vt_callV rfl rfl (fun _ => rfl) (fun m hm => vt_int ((((W.2 hc1) hf2).2.2.2.2.2.2.2.2.2.2.2.2.2.2.2.2.2.2.2.2.2.2.1 hs260) m hm) (fun x263 H261 w262 => vt_mv (fun _ _ => rfl)
 (vt_aload_n rfl h2 rfl
 (vt_callV rfl rfl (fun _ => rfl) (fun m hm => vt_int (w262 m hm) (fun x266 H264 w265 => vt_mv (fun _ _ => rfl)
 (vt_goto rfl
 (vt_iincA rfl h3 (fun hl267 => vt_gotoS rfl (fun m hm => (w265 m hm) _ (fl_lsn (by decide) h0) (fl_lsn (by decide) h1) (fl_lsn (by decide) h2) (fl_lse hl267))))))))))))) else if hs268 : fl_w (fl_and (xi xs (fl_w a3).toNat) 63) = 23 then vt_swk rfl (vt_sw_in (j := 23) (by omega) (by omega) (by omega) rfl) (vt_aload_n rfl h1 rfl
 (vt_aload_n rfl h0 rfl
 (vt_iload_n rfl h3
 (vt_iconst rfl
 (vt_iadd rfl
 (vt_iolx (l := xs) rfl rfl rfl (fun hf269 => vt_callV rfl rfl (fun _ => rfl) (fun m hm => vt_int (((((W.2 hc1) hf2).2.2.2.2.2.2.2.2.2.2.2.2.2.2.2.2.2.2.2.2.2.2.2.1 hs268) hf269) m hm) (fun x272 H270 w271 => vt_mv (fun _ _ => rfl)
 (vt_aload_n rfl h2 rfl
 (vt_aload_n rfl h0 rfl
 (vt_iload_n rfl h3
 (vt_iconst rfl
 (vt_iadd rfl
 (vt_iolx (l := xs) rfl rfl rfl (fun hf273 => vt_callV rfl rfl (fun _ => rfl) (fun m hm => vt_int ((w271 hf273) m hm) (fun x276 H274 w275 => vt_mv (fun _ _ => rfl)
 (vt_goto rfl
 (vt_iincA rfl h3 (fun hl277 => vt_gotoS rfl (fun m hm => (w275 m hm) _ (fl_lsn (by decide) h0) (fl_lsn (by decide) h1) (fl_lsn (by decide) h2) (fl_lse hl277))))))))))))))))))))))) else if hs278 : fl_w (fl_and (xi xs (fl_w a3).toNat) 63) = 24 then vt_swk rfl (vt_sw_in (j := 24) (by omega) (by omega) (by omega) rfl) (vt_aload_n rfl h1 rfl
 (vt_aload_n rfl h0 rfl
 (vt_iload_n rfl h3
 (vt_iconst rfl
 (vt_iadd rfl
 (vt_iolx (l := xs) rfl rfl rfl (fun hf279 => vt_callV rfl rfl (fun _ => rfl) (fun m hm => vt_int (((((W.2 hc1) hf2).2.2.2.2.2.2.2.2.2.2.2.2.2.2.2.2.2.2.2.2.2.2.2.2.1 hs278) hf279) m hm) (fun x282 H280 w281 => vt_mv (fun _ _ => rfl)
 (vt_aload_n rfl h2 rfl
 (vt_aload_n rfl h0 rfl
 (vt_iload_n rfl h3
 (vt_iconst rfl
 (vt_iadd rfl
 (vt_iolx (l := xs) rfl rfl rfl (fun hf283 => vt_callV rfl rfl (fun _ => rfl) (fun m hm => vt_int ((w281 hf283) m hm) (fun x286 H284 w285 => vt_mv (fun _ _ => rfl)
 (vt_goto rfl
 (vt_iincA rfl h3 (fun hl287 => vt_gotoS rfl (fun m hm => (w285 m hm) _ (fl_lsn (by decide) h0) (fl_lsn (by decide) h1) (fl_lsn (by decide) h2) (fl_lse hl287))))))))))))))))))))))) else if hs288 : fl_w (fl_and (xi xs (fl_w a3).toNat) 63) = 25 then vt_swk rfl (vt_sw_in (j := 25) (by omega) (by omega) (by omega) rfl) (vt_aload_n rfl h1 rfl
 (vt_aload_n rfl h0 rfl
 (vt_iload_n rfl h3
 (vt_iconst rfl
 (vt_iadd rfl
 (vt_iolx (l := xs) rfl rfl rfl (fun hf289 => vt_callV rfl rfl (fun _ => rfl) (fun m hm => vt_int (((((W.2 hc1) hf2).2.2.2.2.2.2.2.2.2.2.2.2.2.2.2.2.2.2.2.2.2.2.2.2.2.1 hs288) hf289) m hm) (fun x292 H290 w291 => vt_mv (fun _ _ => rfl)
 (vt_aload_n rfl h2 rfl
 (vt_aload_n rfl h0 rfl
 (vt_iload_n rfl h3
 (vt_iconst rfl
 (vt_iadd rfl
 (vt_iolx (l := xs) rfl rfl rfl (fun hf293 => vt_callV rfl rfl (fun _ => rfl) (fun m hm => vt_int ((w291 hf293) m hm) (fun x296 H294 w295 => vt_mv (fun _ _ => rfl)
 (vt_goto rfl
 (vt_iincA rfl h3 (fun hl297 => vt_gotoS rfl (fun m hm => (w295 m hm) _ (fl_lsn (by decide) h0) (fl_lsn (by decide) h1) (fl_lsn (by decide) h2) (fl_lse hl297))))))))))))))))))))))) else if hs298 : fl_w (fl_and (xi xs (fl_w a3).toNat) 63) = 26 then vt_swk rfl (vt_sw_in (j := 26) (by omega) (by omega) (by omega) rfl) (vt_aload_n rfl h1 rfl
 (vt_aload_n rfl h0 rfl
 (vt_iload_n rfl h3
 (vt_iconst rfl
 (vt_iadd rfl
 (vt_iolx (l := xs) rfl rfl rfl (fun hf299 => vt_callV rfl rfl (fun _ => rfl) (fun m hm => vt_int (((((W.2 hc1) hf2).2.2.2.2.2.2.2.2.2.2.2.2.2.2.2.2.2.2.2.2.2.2.2.2.2.2.1 hs298) hf299) m hm) (fun x302 H300 w301 => vt_mv (fun _ _ => rfl)
 (vt_aload_n rfl h2 rfl
 (vt_aload_n rfl h0 rfl
 (vt_iload_n rfl h3
 (vt_iconst rfl
 (vt_iadd rfl
 (vt_iolx (l := xs) rfl rfl rfl (fun hf303 => vt_callV rfl rfl (fun _ => rfl) (fun m hm => vt_int ((w301 hf303) m hm) (fun x306 H304 w305 => vt_mv (fun _ _ => rfl)
 (vt_goto rfl
 (vt_iincA rfl h3 (fun hl307 => vt_gotoS rfl (fun m hm => (w305 m hm) _ (fl_lsn (by decide) h0) (fl_lsn (by decide) h1) (fl_lsn (by decide) h2) (fl_lse hl307))))))))))))))))))))))) else if hs308 : fl_w (fl_and (xi xs (fl_w a3).toNat) 63) = 27 then vt_swk rfl (vt_sw_in (j := 27) (by omega) (by omega) (by omega) rfl) (vt_aload_n rfl h1 rfl
 (vt_aload_n rfl h0 rfl
 (vt_iload_n rfl h3
 (vt_iconst rfl
 (vt_iadd rfl
 (vt_iolx (l := xs) rfl rfl rfl (fun hf309 => vt_aload_n rfl h0 rfl
 (vt_iload_n rfl h3
 (vt_iconst rfl
 (vt_iadd rfl
 (vt_iolx (l := xs) rfl rfl rfl (fun hf310 => vt_callV rfl rfl (fun _ => rfl) (fun m hm => vt_int ((((((W.2 hc1) hf2).2.2.2.2.2.2.2.2.2.2.2.2.2.2.2.2.2.2.2.2.2.2.2.2.2.2.2.1 hs308) hf309) hf310) m hm) (fun x313 H311 w312 => vt_mv (fun _ _ => rfl)
 (vt_aload_n rfl h2 rfl
 (vt_aload_n rfl h0 rfl
 (vt_iload_n rfl h3
 (vt_iconst rfl
 (vt_iadd rfl
 (vt_iolx (l := xs) rfl rfl rfl (fun hf314 => vt_aload_n rfl h0 rfl
 (vt_iload_n rfl h3
 (vt_iconst rfl
 (vt_iadd rfl
 (vt_iolx (l := xs) rfl rfl rfl (fun hf315 => vt_callV rfl rfl (fun _ => rfl) (fun m hm => vt_int (((w312 hf314) hf315) m hm) (fun x318 H316 w317 => vt_mv (fun _ _ => rfl)
 (vt_goto rfl
 (vt_iincA rfl h3 (fun hl319 => vt_gotoS rfl (fun m hm => (w317 m hm) _ (fl_lsn (by decide) h0) (fl_lsn (by decide) h1) (fl_lsn (by decide) h2) (fl_lse hl319))))))))))))))))))))))))))))))))) else if hs320 : fl_w (fl_and (xi xs (fl_w a3).toNat) 63) = 28 then vt_swk rfl (vt_sw_in (j := 28) (by omega) (by omega) (by omega) rfl) (vt_aload_n rfl h1 rfl
 (vt_aload_n rfl h0 rfl
 (vt_iload_n rfl h3
 (vt_iconst rfl
 (vt_iadd rfl
 (vt_iolx (l := xs) rfl rfl rfl (fun hf321 => vt_aload_n rfl h0 rfl
 (vt_iload_n rfl h3
 (vt_iconst rfl
 (vt_iadd rfl
 (vt_iolx (l := xs) rfl rfl rfl (fun hf322 => vt_aload_n rfl h0 rfl
 (vt_iload_n rfl h3
 (vt_iconst rfl
 (vt_iadd rfl
 (vt_iolx (l := xs) rfl rfl rfl (fun hf323 => vt_callV rfl rfl (fun _ => rfl) (fun m hm => vt_int (((((((W.2 hc1) hf2).2.2.2.2.2.2.2.2.2.2.2.2.2.2.2.2.2.2.2.2.2.2.2.2.2.2.2.2.1 hs320) hf321) hf322) hf323) m hm) (fun x326 H324 w325 => vt_mv (fun _ _ => rfl)
 (vt_aload_n rfl h2 rfl
 (vt_aload_n rfl h0 rfl
 (vt_iload_n rfl h3
 (vt_iconst rfl
 (vt_iadd rfl
 (vt_iolx (l := xs) rfl rfl rfl (fun hf327 => vt_aload_n rfl h0 rfl
 (vt_iload_n rfl h3
 (vt_iconst rfl
 (vt_iadd rfl
 (vt_iolx (l := xs) rfl rfl rfl (fun hf328 => vt_aload_n rfl h0 rfl
 (vt_iload_n rfl h3
 (vt_iconst rfl
 (vt_iadd rfl
 (vt_iolx (l := xs) rfl rfl rfl (fun hf329 => vt_callV rfl rfl (fun _ => rfl) (fun m hm => vt_int ((((w325 hf327) hf328) hf329) m hm) (fun x332 H330 w331 => vt_mv (fun _ _ => rfl)
 (vt_goto rfl
 (vt_iincA rfl h3 (fun hl333 => vt_gotoS rfl (fun m hm => (w331 m hm) _ (fl_lsn (by decide) h0) (fl_lsn (by decide) h1) (fl_lsn (by decide) h2) (fl_lse hl333))))))))))))))))))))))))))))))))))))))))))) else if hs334 : fl_w (fl_and (xi xs (fl_w a3).toNat) 63) = 29 then vt_swk rfl (vt_sw_in (j := 29) (by omega) (by omega) (by omega) rfl) (vt_aload_n rfl h1 rfl
 (vt_aload_n rfl h0 rfl
 (vt_iload_n rfl h3
 (vt_iconst rfl
 (vt_iadd rfl
 (vt_iolx (l := xs) rfl rfl rfl (fun hf335 => vt_aload_n rfl h0 rfl
 (vt_iload_n rfl h3
 (vt_iconst rfl
 (vt_iadd rfl
 (vt_iolx (l := xs) rfl rfl rfl (fun hf336 => vt_callV rfl rfl (fun _ => rfl) (fun m hm => vt_int ((((((W.2 hc1) hf2).2.2.2.2.2.2.2.2.2.2.2.2.2.2.2.2.2.2.2.2.2.2.2.2.2.2.2.2.2.1 hs334) hf335) hf336) m hm) (fun x339 H337 w338 => vt_mv (fun _ _ => rfl)
 (vt_aload_n rfl h2 rfl
 (vt_aload_n rfl h0 rfl
 (vt_iload_n rfl h3
 (vt_iconst rfl
 (vt_iadd rfl
 (vt_iolx (l := xs) rfl rfl rfl (fun hf340 => vt_aload_n rfl h0 rfl
 (vt_iload_n rfl h3
 (vt_iconst rfl
 (vt_iadd rfl
 (vt_iolx (l := xs) rfl rfl rfl (fun hf341 => vt_callV rfl rfl (fun _ => rfl) (fun m hm => vt_int (((w338 hf340) hf341) m hm) (fun x344 H342 w343 => vt_mv (fun _ _ => rfl)
 (vt_goto rfl
 (vt_iincA rfl h3 (fun hl345 => vt_gotoS rfl (fun m hm => (w343 m hm) _ (fl_lsn (by decide) h0) (fl_lsn (by decide) h1) (fl_lsn (by decide) h2) (fl_lse hl345))))))))))))))))))))))))))))))))) else if hs346 : fl_w (fl_and (xi xs (fl_w a3).toNat) 63) = 30 then vt_swk rfl (vt_sw_in (j := 30) (by omega) (by omega) (by omega) rfl) (vt_aload_n rfl h1 rfl
 (vt_callV rfl rfl (fun _ => rfl) (fun m hm => vt_int ((((W.2 hc1) hf2).2.2.2.2.2.2.2.2.2.2.2.2.2.2.2.2.2.2.2.2.2.2.2.2.2.2.2.2.2.2.1 hs346) m hm) (fun x349 H347 w348 => vt_mv (fun _ _ => rfl)
 (vt_aload_n rfl h2 rfl
 (vt_callV rfl rfl (fun _ => rfl) (fun m hm => vt_int (w348 m hm) (fun x352 H350 w351 => vt_mv (fun _ _ => rfl)
 (vt_goto rfl
 (vt_iincA rfl h3 (fun hl353 => vt_gotoS rfl (fun m hm => (w351 m hm) _ (fl_lsn (by decide) h0) (fl_lsn (by decide) h1) (fl_lsn (by decide) h2) (fl_lse hl353))))))))))))) else if hs354 : fl_w (fl_and (xi xs (fl_w a3).toNat) 63) = 31 then vt_swk rfl (vt_sw_in (j := 31) (by omega) (by omega) (by omega) rfl) (vt_aload_n rfl h1 rfl
 (vt_callV rfl rfl (fun _ => rfl) (fun m hm => vt_int ((((W.2 hc1) hf2).2.2.2.2.2.2.2.2.2.2.2.2.2.2.2.2.2.2.2.2.2.2.2.2.2.2.2.2.2.2.2.1 hs354) m hm) (fun x357 H355 w356 => vt_mv (fun _ _ => rfl)
 (vt_aload_n rfl h2 rfl
 (vt_callV rfl rfl (fun _ => rfl) (fun m hm => vt_int (w356 m hm) (fun x360 H358 w359 => vt_mv (fun _ _ => rfl)
 (vt_goto rfl
 (vt_iincA rfl h3 (fun hl361 => vt_gotoS rfl (fun m hm => (w359 m hm) _ (fl_lsn (by decide) h0) (fl_lsn (by decide) h1) (fl_lsn (by decide) h2) (fl_lse hl361))))))))))))) else if hs362 : fl_w (fl_and (xi xs (fl_w a3).toNat) 63) = 32 then vt_swk rfl (vt_sw_in (j := 32) (by omega) (by omega) (by omega) rfl) (vt_aload_n rfl h1 rfl
 (vt_aload_n rfl h0 rfl
 (vt_iload_n rfl h3
 (vt_iconst rfl
 (vt_iadd rfl
 (vt_iolx (l := xs) rfl rfl rfl (fun hf363 => vt_aload_n rfl h0 rfl
 (vt_iload_n rfl h3
 (vt_iconst rfl
 (vt_iadd rfl
 (vt_iolx (l := xs) rfl rfl rfl (fun hf364 => vt_aload_n rfl h0 rfl
 (vt_iload_n rfl h3
 (vt_iconst rfl
 (vt_iadd rfl
 (vt_iolx (l := xs) rfl rfl rfl (fun hf365 => vt_callV rfl rfl (fun _ => rfl) (fun m hm => vt_int (((((((W.2 hc1) hf2).2.2.2.2.2.2.2.2.2.2.2.2.2.2.2.2.2.2.2.2.2.2.2.2.2.2.2.2.2.2.2.2.1 hs362) hf363) hf364) hf365) m hm) (fun x368 H366 w367 => vt_mv (fun _ _ => rfl)
 (vt_aload_n rfl h2 rfl
 (vt_aload_n rfl h0 rfl
 (vt_iload_n rfl h3
 (vt_iconst rfl
 (vt_iadd rfl
 (vt_iolx (l := xs) rfl rfl rfl (fun hf369 => vt_aload_n rfl h0 rfl
 (vt_iload_n rfl h3
 (vt_iconst rfl
 (vt_iadd rfl
 (vt_iolx (l := xs) rfl rfl rfl (fun hf370 => vt_aload_n rfl h0 rfl
 (vt_iload_n rfl h3
 (vt_iconst rfl
 (vt_iadd rfl
 (vt_iolx (l := xs) rfl rfl rfl (fun hf371 => vt_callV rfl rfl (fun _ => rfl) (fun m hm => vt_int ((((w367 hf369) hf370) hf371) m hm) (fun x374 H372 w373 => vt_mv (fun _ _ => rfl)
 (vt_goto rfl
 (vt_iincA rfl h3 (fun hl375 => vt_gotoS rfl (fun m hm => (w373 m hm) _ (fl_lsn (by decide) h0) (fl_lsn (by decide) h1) (fl_lsn (by decide) h2) (fl_lse hl375))))))))))))))))))))))))))))))))))))))))))) else if hs376 : fl_w (fl_and (xi xs (fl_w a3).toNat) 63) = 33 then vt_swk rfl (vt_sw_in (j := 33) (by omega) (by omega) (by omega) rfl) (vt_aload_n rfl h1 rfl
 (vt_aload_n rfl h0 rfl
 (vt_iload_n rfl h3
 (vt_iconst rfl
 (vt_iadd rfl
 (vt_iolx (l := xs) rfl rfl rfl (fun hf377 => vt_callV rfl rfl (fun _ => rfl) (fun m hm => vt_int (((((W.2 hc1) hf2).2.2.2.2.2.2.2.2.2.2.2.2.2.2.2.2.2.2.2.2.2.2.2.2.2.2.2.2.2.2.2.2.2.1 hs376) hf377) m hm) (fun x380 H378 w379 => vt_mv (fun _ _ => rfl)
 (vt_aload_n rfl h2 rfl
 (vt_aload_n rfl h0 rfl
 (vt_iload_n rfl h3
 (vt_iconst rfl
 (vt_iadd rfl
 (vt_iolx (l := xs) rfl rfl rfl (fun hf381 => vt_callV rfl rfl (fun _ => rfl) (fun m hm => vt_int ((w379 hf381) m hm) (fun x384 H382 w383 => vt_mv (fun _ _ => rfl)
 (vt_goto rfl
 (vt_iincA rfl h3 (fun hl385 => vt_gotoS rfl (fun m hm => (w383 m hm) _ (fl_lsn (by decide) h0) (fl_lsn (by decide) h1) (fl_lsn (by decide) h2) (fl_lse hl385))))))))))))))))))))))) else if hs386 : fl_w (fl_and (xi xs (fl_w a3).toNat) 63) = 34 then vt_swk rfl (vt_sw_in (j := 34) (by omega) (by omega) (by omega) rfl) (vt_aload_n rfl h1 rfl
 (vt_aload_n rfl h0 rfl
 (vt_iload_n rfl h3
 (vt_iconst rfl
 (vt_iadd rfl
 (vt_iolx (l := xs) rfl rfl rfl (fun hf387 => vt_aload_n rfl h0 rfl
 (vt_iload_n rfl h3
 (vt_iconst rfl
 (vt_iadd rfl
 (vt_iolx (l := xs) rfl rfl rfl (fun hf388 => vt_aload_n rfl h0 rfl
 (vt_iload_n rfl h3
 (vt_iconst rfl
 (vt_iadd rfl
 (vt_iolx (l := xs) rfl rfl rfl (fun hf389 => vt_aload_n rfl h0 rfl
 (vt_iload_n rfl h3
 (vt_iconst rfl
 (vt_iadd rfl
 (vt_iolx (l := xs) rfl rfl rfl (fun hf390 => vt_callV rfl rfl (fun _ => rfl) (fun m hm => vt_int ((((((((W.2 hc1) hf2).2.2.2.2.2.2.2.2.2.2.2.2.2.2.2.2.2.2.2.2.2.2.2.2.2.2.2.2.2.2.2.2.2.2.1 hs386) hf387) hf388) hf389) hf390) m hm) (fun x393 H391 w392 => vt_mv (fun _ _ => rfl)
 (vt_aload_n rfl h2 rfl
 (vt_aload_n rfl h0 rfl
 (vt_iload_n rfl h3
 (vt_iconst rfl
 (vt_iadd rfl
 (vt_iolx (l := xs) rfl rfl rfl (fun hf394 => vt_aload_n rfl h0 rfl
 (vt_iload_n rfl h3
 (vt_iconst rfl
 (vt_iadd rfl
 (vt_iolx (l := xs) rfl rfl rfl (fun hf395 => vt_aload_n rfl h0 rfl
 (vt_iload_n rfl h3
 (vt_iconst rfl
 (vt_iadd rfl
 (vt_iolx (l := xs) rfl rfl rfl (fun hf396 => vt_aload_n rfl h0 rfl
 (vt_iload_n rfl h3
 (vt_iconst rfl
 (vt_iadd rfl
 (vt_iolx (l := xs) rfl rfl rfl (fun hf397 => vt_callV rfl rfl (fun _ => rfl) (fun m hm => vt_int (((((w392 hf394) hf395) hf396) hf397) m hm) (fun x400 H398 w399 => vt_mv (fun _ _ => rfl)
 (vt_goto rfl
 (vt_iincA rfl h3 (fun hl401 => vt_gotoS rfl (fun m hm => (w399 m hm) _ (fl_lsn (by decide) h0) (fl_lsn (by decide) h1) (fl_lsn (by decide) h2) (fl_lse hl401))))))))))))))))))))))))))))))))))))))))))))))))))))) else vt_swk rfl (vt_sw_out (by omega)) (vt_iincA rfl h3 (fun hl403 => vt_gotoS rfl (fun m hm => ((((W.2 hc1) hf2).2.2.2.2.2.2.2.2.2.2.2.2.2.2.2.2.2.2.2.2.2.2.2.2.2.2.2.2.2.2.2.2.2.2.2 (by omega)) m hm) _ (fl_lsn (by decide) h0) (fl_lsn (by decide) h1) (fl_lsn (by decide) h2) (fl_lse hl403)))))))))))))))
end
