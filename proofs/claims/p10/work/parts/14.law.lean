theorem cm_cchk_app {K : cm_K} {bytes : ByteArray} {own nm : String} : ∀ {a c : List (List (Option cm_I))} {j : Nat}, cm_cchk K bytes own nm j a = true → cm_cchk K bytes own nm (j + a.length) c = true → cm_cchk K bytes own nm j (a ++ c) = true
  | [], c, j, _, h => h
  | l :: a, c, j, h1, h2 => by
    unfold cm_cchk at h1
    rw [Bool.and_eq_true] at h1
    have h3 := cm_cchk_app (a := a) (c := c) (j := j + 1) h1.2 (by rw [show j + 1 + a.length = j + (l :: a).length by simp; omega]; exact h2)
    show (decide (l.length ≤ 16) && cm_lchk K bytes own nm (16 * j) l && cm_cchk K bytes own nm (j + 1) (a ++ c)) = true
    rw [h3, h1.1]
    rfl
theorem cm_lk0 : cm_cchk cm_Kk code "GoodsBookLaw" "law" 0 cm_lw0 = true := by decide +kernel
theorem cm_lk1 : cm_cchk cm_Kk code "GoodsBookLaw" "law" 3 cm_lw1 = true := by decide +kernel
theorem cm_lk2 : cm_cchk cm_Kk code "GoodsBookLaw" "law" 6 cm_lw2 = true := by decide +kernel
theorem cm_lk3 : cm_cchk cm_Kk code "GoodsBookLaw" "law" 9 cm_lw3 = true := by decide +kernel
theorem cm_lk4 : cm_cchk cm_Kk code "GoodsBookLaw" "law" 12 cm_lw4 = true := by decide +kernel
theorem cm_lk5 : cm_cchk cm_Kk code "GoodsBookLaw" "law" 15 cm_lw5 = true := by decide +kernel
theorem cm_lk6 : cm_cchk cm_Kk code "GoodsBookLaw" "law" 18 cm_lw6 = true := by decide +kernel
theorem cm_lk7 : cm_cchk cm_Kk code "GoodsBookLaw" "law" 21 cm_lw7 = true := by decide +kernel
theorem cm_lk8 : cm_cchk cm_Kk code "GoodsBookLaw" "law" 24 cm_lw8 = true := by decide +kernel
theorem cm_lk9 : cm_cchk cm_Kk code "GoodsBookLaw" "law" 27 cm_lw9 = true := by decide +kernel
theorem cm_lk10 : cm_cchk cm_Kk code "GoodsBookLaw" "law" 30 cm_lw10 = true := by decide +kernel
theorem cm_lk11 : cm_cchk cm_Kk code "GoodsBookLaw" "law" 33 cm_lw11 = true := by decide +kernel
theorem cm_lk12 : cm_cchk cm_Kk code "GoodsBookLaw" "law" 36 cm_lw12 = true := by decide +kernel
theorem cm_lk13 : cm_cchk cm_Kk code "GoodsBookLaw" "law" 39 cm_lw13 = true := by decide +kernel
theorem cm_lk14 : cm_cchk cm_Kk code "GoodsBookLaw" "law" 42 cm_lw14 = true := by decide +kernel
theorem cm_lk15 : cm_cchk cm_Kk code "GoodsBookLaw" "law" 45 cm_lw15 = true := by decide +kernel
theorem cm_lk16 : cm_cchk cm_Kk code "GoodsBookLaw" "law" 48 cm_lw16 = true := by decide +kernel
theorem cm_lk17 : cm_cchk cm_Kk code "GoodsBookLaw" "law" 51 cm_lw17 = true := by decide +kernel
theorem cm_lk18 : cm_cchk cm_Kk code "GoodsBookLaw" "law" 54 cm_lw18 = true := by decide +kernel
theorem cm_lk19 : cm_cchk cm_Kk code "GoodsBookLaw" "law" 57 cm_lw19 = true := by decide +kernel
theorem cm_lk20 : cm_cchk cm_Kk code "GoodsBookLaw" "law" 60 cm_lw20 = true := by decide +kernel
theorem cm_lk21 : cm_cchk cm_Kk code "GoodsBookLaw" "law" 63 cm_lw21 = true := by decide +kernel
theorem cm_lk22 : cm_cchk cm_Kk code "GoodsBookLaw" "law" 66 cm_lw22 = true := by decide +kernel
theorem cm_lk23 : cm_cchk cm_Kk code "GoodsBookLaw" "law" 69 cm_lw23 = true := by decide +kernel
theorem cm_lk24 : cm_cchk cm_Kk code "GoodsBookLaw" "law" 72 cm_lw24 = true := by decide +kernel
theorem cm_lk25 : cm_cchk cm_Kk code "GoodsBookLaw" "law" 75 cm_lw25 = true := by decide +kernel
theorem cm_lk26 : cm_cchk cm_Kk code "GoodsBookLaw" "law" 78 cm_lw26 = true := by decide +kernel
theorem cm_k252 : cm_mok cm_Kk cm_m252 cm_n252 0 = true := by
  unfold cm_mok
  rw [show cm_cchk cm_Kk cm_n252.2.1 cm_n252.2.2 cm_n252.1.name 0 cm_m252.1 = true from cm_cchk_app cm_lk0 (cm_cchk_app cm_lk1 (cm_cchk_app cm_lk2 (cm_cchk_app cm_lk3 (cm_cchk_app cm_lk4 (cm_cchk_app cm_lk5 (cm_cchk_app cm_lk6 (cm_cchk_app cm_lk7 (cm_cchk_app cm_lk8 (cm_cchk_app cm_lk9 (cm_cchk_app cm_lk10 (cm_cchk_app cm_lk11 (cm_cchk_app cm_lk12 (cm_cchk_app cm_lk13 (cm_cchk_app cm_lk14 (cm_cchk_app cm_lk15 (cm_cchk_app cm_lk16 (cm_cchk_app cm_lk17 (cm_cchk_app cm_lk18 (cm_cchk_app cm_lk19 (cm_cchk_app cm_lk20 (cm_cchk_app cm_lk21 (cm_cchk_app cm_lk22 (cm_cchk_app cm_lk23 (cm_cchk_app cm_lk24 (cm_cchk_app cm_lk25 (cm_lk26))))))))))))))))))))))))))]
  decide +kernel
