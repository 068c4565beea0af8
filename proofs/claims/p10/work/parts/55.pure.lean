/-! LAYER 2, THE END: on every script the interpreter's run of the law answers 1. -/
theorem am_pure : cm_Pure :=
  am_pure_of2 (K := am_K0) (c := am_c0) (by decide +kernel) (by decide +kernel) (by decide +kernel) (fun x xs hx hxs r hr => am_all_hold hx hxs (by decide +kernel) am_hall 0 am_c0 rfl r hr)
