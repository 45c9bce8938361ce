/-! Every run of calls: both answer alike. -/
theorem lgood_all (L : Nat) (xs : Nat → Int32) (hL : L ≤ 256) : LGood L xs := lgood_of kp_all L xs
