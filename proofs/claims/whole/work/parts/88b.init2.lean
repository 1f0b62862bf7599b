/-! One more zero behind the constructors. -/
set_option maxRecDepth 100000 in
theorem jm_i0g : jm_i0 (fun H => H.2.1 63 2 == 0) = true := by decide +kernel
