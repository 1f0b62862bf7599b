set_option maxRecDepth 100000 in
theorem jx_1 : jm_okr (jm_exC 200 6 6 [.ref 0] (jm_new jm_H0 (16, 3, fun _ => none))) (fun H => H.1.length == 3) = true := by decide +kernel
set_option maxRecDepth 100000 in
theorem jx_2 : jm_okr (jm_exC 500 6 3 [.ref 0] (jm_new jm_H0 (12, 2, fun _ => none))) (fun H => H.1.length == 26) = true := by decide +kernel
