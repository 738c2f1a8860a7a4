def q_rng (m lo n : Nat) : Bool := q_all n (fun i => q_row m (lo + i))
theorem d_175_0 : q_rng 175 0 60 = true := by decide +kernel
theorem d_175_1 : q_rng 175 60 60 = true := by decide +kernel
theorem d_175_2 : q_rng 175 120 60 = true := by decide +kernel
theorem d_175_3 : q_rng 175 180 60 = true := by decide +kernel
theorem d_175_4 : q_rng 175 240 60 = true := by decide +kernel
theorem d_175_5 : q_rng 175 300 60 = true := by decide +kernel
theorem d_175_6 : q_rng 175 360 60 = true := by decide +kernel
theorem d_175_7 : q_rng 175 420 60 = true := by decide +kernel
theorem d_175_8 : q_rng 175 480 60 = true := by decide +kernel
theorem d_175_9 : q_rng 175 540 60 = true := by decide +kernel
theorem d_175_10 : q_rng 175 600 60 = true := by decide +kernel
