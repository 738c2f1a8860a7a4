theorem d_175_11 : q_rng 175 660 60 = true := by decide +kernel
theorem d_175_12 : q_rng 175 720 60 = true := by decide +kernel
theorem d_175_13 : q_rng 175 780 60 = true := by decide +kernel
theorem d_175_14 : q_rng 175 840 60 = true := by decide +kernel
theorem d_175_15 : q_rng 175 900 60 = true := by decide +kernel
theorem d_175_16 : q_rng 175 960 60 = true := by decide +kernel
theorem d_175_17 : q_rng 175 1020 60 = true := by decide +kernel
theorem d_175_18 : q_rng 175 1080 60 = true := by decide +kernel
theorem d_175_19 : q_rng 175 1140 60 = true := by decide +kernel
theorem d_175_20 : q_rng 175 1200 3 = true := by decide +kernel
theorem d_175 : q_ckm 175 = true := by
  have hs : q_sz 175 = 1203 := by decide +kernel
  unfold q_ckm q_all
  rw [hs]
  refine List.all_eq_true.mpr ?_
  intro pc h
  have hp : pc < 1203 := List.mem_range.mp h
  by_cases h0 : pc < 60
  · have e := q_all_of d_175_0 (pc - 0) (by omega)
    rw [show 0 + (pc - 0) = pc by omega] at e
    exact e
  by_cases h60 : pc < 120
  · have e := q_all_of d_175_1 (pc - 60) (by omega)
    rw [show 60 + (pc - 60) = pc by omega] at e
    exact e
  by_cases h120 : pc < 180
  · have e := q_all_of d_175_2 (pc - 120) (by omega)
    rw [show 120 + (pc - 120) = pc by omega] at e
    exact e
  by_cases h180 : pc < 240
  · have e := q_all_of d_175_3 (pc - 180) (by omega)
    rw [show 180 + (pc - 180) = pc by omega] at e
    exact e
  by_cases h240 : pc < 300
  · have e := q_all_of d_175_4 (pc - 240) (by omega)
    rw [show 240 + (pc - 240) = pc by omega] at e
    exact e
  by_cases h300 : pc < 360
  · have e := q_all_of d_175_5 (pc - 300) (by omega)
    rw [show 300 + (pc - 300) = pc by omega] at e
    exact e
  by_cases h360 : pc < 420
  · have e := q_all_of d_175_6 (pc - 360) (by omega)
    rw [show 360 + (pc - 360) = pc by omega] at e
    exact e
  by_cases h420 : pc < 480
  · have e := q_all_of d_175_7 (pc - 420) (by omega)
    rw [show 420 + (pc - 420) = pc by omega] at e
    exact e
  by_cases h480 : pc < 540
  · have e := q_all_of d_175_8 (pc - 480) (by omega)
    rw [show 480 + (pc - 480) = pc by omega] at e
    exact e
  by_cases h540 : pc < 600
  · have e := q_all_of d_175_9 (pc - 540) (by omega)
    rw [show 540 + (pc - 540) = pc by omega] at e
    exact e
  by_cases h600 : pc < 660
  · have e := q_all_of d_175_10 (pc - 600) (by omega)
    rw [show 600 + (pc - 600) = pc by omega] at e
    exact e
  by_cases h660 : pc < 720
  · have e := q_all_of d_175_11 (pc - 660) (by omega)
    rw [show 660 + (pc - 660) = pc by omega] at e
    exact e
  by_cases h720 : pc < 780
  · have e := q_all_of d_175_12 (pc - 720) (by omega)
    rw [show 720 + (pc - 720) = pc by omega] at e
    exact e
  by_cases h780 : pc < 840
  · have e := q_all_of d_175_13 (pc - 780) (by omega)
    rw [show 780 + (pc - 780) = pc by omega] at e
    exact e
  by_cases h840 : pc < 900
  · have e := q_all_of d_175_14 (pc - 840) (by omega)
    rw [show 840 + (pc - 840) = pc by omega] at e
    exact e
  by_cases h900 : pc < 960
  · have e := q_all_of d_175_15 (pc - 900) (by omega)
    rw [show 900 + (pc - 900) = pc by omega] at e
    exact e
  by_cases h960 : pc < 1020
  · have e := q_all_of d_175_16 (pc - 960) (by omega)
    rw [show 960 + (pc - 960) = pc by omega] at e
    exact e
  by_cases h1020 : pc < 1080
  · have e := q_all_of d_175_17 (pc - 1020) (by omega)
    rw [show 1020 + (pc - 1020) = pc by omega] at e
    exact e
  by_cases h1080 : pc < 1140
  · have e := q_all_of d_175_18 (pc - 1080) (by omega)
    rw [show 1080 + (pc - 1080) = pc by omega] at e
    exact e
  by_cases h1140 : pc < 1200
  · have e := q_all_of d_175_19 (pc - 1140) (by omega)
    rw [show 1140 + (pc - 1140) = pc by omega] at e
    exact e
  by_cases h1200 : pc < 1203
  · have e := q_all_of d_175_20 (pc - 1200) (by omega)
    rw [show 1200 + (pc - 1200) = pc by omega] at e
    exact e
  omega
