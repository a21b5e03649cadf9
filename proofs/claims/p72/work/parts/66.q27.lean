def hb_q1534 : hbQ := hb_q1532
theorem hb_m1534 : hb_Met hb_G hb_q1534 := hb_m1532
