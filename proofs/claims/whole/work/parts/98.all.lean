/-! all of it -/
theorem jy_all {L : Nat} {xs : Nat → Int32} (hL : L ≤ 3072) : jd_owes L xs := jy_owes jy_p0 jy_p1 jy_p2 jy_p3 jy_p4 jy_p5 jy_p6 jy_p7 jy_p8 jy_p9 jy_p10 jy_p11 jy_p12 jy_p13 jy_p14 jy_p15 jy_p16 jy_p17 jy_p18 jy_p19 jy_p20 jy_p21 jy_p22 jy_p23 jy_p24 jy_p25 jy_p26 jy_p27 jy_p28 jy_p29 jy_p30 jy_p31 jy_p32 jy_p33 jy_p34 jy_p35 hL
