theorem dJ9_min_7cf53_6 : decode cJ9_min_7cf53 6 = .ok (.goto 4, 3) := by decide +kernel
theorem dJ9_min_7cf53_9 : decode cJ9_min_7cf53 9 = .ok (.iload_n 1, 1) := by decide +kernel
theorem dJ9_min_7cf53_10 : decode cJ9_min_7cf53 10 = .ok (.ireturn, 1) := by decide +kernel
abbrev vwCl : List vw_C := [(RX0, TX0, 5), (RX1, TX1, 4), (RX2, TX2, 3), (RX3, TX3, 3), (RX4, TX4, 6), (RX5, TX5, 4), (RX6, TX6, 6), (RX7, TX7, 4), (RX8, TX8, 7), (RX10, TX10, 12), (RX11, TX11, 39)]
