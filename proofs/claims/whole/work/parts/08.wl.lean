theorem w_X11_127 : CW RX11 127 yX11_within cX11_within 3 3 (some .boolean) := ⟨qw_931, qw_76, qw_929, by decide +kernel, by decide +kernel, by decide +kernel⟩
theorem w_X11_134 : CW RX11 134 yX11_isNote cX11_isNote 2 1 (some .boolean) := ⟨qw_1163, qw_76, qw_1160, by decide +kernel, by decide +kernel, by decide +kernel⟩
theorem w_X11_138 : CW RX11 138 yX11_isPerson cX11_isPerson 2 1 (some .boolean) := ⟨qw_1167, qw_76, qw_1164, by decide +kernel, by decide +kernel, by decide +kernel⟩
theorem w_X7_54 : CW RX7 54 yJ9_max_7cf53 cJ9_max_7cf53 2 2 (some .int) := ⟨qw_625, qw_77, qw_623, by decide +kernel, by decide +kernel, by decide +kernel⟩
theorem w_X8_59 : CW RX8 59 yX1_comesIn cX1_comesIn 3 1 (some .boolean) := ⟨qw_705, qw_63, qw_857, by decide +kernel, by decide +kernel, by decide +kernel⟩
