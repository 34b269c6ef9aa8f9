set_option maxRecDepth 100000 in
theorem kM76_a : (List.range 38).all (fun pc => okOp 76 pc (kM76 pc)) = true := by decide +kernel
theorem kM76_k : okMu 76 := ok_all (f := kM76) kM76_a (fun _ => rfl)
set_option maxRecDepth 100000 in
theorem kM77_a : (List.range 90).all (fun pc => okOp 77 pc (kM77 pc)) = true := by decide +kernel
theorem kM77_k : okMu 77 := ok_all (f := kM77) kM77_a (fun _ => rfl)
set_option maxRecDepth 100000 in
theorem kM78_a : (List.range 16).all (fun pc => okOp 78 pc (kM78 pc)) = true := by decide +kernel
theorem kM78_k : okMu 78 := ok_all (f := kM78) kM78_a (fun _ => rfl)
set_option maxRecDepth 100000 in
theorem kM79_a : (List.range 15).all (fun pc => okOp 79 pc (kM79 pc)) = true := by decide +kernel
theorem kM79_k : okMu 79 := ok_all (f := kM79) kM79_a (fun _ => rfl)
set_option maxRecDepth 100000 in
theorem kM80_a : (List.range 46).all (fun pc => okOp 80 pc (kM80 pc)) = true := by decide +kernel
theorem kM80_k : okMu 80 := ok_all (f := kM80) kM80_a (fun _ => rfl)
set_option maxRecDepth 100000 in
theorem kM81_a : (List.range 40).all (fun pc => okOp 81 pc (kM81 pc)) = true := by decide +kernel
theorem kM81_k : okMu 81 := ok_all (f := kM81) kM81_a (fun _ => rfl)
set_option maxRecDepth 100000 in
theorem kM82_a : (List.range 97).all (fun pc => okOp 82 pc (kM82 pc)) = true := by decide +kernel
theorem kM82_k : okMu 82 := ok_all (f := kM82) kM82_a (fun _ => rfl)
set_option maxRecDepth 100000 in
theorem kM83_a : (List.range 29).all (fun pc => okOp 83 pc (kM83 pc)) = true := by decide +kernel
theorem kM83_k : okMu 83 := ok_all (f := kM83) kM83_a (fun _ => rfl)
set_option maxRecDepth 100000 in
theorem kM84_a : (List.range 40).all (fun pc => okOp 84 pc (kM84 pc)) = true := by decide +kernel
theorem kM84_k : okMu 84 := ok_all (f := kM84) kM84_a (fun _ => rfl)
set_option maxRecDepth 100000 in
theorem kM85_a : (List.range 85).all (fun pc => okOp 85 pc (kM85 pc)) = true := by decide +kernel
theorem kM85_k : okMu 85 := ok_all (f := kM85) kM85_a (fun _ => rfl)
set_option maxRecDepth 100000 in
theorem kM86_a : (List.range 116).all (fun pc => okOp 86 pc (kM86 pc)) = true := by decide +kernel
theorem kM86_k : okMu 86 := ok_all (f := kM86) kM86_a (fun _ => rfl)
set_option maxRecDepth 100000 in
theorem kM87_a : (List.range 21).all (fun pc => okOp 87 pc (kM87 pc)) = true := by decide +kernel
theorem kM87_k : okMu 87 := ok_all (f := kM87) kM87_a (fun _ => rfl)
set_option maxRecDepth 100000 in
theorem kM88_a : (List.range 116).all (fun pc => okOp 88 pc (kM88 pc)) = true := by decide +kernel
theorem kM88_k : okMu 88 := ok_all (f := kM88) kM88_a (fun _ => rfl)
set_option maxRecDepth 100000 in
theorem kM89_a : (List.range 26).all (fun pc => okOp 89 pc (kM89 pc)) = true := by decide +kernel
theorem kM89_k : okMu 89 := ok_all (f := kM89) kM89_a (fun _ => rfl)
set_option maxRecDepth 100000 in
theorem kM90_a : (List.range 131).all (fun pc => okOp 90 pc (kM90 pc)) = true := by decide +kernel
theorem kM90_k : okMu 90 := ok_all (f := kM90) kM90_a (fun _ => rfl)
set_option maxRecDepth 100000 in
theorem kM91_a : (List.range 45).all (fun pc => okOp 91 pc (kM91 pc)) = true := by decide +kernel
theorem kM91_k : okMu 91 := ok_all (f := kM91) kM91_a (fun _ => rfl)
set_option maxRecDepth 100000 in
theorem kM92_a : (List.range 17).all (fun pc => okOp 92 pc (kM92 pc)) = true := by decide +kernel
theorem kM92_k : okMu 92 := ok_all (f := kM92) kM92_a (fun _ => rfl)
set_option maxRecDepth 100000 in
theorem kM93_a : (List.range 107).all (fun pc => okOp 93 pc (kM93 pc)) = true := by decide +kernel
theorem kM93_k : okMu 93 := ok_all (f := kM93) kM93_a (fun _ => rfl)
set_option maxRecDepth 100000 in
theorem kM94_a : (List.range 29).all (fun pc => okOp 94 pc (kM94 pc)) = true := by decide +kernel
theorem kM94_k : okMu 94 := ok_all (f := kM94) kM94_a (fun _ => rfl)
set_option maxRecDepth 100000 in
theorem kM95_a : (List.range 68).all (fun pc => okOp 95 pc (kM95 pc)) = true := by decide +kernel
theorem kM95_k : okMu 95 := ok_all (f := kM95) kM95_a (fun _ => rfl)
set_option maxRecDepth 100000 in
theorem kM96_a : (List.range 32).all (fun pc => okOp 96 pc (kM96 pc)) = true := by decide +kernel
theorem kM96_k : okMu 96 := ok_all (f := kM96) kM96_a (fun _ => rfl)
set_option maxRecDepth 100000 in
theorem kM97_a : (List.range 55).all (fun pc => okOp 97 pc (kM97 pc)) = true := by decide +kernel
theorem kM97_k : okMu 97 := ok_all (f := kM97) kM97_a (fun _ => rfl)
set_option maxRecDepth 100000 in
theorem kM98_a : (List.range 11).all (fun pc => okOp 98 pc (kM98 pc)) = true := by decide +kernel
theorem kM98_k : okMu 98 := ok_all (f := kM98) kM98_a (fun _ => rfl)
set_option maxRecDepth 100000 in
theorem kM99_a : (List.range 108).all (fun pc => okOp 99 pc (kM99 pc)) = true := by decide +kernel
theorem kM99_k : okMu 99 := ok_all (f := kM99) kM99_a (fun _ => rfl)
set_option maxRecDepth 100000 in
theorem kM100_a : (List.range 26).all (fun pc => okOp 100 pc (kM100 pc)) = true := by decide +kernel
theorem kM100_k : okMu 100 := ok_all (f := kM100) kM100_a (fun _ => rfl)
set_option maxRecDepth 100000 in
theorem kM101_a : (List.range 116).all (fun pc => okOp 101 pc (kM101 pc)) = true := by decide +kernel
theorem kM101_k : okMu 101 := ok_all (f := kM101) kM101_a (fun _ => rfl)
set_option maxRecDepth 100000 in
theorem kM102_a : (List.range 231).all (fun pc => okOp 102 pc (kM102 pc)) = true := by decide +kernel
theorem kM102_k : okMu 102 := ok_all (f := kM102) kM102_a (fun _ => rfl)
set_option maxRecDepth 100000 in
theorem kM103_a : (List.range 94).all (fun pc => okOp 103 pc (kM103 pc)) = true := by decide +kernel
theorem kM103_k : okMu 103 := ok_all (f := kM103) kM103_a (fun _ => rfl)
set_option maxRecDepth 100000 in
theorem kM104_a : (List.range 32).all (fun pc => okOp 104 pc (kM104 pc)) = true := by decide +kernel
theorem kM104_k : okMu 104 := ok_all (f := kM104) kM104_a (fun _ => rfl)
set_option maxRecDepth 100000 in
theorem kM105_a : (List.range 31).all (fun pc => okOp 105 pc (kM105 pc)) = true := by decide +kernel
theorem kM105_k : okMu 105 := ok_all (f := kM105) kM105_a (fun _ => rfl)
set_option maxRecDepth 100000 in
theorem kM106_a : (List.range 37).all (fun pc => okOp 106 pc (kM106 pc)) = true := by decide +kernel
theorem kM106_k : okMu 106 := ok_all (f := kM106) kM106_a (fun _ => rfl)
set_option maxRecDepth 100000 in
theorem kM107_a : (List.range 16).all (fun pc => okOp 107 pc (kM107 pc)) = true := by decide +kernel
theorem kM107_k : okMu 107 := ok_all (f := kM107) kM107_a (fun _ => rfl)
set_option maxRecDepth 100000 in
theorem kM108_a : (List.range 31).all (fun pc => okOp 108 pc (kM108 pc)) = true := by decide +kernel
theorem kM108_k : okMu 108 := ok_all (f := kM108) kM108_a (fun _ => rfl)
set_option maxRecDepth 100000 in
theorem kM109_a : (List.range 133).all (fun pc => okOp 109 pc (kM109 pc)) = true := by decide +kernel
theorem kM109_k : okMu 109 := ok_all (f := kM109) kM109_a (fun _ => rfl)
set_option maxRecDepth 100000 in
theorem kM110_a : (List.range 53).all (fun pc => okOp 110 pc (kM110 pc)) = true := by decide +kernel
theorem kM110_k : okMu 110 := ok_all (f := kM110) kM110_a (fun _ => rfl)
set_option maxRecDepth 100000 in
theorem kM111_a : (List.range 65).all (fun pc => okOp 111 pc (kM111 pc)) = true := by decide +kernel
theorem kM111_k : okMu 111 := ok_all (f := kM111) kM111_a (fun _ => rfl)
set_option maxRecDepth 100000 in
theorem kM112_a : (List.range 39).all (fun pc => okOp 112 pc (kM112 pc)) = true := by decide +kernel
theorem kM112_k : okMu 112 := ok_all (f := kM112) kM112_a (fun _ => rfl)
set_option maxRecDepth 100000 in
theorem kM113_a : (List.range 71).all (fun pc => okOp 113 pc (kM113 pc)) = true := by decide +kernel
theorem kM113_k : okMu 113 := ok_all (f := kM113) kM113_a (fun _ => rfl)
set_option maxRecDepth 100000 in
theorem kM114_a : (List.range 20).all (fun pc => okOp 114 pc (kM114 pc)) = true := by decide +kernel
theorem kM114_k : okMu 114 := ok_all (f := kM114) kM114_a (fun _ => rfl)
set_option maxRecDepth 100000 in
theorem kM115_a : (List.range 60).all (fun pc => okOp 115 pc (kM115 pc)) = true := by decide +kernel
theorem kM115_k : okMu 115 := ok_all (f := kM115) kM115_a (fun _ => rfl)
set_option maxRecDepth 100000 in
theorem kM116_a : (List.range 83).all (fun pc => okOp 116 pc (kM116 pc)) = true := by decide +kernel
theorem kM116_k : okMu 116 := ok_all (f := kM116) kM116_a (fun _ => rfl)
set_option maxRecDepth 100000 in
theorem kM117_a : (List.range 81).all (fun pc => okOp 117 pc (kM117 pc)) = true := by decide +kernel
theorem kM117_k : okMu 117 := ok_all (f := kM117) kM117_a (fun _ => rfl)
set_option maxRecDepth 100000 in
theorem kM118_a : (List.range 132).all (fun pc => okOp 118 pc (kM118 pc)) = true := by decide +kernel
theorem kM118_k : okMu 118 := ok_all (f := kM118) kM118_a (fun _ => rfl)
set_option maxRecDepth 100000 in
theorem kM119_a : (List.range 32).all (fun pc => okOp 119 pc (kM119 pc)) = true := by decide +kernel
theorem kM119_k : okMu 119 := ok_all (f := kM119) kM119_a (fun _ => rfl)
set_option maxRecDepth 100000 in
theorem kM120_a : (List.range 20).all (fun pc => okOp 120 pc (kM120 pc)) = true := by decide +kernel
theorem kM120_k : okMu 120 := ok_all (f := kM120) kM120_a (fun _ => rfl)
set_option maxRecDepth 100000 in
theorem kM121_a : (List.range 121).all (fun pc => okOp 121 pc (kM121 pc)) = true := by decide +kernel
theorem kM121_k : okMu 121 := ok_all (f := kM121) kM121_a (fun _ => rfl)
set_option maxRecDepth 100000 in
theorem kM122_a : (List.range 103).all (fun pc => okOp 122 pc (kM122 pc)) = true := by decide +kernel
theorem kM122_k : okMu 122 := ok_all (f := kM122) kM122_a (fun _ => rfl)
set_option maxRecDepth 100000 in
theorem kM123_a : (List.range 18).all (fun pc => okOp 123 pc (kM123 pc)) = true := by decide +kernel
theorem kM123_k : okMu 123 := ok_all (f := kM123) kM123_a (fun _ => rfl)
set_option maxRecDepth 100000 in
theorem kM124_a : (List.range 125).all (fun pc => okOp 124 pc (kM124 pc)) = true := by decide +kernel
theorem kM124_k : okMu 124 := ok_all (f := kM124) kM124_a (fun _ => rfl)
set_option maxRecDepth 100000 in
theorem kM125_a : (List.range 124).all (fun pc => okOp 125 pc (kM125 pc)) = true := by decide +kernel
theorem kM125_k : okMu 125 := ok_all (f := kM125) kM125_a (fun _ => rfl)
set_option maxRecDepth 100000 in
theorem kM126_a : (List.range 47).all (fun pc => okOp 126 pc (kM126 pc)) = true := by decide +kernel
theorem kM126_k : okMu 126 := ok_all (f := kM126) kM126_a (fun _ => rfl)
set_option maxRecDepth 100000 in
theorem kM127_a : (List.range 148).all (fun pc => okOp 127 pc (kM127 pc)) = true := by decide +kernel
theorem kM127_k : okMu 127 := ok_all (f := kM127) kM127_a (fun _ => rfl)
set_option maxRecDepth 100000 in
theorem kM128_a : (List.range 36).all (fun pc => okOp 128 pc (kM128 pc)) = true := by decide +kernel
theorem kM128_k : okMu 128 := ok_all (f := kM128) kM128_a (fun _ => rfl)
set_option maxRecDepth 100000 in
theorem kM129_a : (List.range 64).all (fun pc => okOp 129 pc (kM129 pc)) = true := by decide +kernel
theorem kM129_k : okMu 129 := ok_all (f := kM129) kM129_a (fun _ => rfl)
set_option maxRecDepth 100000 in
theorem kM130_a : (List.range 48).all (fun pc => okOp 130 pc (kM130 pc)) = true := by decide +kernel
theorem kM130_k : okMu 130 := ok_all (f := kM130) kM130_a (fun _ => rfl)
set_option maxRecDepth 100000 in
theorem kM131_a : (List.range 47).all (fun pc => okOp 131 pc (kM131 pc)) = true := by decide +kernel
theorem kM131_k : okMu 131 := ok_all (f := kM131) kM131_a (fun _ => rfl)
set_option maxRecDepth 100000 in
theorem kM132_a : (List.range 43).all (fun pc => okOp 132 pc (kM132 pc)) = true := by decide +kernel
theorem kM132_k : okMu 132 := ok_all (f := kM132) kM132_a (fun _ => rfl)
set_option maxRecDepth 100000 in
theorem kM133_a : (List.range 69).all (fun pc => okOp 133 pc (kM133 pc)) = true := by decide +kernel
theorem kM133_k : okMu 133 := ok_all (f := kM133) kM133_a (fun _ => rfl)
set_option maxRecDepth 100000 in
theorem kM134_a : (List.range 53).all (fun pc => okOp 134 pc (kM134 pc)) = true := by decide +kernel
theorem kM134_k : okMu 134 := ok_all (f := kM134) kM134_a (fun _ => rfl)
set_option maxRecDepth 100000 in
theorem kM135_a : (List.range 78).all (fun pc => okOp 135 pc (kM135 pc)) = true := by decide +kernel
theorem kM135_k : okMu 135 := ok_all (f := kM135) kM135_a (fun _ => rfl)
set_option maxRecDepth 100000 in
theorem kM136_a : (List.range 63).all (fun pc => okOp 136 pc (kM136 pc)) = true := by decide +kernel
theorem kM136_k : okMu 136 := ok_all (f := kM136) kM136_a (fun _ => rfl)
set_option maxRecDepth 100000 in
theorem kM137_a : (List.range 115).all (fun pc => okOp 137 pc (kM137 pc)) = true := by decide +kernel
theorem kM137_k : okMu 137 := ok_all (f := kM137) kM137_a (fun _ => rfl)
set_option maxRecDepth 100000 in
theorem kM138_a : (List.range 38).all (fun pc => okOp 138 pc (kM138 pc)) = true := by decide +kernel
theorem kM138_k : okMu 138 := ok_all (f := kM138) kM138_a (fun _ => rfl)
set_option maxRecDepth 100000 in
theorem kM139_a : (List.range 72).all (fun pc => okOp 139 pc (kM139 pc)) = true := by decide +kernel
theorem kM139_k : okMu 139 := ok_all (f := kM139) kM139_a (fun _ => rfl)
set_option maxRecDepth 100000 in
theorem kM140_a : (List.range 187).all (fun pc => okOp 140 pc (kM140 pc)) = true := by decide +kernel
theorem kM140_k : okMu 140 := ok_all (f := kM140) kM140_a (fun _ => rfl)
set_option maxRecDepth 100000 in
theorem kM141_a : (List.range 98).all (fun pc => okOp 141 pc (kM141 pc)) = true := by decide +kernel
theorem kM141_k : okMu 141 := ok_all (f := kM141) kM141_a (fun _ => rfl)
set_option maxRecDepth 100000 in
theorem kM142_a : (List.range 95).all (fun pc => okOp 142 pc (kM142 pc)) = true := by decide +kernel
theorem kM142_k : okMu 142 := ok_all (f := kM142) kM142_a (fun _ => rfl)
set_option maxRecDepth 100000 in
theorem kM143_a : (List.range 70).all (fun pc => okOp 143 pc (kM143 pc)) = true := by decide +kernel
theorem kM143_k : okMu 143 := ok_all (f := kM143) kM143_a (fun _ => rfl)
set_option maxRecDepth 100000 in
theorem kM144_a : (List.range 239).all (fun pc => okOp 144 pc (kM144 pc)) = true := by decide +kernel
theorem kM144_k : okMu 144 := ok_all (f := kM144) kM144_a (fun _ => rfl)
set_option maxRecDepth 100000 in
theorem kM145_a : (List.range 61).all (fun pc => okOp 145 pc (kM145 pc)) = true := by decide +kernel
theorem kM145_k : okMu 145 := ok_all (f := kM145) kM145_a (fun _ => rfl)
set_option maxRecDepth 100000 in
theorem kM146_a : (List.range 61).all (fun pc => okOp 146 pc (kM146 pc)) = true := by decide +kernel
theorem kM146_k : okMu 146 := ok_all (f := kM146) kM146_a (fun _ => rfl)
set_option maxRecDepth 100000 in
theorem kM147_a : (List.range 57).all (fun pc => okOp 147 pc (kM147 pc)) = true := by decide +kernel
theorem kM147_k : okMu 147 := ok_all (f := kM147) kM147_a (fun _ => rfl)
set_option maxRecDepth 100000 in
theorem kM148_a : (List.range 53).all (fun pc => okOp 148 pc (kM148 pc)) = true := by decide +kernel
theorem kM148_k : okMu 148 := ok_all (f := kM148) kM148_a (fun _ => rfl)
set_option maxRecDepth 100000 in
theorem kM149_a : (List.range 78).all (fun pc => okOp 149 pc (kM149 pc)) = true := by decide +kernel
theorem kM149_k : okMu 149 := ok_all (f := kM149) kM149_a (fun _ => rfl)
set_option maxRecDepth 100000 in
theorem kM150_a : (List.range 19).all (fun pc => okOp 150 pc (kM150 pc)) = true := by decide +kernel
theorem kM150_k : okMu 150 := ok_all (f := kM150) kM150_a (fun _ => rfl)
set_option maxRecDepth 100000 in
theorem kM151_a : (List.range 99).all (fun pc => okOp 151 pc (kM151 pc)) = true := by decide +kernel
theorem kM151_k : okMu 151 := ok_all (f := kM151) kM151_a (fun _ => rfl)
theorem ok_to95 : ∀ mu, mu < 95 → okMu mu := (ok_s (ok_s (ok_s (ok_s (ok_s (ok_s (ok_s (ok_s (ok_s (ok_s (ok_s (ok_s (ok_s (ok_s (ok_s (ok_s (ok_s (ok_s (ok_s ok_to76 kM76_k) kM77_k) kM78_k) kM79_k) kM80_k) kM81_k) kM82_k) kM83_k) kM84_k) kM85_k) kM86_k) kM87_k) kM88_k) kM89_k) kM90_k) kM91_k) kM92_k) kM93_k) kM94_k)
theorem ok_to114 : ∀ mu, mu < 114 → okMu mu := (ok_s (ok_s (ok_s (ok_s (ok_s (ok_s (ok_s (ok_s (ok_s (ok_s (ok_s (ok_s (ok_s (ok_s (ok_s (ok_s (ok_s (ok_s (ok_s ok_to95 kM95_k) kM96_k) kM97_k) kM98_k) kM99_k) kM100_k) kM101_k) kM102_k) kM103_k) kM104_k) kM105_k) kM106_k) kM107_k) kM108_k) kM109_k) kM110_k) kM111_k) kM112_k) kM113_k)
theorem ok_to133 : ∀ mu, mu < 133 → okMu mu := (ok_s (ok_s (ok_s (ok_s (ok_s (ok_s (ok_s (ok_s (ok_s (ok_s (ok_s (ok_s (ok_s (ok_s (ok_s (ok_s (ok_s (ok_s (ok_s ok_to114 kM114_k) kM115_k) kM116_k) kM117_k) kM118_k) kM119_k) kM120_k) kM121_k) kM122_k) kM123_k) kM124_k) kM125_k) kM126_k) kM127_k) kM128_k) kM129_k) kM130_k) kM131_k) kM132_k)
theorem ok_to152 : ∀ mu, mu < 152 → okMu mu := (ok_s (ok_s (ok_s (ok_s (ok_s (ok_s (ok_s (ok_s (ok_s (ok_s (ok_s (ok_s (ok_s (ok_s (ok_s (ok_s (ok_s (ok_s (ok_s ok_to133 kM133_k) kM134_k) kM135_k) kM136_k) kM137_k) kM138_k) kM139_k) kM140_k) kM141_k) kM142_k) kM143_k) kM144_k) kM145_k) kM146_k) kM147_k) kM148_k) kM149_k) kM150_k) kM151_k)
