set_option maxRecDepth 100000 in
theorem kM152_a : (List.range 32).all (fun pc => okOp 152 pc (kM152 pc)) = true := by decide +kernel
theorem kM152_k : okMu 152 := ok_all (f := kM152) kM152_a (fun _ => rfl)
set_option maxRecDepth 100000 in
theorem kM153_a : (List.range 94).all (fun pc => okOp 153 pc (kM153 pc)) = true := by decide +kernel
theorem kM153_k : okMu 153 := ok_all (f := kM153) kM153_a (fun _ => rfl)
set_option maxRecDepth 100000 in
theorem kM154_a : (List.range 60).all (fun pc => okOp 154 pc (kM154 pc)) = true := by decide +kernel
theorem kM154_k : okMu 154 := ok_all (f := kM154) kM154_a (fun _ => rfl)
set_option maxRecDepth 100000 in
theorem kM155_a : (List.range 24).all (fun pc => okOp 155 pc (kM155 pc)) = true := by decide +kernel
theorem kM155_k : okMu 155 := ok_all (f := kM155) kM155_a (fun _ => rfl)
set_option maxRecDepth 100000 in
theorem kM156_a : (List.range 68).all (fun pc => okOp 156 pc (kM156 pc)) = true := by decide +kernel
theorem kM156_k : okMu 156 := ok_all (f := kM156) kM156_a (fun _ => rfl)
set_option maxRecDepth 100000 in
theorem kM157_a : (List.range 30).all (fun pc => okOp 157 pc (kM157 pc)) = true := by decide +kernel
theorem kM157_k : okMu 157 := ok_all (f := kM157) kM157_a (fun _ => rfl)
set_option maxRecDepth 100000 in
theorem kM158_a : (List.range 23).all (fun pc => okOp 158 pc (kM158 pc)) = true := by decide +kernel
theorem kM158_k : okMu 158 := ok_all (f := kM158) kM158_a (fun _ => rfl)
set_option maxRecDepth 100000 in
theorem kM159_a : (List.range 39).all (fun pc => okOp 159 pc (kM159 pc)) = true := by decide +kernel
theorem kM159_k : okMu 159 := ok_all (f := kM159) kM159_a (fun _ => rfl)
set_option maxRecDepth 100000 in
theorem kM160_a : (List.range 11).all (fun pc => okOp 160 pc (kM160 pc)) = true := by decide +kernel
theorem kM160_k : okMu 160 := ok_all (f := kM160) kM160_a (fun _ => rfl)
set_option maxRecDepth 100000 in
theorem kM161_a : (List.range 41).all (fun pc => okOp 161 pc (kM161 pc)) = true := by decide +kernel
theorem kM161_k : okMu 161 := ok_all (f := kM161) kM161_a (fun _ => rfl)
set_option maxRecDepth 100000 in
theorem kM162_a : (List.range 18).all (fun pc => okOp 162 pc (kM162 pc)) = true := by decide +kernel
theorem kM162_k : okMu 162 := ok_all (f := kM162) kM162_a (fun _ => rfl)
set_option maxRecDepth 100000 in
theorem kM163_a0 : (List.range 110).all (fun i => okOp 163 (0 + i) (kM163 (0 + i))) = true := by decide +kernel
set_option maxRecDepth 100000 in
theorem kM163_a110 : (List.range 110).all (fun i => okOp 163 (110 + i) (kM163 (110 + i))) = true := by decide +kernel
set_option maxRecDepth 100000 in
theorem kM163_a220 : (List.range 110).all (fun i => okOp 163 (220 + i) (kM163 (220 + i))) = true := by decide +kernel
set_option maxRecDepth 100000 in
theorem kM163_a330 : (List.range 105).all (fun i => okOp 163 (330 + i) (kM163 (330 + i))) = true := by decide +kernel
theorem kM163_k : okMu 163 := by
  intro pc
  by_cases h0 : pc < 110
  · have h := List.all_eq_true.mp kM163_a0 (pc - 0) (List.mem_range.mpr (by omega))
    rw [show 0 + (pc - 0) = pc by omega] at h
    exact h
  by_cases h110 : pc < 220
  · have h := List.all_eq_true.mp kM163_a110 (pc - 110) (List.mem_range.mpr (by omega))
    rw [show 110 + (pc - 110) = pc by omega] at h
    exact h
  by_cases h220 : pc < 330
  · have h := List.all_eq_true.mp kM163_a220 (pc - 220) (List.mem_range.mpr (by omega))
    rw [show 220 + (pc - 220) = pc by omega] at h
    exact h
  by_cases h330 : pc < 435
  · have h := List.all_eq_true.mp kM163_a330 (pc - 330) (List.mem_range.mpr (by omega))
    rw [show 330 + (pc - 330) = pc by omega] at h
    exact h
  show okOp 163 pc (bif Nat.blt pc 435 then _ else oBad) = true
  rw [bl_c (by omega)]
  rfl
set_option maxRecDepth 100000 in
theorem kM164_a : (List.range 37).all (fun pc => okOp 164 pc (kM164 pc)) = true := by decide +kernel
theorem kM164_k : okMu 164 := ok_all (f := kM164) kM164_a (fun _ => rfl)
set_option maxRecDepth 100000 in
theorem kM165_a : (List.range 37).all (fun pc => okOp 165 pc (kM165 pc)) = true := by decide +kernel
theorem kM165_k : okMu 165 := ok_all (f := kM165) kM165_a (fun _ => rfl)
set_option maxRecDepth 100000 in
theorem kM166_a : (List.range 48).all (fun pc => okOp 166 pc (kM166 pc)) = true := by decide +kernel
theorem kM166_k : okMu 166 := ok_all (f := kM166) kM166_a (fun _ => rfl)
set_option maxRecDepth 100000 in
theorem kM167_a : (List.range 45).all (fun pc => okOp 167 pc (kM167 pc)) = true := by decide +kernel
theorem kM167_k : okMu 167 := ok_all (f := kM167) kM167_a (fun _ => rfl)
set_option maxRecDepth 100000 in
theorem kM168_a : (List.range 45).all (fun pc => okOp 168 pc (kM168 pc)) = true := by decide +kernel
theorem kM168_k : okMu 168 := ok_all (f := kM168) kM168_a (fun _ => rfl)
set_option maxRecDepth 100000 in
theorem kM169_a : (List.range 46).all (fun pc => okOp 169 pc (kM169 pc)) = true := by decide +kernel
theorem kM169_k : okMu 169 := ok_all (f := kM169) kM169_a (fun _ => rfl)
set_option maxRecDepth 100000 in
theorem kM170_a : (List.range 36).all (fun pc => okOp 170 pc (kM170 pc)) = true := by decide +kernel
theorem kM170_k : okMu 170 := ok_all (f := kM170) kM170_a (fun _ => rfl)
set_option maxRecDepth 100000 in
theorem kM171_a : (List.range 68).all (fun pc => okOp 171 pc (kM171 pc)) = true := by decide +kernel
theorem kM171_k : okMu 171 := ok_all (f := kM171) kM171_a (fun _ => rfl)
set_option maxRecDepth 100000 in
theorem kM172_a : (List.range 40).all (fun pc => okOp 172 pc (kM172 pc)) = true := by decide +kernel
theorem kM172_k : okMu 172 := ok_all (f := kM172) kM172_a (fun _ => rfl)
set_option maxRecDepth 100000 in
theorem kM173_a : (List.range 131).all (fun pc => okOp 173 pc (kM173 pc)) = true := by decide +kernel
theorem kM173_k : okMu 173 := ok_all (f := kM173) kM173_a (fun _ => rfl)
set_option maxRecDepth 100000 in
theorem kM174_a : (List.range 28).all (fun pc => okOp 174 pc (kM174 pc)) = true := by decide +kernel
theorem kM174_k : okMu 174 := ok_all (f := kM174) kM174_a (fun _ => rfl)
set_option maxRecDepth 100000 in
theorem kM175_a : (List.range 73).all (fun pc => okOp 175 pc (kM175 pc)) = true := by decide +kernel
theorem kM175_k : okMu 175 := ok_all (f := kM175) kM175_a (fun _ => rfl)
set_option maxRecDepth 100000 in
theorem kM176_a : (List.range 49).all (fun pc => okOp 176 pc (kM176 pc)) = true := by decide +kernel
theorem kM176_k : okMu 176 := ok_all (f := kM176) kM176_a (fun _ => rfl)
set_option maxRecDepth 100000 in
theorem kM177_a : (List.range 90).all (fun pc => okOp 177 pc (kM177 pc)) = true := by decide +kernel
theorem kM177_k : okMu 177 := ok_all (f := kM177) kM177_a (fun _ => rfl)
set_option maxRecDepth 100000 in
theorem kM178_a : (List.range 375).all (fun pc => okOp 178 pc (kM178 pc)) = true := by decide +kernel
theorem kM178_k : okMu 178 := ok_all (f := kM178) kM178_a (fun _ => rfl)
set_option maxRecDepth 100000 in
theorem kM179_a : (List.range 44).all (fun pc => okOp 179 pc (kM179 pc)) = true := by decide +kernel
theorem kM179_k : okMu 179 := ok_all (f := kM179) kM179_a (fun _ => rfl)
set_option maxRecDepth 100000 in
theorem kM180_a : (List.range 16).all (fun pc => okOp 180 pc (kM180 pc)) = true := by decide +kernel
theorem kM180_k : okMu 180 := ok_all (f := kM180) kM180_a (fun _ => rfl)
set_option maxRecDepth 100000 in
theorem kM181_a : (List.range 57).all (fun pc => okOp 181 pc (kM181 pc)) = true := by decide +kernel
theorem kM181_k : okMu 181 := ok_all (f := kM181) kM181_a (fun _ => rfl)
set_option maxRecDepth 100000 in
theorem kM182_a : (List.range 219).all (fun pc => okOp 182 pc (kM182 pc)) = true := by decide +kernel
theorem kM182_k : okMu 182 := ok_all (f := kM182) kM182_a (fun _ => rfl)
set_option maxRecDepth 100000 in
theorem kM183_a : (List.range 7).all (fun pc => okOp 183 pc (kM183 pc)) = true := by decide +kernel
theorem kM183_k : okMu 183 := ok_all (f := kM183) kM183_a (fun _ => rfl)
set_option maxRecDepth 100000 in
theorem kM184_a : (List.range 50).all (fun pc => okOp 184 pc (kM184 pc)) = true := by decide +kernel
theorem kM184_k : okMu 184 := ok_all (f := kM184) kM184_a (fun _ => rfl)
set_option maxRecDepth 100000 in
theorem kM185_a : (List.range 66).all (fun pc => okOp 185 pc (kM185 pc)) = true := by decide +kernel
theorem kM185_k : okMu 185 := ok_all (f := kM185) kM185_a (fun _ => rfl)
set_option maxRecDepth 100000 in
theorem kM186_a : (List.range 72).all (fun pc => okOp 186 pc (kM186 pc)) = true := by decide +kernel
theorem kM186_k : okMu 186 := ok_all (f := kM186) kM186_a (fun _ => rfl)
set_option maxRecDepth 100000 in
theorem kM187_a : (List.range 66).all (fun pc => okOp 187 pc (kM187 pc)) = true := by decide +kernel
theorem kM187_k : okMu 187 := ok_all (f := kM187) kM187_a (fun _ => rfl)
set_option maxRecDepth 100000 in
theorem kM188_a : (List.range 29).all (fun pc => okOp 188 pc (kM188 pc)) = true := by decide +kernel
theorem kM188_k : okMu 188 := ok_all (f := kM188) kM188_a (fun _ => rfl)
set_option maxRecDepth 100000 in
theorem kM189_a : (List.range 61).all (fun pc => okOp 189 pc (kM189 pc)) = true := by decide +kernel
theorem kM189_k : okMu 189 := ok_all (f := kM189) kM189_a (fun _ => rfl)
set_option maxRecDepth 100000 in
theorem kM190_a : (List.range 12).all (fun pc => okOp 190 pc (kM190 pc)) = true := by decide +kernel
theorem kM190_k : okMu 190 := ok_all (f := kM190) kM190_a (fun _ => rfl)
set_option maxRecDepth 100000 in
theorem kM191_a : (List.range 12).all (fun pc => okOp 191 pc (kM191 pc)) = true := by decide +kernel
theorem kM191_k : okMu 191 := ok_all (f := kM191) kM191_a (fun _ => rfl)
set_option maxRecDepth 100000 in
theorem kM192_a : (List.range 117).all (fun pc => okOp 192 pc (kM192 pc)) = true := by decide +kernel
theorem kM192_k : okMu 192 := ok_all (f := kM192) kM192_a (fun _ => rfl)
set_option maxRecDepth 100000 in
theorem kM193_a : (List.range 8).all (fun pc => okOp 193 pc (kM193 pc)) = true := by decide +kernel
theorem kM193_k : okMu 193 := ok_all (f := kM193) kM193_a (fun _ => rfl)
set_option maxRecDepth 100000 in
theorem kM194_a : (List.range 182).all (fun pc => okOp 194 pc (kM194 pc)) = true := by decide +kernel
theorem kM194_k : okMu 194 := ok_all (f := kM194) kM194_a (fun _ => rfl)
set_option maxRecDepth 100000 in
theorem kM195_a : (List.range 65).all (fun pc => okOp 195 pc (kM195 pc)) = true := by decide +kernel
theorem kM195_k : okMu 195 := ok_all (f := kM195) kM195_a (fun _ => rfl)
set_option maxRecDepth 100000 in
theorem kM196_a : (List.range 45).all (fun pc => okOp 196 pc (kM196 pc)) = true := by decide +kernel
theorem kM196_k : okMu 196 := ok_all (f := kM196) kM196_a (fun _ => rfl)
set_option maxRecDepth 100000 in
theorem kM197_a : (List.range 51).all (fun pc => okOp 197 pc (kM197 pc)) = true := by decide +kernel
theorem kM197_k : okMu 197 := ok_all (f := kM197) kM197_a (fun _ => rfl)
set_option maxRecDepth 100000 in
theorem kM198_a : (List.range 22).all (fun pc => okOp 198 pc (kM198 pc)) = true := by decide +kernel
theorem kM198_k : okMu 198 := ok_all (f := kM198) kM198_a (fun _ => rfl)
set_option maxRecDepth 100000 in
theorem kM199_a : (List.range 235).all (fun pc => okOp 199 pc (kM199 pc)) = true := by decide +kernel
theorem kM199_k : okMu 199 := ok_all (f := kM199) kM199_a (fun _ => rfl)
set_option maxRecDepth 100000 in
theorem kM200_a : (List.range 88).all (fun pc => okOp 200 pc (kM200 pc)) = true := by decide +kernel
theorem kM200_k : okMu 200 := ok_all (f := kM200) kM200_a (fun _ => rfl)
set_option maxRecDepth 100000 in
theorem kM201_a : (List.range 45).all (fun pc => okOp 201 pc (kM201 pc)) = true := by decide +kernel
theorem kM201_k : okMu 201 := ok_all (f := kM201) kM201_a (fun _ => rfl)
set_option maxRecDepth 100000 in
theorem kM202_a : (List.range 45).all (fun pc => okOp 202 pc (kM202 pc)) = true := by decide +kernel
theorem kM202_k : okMu 202 := ok_all (f := kM202) kM202_a (fun _ => rfl)
set_option maxRecDepth 100000 in
theorem kM203_a : (List.range 56).all (fun pc => okOp 203 pc (kM203 pc)) = true := by decide +kernel
theorem kM203_k : okMu 203 := ok_all (f := kM203) kM203_a (fun _ => rfl)
set_option maxRecDepth 100000 in
theorem kM204_a : (List.range 58).all (fun pc => okOp 204 pc (kM204 pc)) = true := by decide +kernel
theorem kM204_k : okMu 204 := ok_all (f := kM204) kM204_a (fun _ => rfl)
set_option maxRecDepth 100000 in
theorem kM205_a : (List.range 67).all (fun pc => okOp 205 pc (kM205 pc)) = true := by decide +kernel
theorem kM205_k : okMu 205 := ok_all (f := kM205) kM205_a (fun _ => rfl)
set_option maxRecDepth 100000 in
theorem kM206_a : (List.range 155).all (fun pc => okOp 206 pc (kM206 pc)) = true := by decide +kernel
theorem kM206_k : okMu 206 := ok_all (f := kM206) kM206_a (fun _ => rfl)
set_option maxRecDepth 100000 in
theorem kM207_a : (List.range 25).all (fun pc => okOp 207 pc (kM207 pc)) = true := by decide +kernel
theorem kM207_k : okMu 207 := ok_all (f := kM207) kM207_a (fun _ => rfl)
set_option maxRecDepth 100000 in
theorem kM208_a : (List.range 86).all (fun pc => okOp 208 pc (kM208 pc)) = true := by decide +kernel
theorem kM208_k : okMu 208 := ok_all (f := kM208) kM208_a (fun _ => rfl)
set_option maxRecDepth 100000 in
theorem kM209_a : (List.range 40).all (fun pc => okOp 209 pc (kM209 pc)) = true := by decide +kernel
theorem kM209_k : okMu 209 := ok_all (f := kM209) kM209_a (fun _ => rfl)
set_option maxRecDepth 100000 in
theorem kM210_a : (List.range 37).all (fun pc => okOp 210 pc (kM210 pc)) = true := by decide +kernel
theorem kM210_k : okMu 210 := ok_all (f := kM210) kM210_a (fun _ => rfl)
set_option maxRecDepth 100000 in
theorem kM211_a : (List.range 16).all (fun pc => okOp 211 pc (kM211 pc)) = true := by decide +kernel
theorem kM211_k : okMu 211 := ok_all (f := kM211) kM211_a (fun _ => rfl)
set_option maxRecDepth 100000 in
theorem kM212_a : (List.range 81).all (fun pc => okOp 212 pc (kM212 pc)) = true := by decide +kernel
theorem kM212_k : okMu 212 := ok_all (f := kM212) kM212_a (fun _ => rfl)
set_option maxRecDepth 100000 in
theorem kM213_a : (List.range 41).all (fun pc => okOp 213 pc (kM213 pc)) = true := by decide +kernel
theorem kM213_k : okMu 213 := ok_all (f := kM213) kM213_a (fun _ => rfl)
set_option maxRecDepth 100000 in
theorem kM214_a : (List.range 8).all (fun pc => okOp 214 pc (kM214 pc)) = true := by decide +kernel
theorem kM214_k : okMu 214 := ok_all (f := kM214) kM214_a (fun _ => rfl)
set_option maxRecDepth 100000 in
theorem kM215_a : (List.range 80).all (fun pc => okOp 215 pc (kM215 pc)) = true := by decide +kernel
theorem kM215_k : okMu 215 := ok_all (f := kM215) kM215_a (fun _ => rfl)
set_option maxRecDepth 100000 in
theorem kM216_a : (List.range 80).all (fun pc => okOp 216 pc (kM216 pc)) = true := by decide +kernel
theorem kM216_k : okMu 216 := ok_all (f := kM216) kM216_a (fun _ => rfl)
set_option maxRecDepth 100000 in
theorem kM217_a : (List.range 195).all (fun pc => okOp 217 pc (kM217 pc)) = true := by decide +kernel
theorem kM217_k : okMu 217 := ok_all (f := kM217) kM217_a (fun _ => rfl)
set_option maxRecDepth 100000 in
theorem kM218_a : (List.range 232).all (fun pc => okOp 218 pc (kM218 pc)) = true := by decide +kernel
theorem kM218_k : okMu 218 := ok_all (f := kM218) kM218_a (fun _ => rfl)
set_option maxRecDepth 100000 in
theorem kM219_a : (List.range 175).all (fun pc => okOp 219 pc (kM219 pc)) = true := by decide +kernel
theorem kM219_k : okMu 219 := ok_all (f := kM219) kM219_a (fun _ => rfl)
set_option maxRecDepth 100000 in
theorem kM220_a : (List.range 9).all (fun pc => okOp 220 pc (kM220 pc)) = true := by decide +kernel
theorem kM220_k : okMu 220 := ok_all (f := kM220) kM220_a (fun _ => rfl)
set_option maxRecDepth 100000 in
theorem kM221_a : (List.range 35).all (fun pc => okOp 221 pc (kM221 pc)) = true := by decide +kernel
theorem kM221_k : okMu 221 := ok_all (f := kM221) kM221_a (fun _ => rfl)
set_option maxRecDepth 100000 in
theorem kM222_a : (List.range 52).all (fun pc => okOp 222 pc (kM222 pc)) = true := by decide +kernel
theorem kM222_k : okMu 222 := ok_all (f := kM222) kM222_a (fun _ => rfl)
set_option maxRecDepth 100000 in
theorem kM223_a : (List.range 33).all (fun pc => okOp 223 pc (kM223 pc)) = true := by decide +kernel
theorem kM223_k : okMu 223 := ok_all (f := kM223) kM223_a (fun _ => rfl)
set_option maxRecDepth 100000 in
theorem kM224_a : (List.range 13).all (fun pc => okOp 224 pc (kM224 pc)) = true := by decide +kernel
theorem kM224_k : okMu 224 := ok_all (f := kM224) kM224_a (fun _ => rfl)
set_option maxRecDepth 100000 in
theorem kM225_a : (List.range 121).all (fun pc => okOp 225 pc (kM225 pc)) = true := by decide +kernel
theorem kM225_k : okMu 225 := ok_all (f := kM225) kM225_a (fun _ => rfl)
set_option maxRecDepth 100000 in
theorem kM226_a : (List.range 28).all (fun pc => okOp 226 pc (kM226 pc)) = true := by decide +kernel
theorem kM226_k : okMu 226 := ok_all (f := kM226) kM226_a (fun _ => rfl)
set_option maxRecDepth 100000 in
theorem kM227_a : (List.range 130).all (fun pc => okOp 227 pc (kM227 pc)) = true := by decide +kernel
theorem kM227_k : okMu 227 := ok_all (f := kM227) kM227_a (fun _ => rfl)
theorem ok_to171 : ∀ mu, mu < 171 → okMu mu := (ok_s (ok_s (ok_s (ok_s (ok_s (ok_s (ok_s (ok_s (ok_s (ok_s (ok_s (ok_s (ok_s (ok_s (ok_s (ok_s (ok_s (ok_s (ok_s ok_to152 kM152_k) kM153_k) kM154_k) kM155_k) kM156_k) kM157_k) kM158_k) kM159_k) kM160_k) kM161_k) kM162_k) kM163_k) kM164_k) kM165_k) kM166_k) kM167_k) kM168_k) kM169_k) kM170_k)
theorem ok_to190 : ∀ mu, mu < 190 → okMu mu := (ok_s (ok_s (ok_s (ok_s (ok_s (ok_s (ok_s (ok_s (ok_s (ok_s (ok_s (ok_s (ok_s (ok_s (ok_s (ok_s (ok_s (ok_s (ok_s ok_to171 kM171_k) kM172_k) kM173_k) kM174_k) kM175_k) kM176_k) kM177_k) kM178_k) kM179_k) kM180_k) kM181_k) kM182_k) kM183_k) kM184_k) kM185_k) kM186_k) kM187_k) kM188_k) kM189_k)
theorem ok_to209 : ∀ mu, mu < 209 → okMu mu := (ok_s (ok_s (ok_s (ok_s (ok_s (ok_s (ok_s (ok_s (ok_s (ok_s (ok_s (ok_s (ok_s (ok_s (ok_s (ok_s (ok_s (ok_s (ok_s ok_to190 kM190_k) kM191_k) kM192_k) kM193_k) kM194_k) kM195_k) kM196_k) kM197_k) kM198_k) kM199_k) kM200_k) kM201_k) kM202_k) kM203_k) kM204_k) kM205_k) kM206_k) kM207_k) kM208_k)
theorem ok_to228 : ∀ mu, mu < 228 → okMu mu := (ok_s (ok_s (ok_s (ok_s (ok_s (ok_s (ok_s (ok_s (ok_s (ok_s (ok_s (ok_s (ok_s (ok_s (ok_s (ok_s (ok_s (ok_s (ok_s ok_to209 kM209_k) kM210_k) kM211_k) kM212_k) kM213_k) kM214_k) kM215_k) kM216_k) kM217_k) kM218_k) kM219_k) kM220_k) kM221_k) kM222_k) kM223_k) kM224_k) kM225_k) kM226_k) kM227_k)
