set_option maxRecDepth 100000 in
theorem kM228_a : (List.range 86).all (fun pc => okOp 228 pc (kM228 pc)) = true := by decide +kernel
theorem kM228_k : okMu 228 := ok_all (f := kM228) kM228_a (fun _ => rfl)
set_option maxRecDepth 100000 in
theorem kM229_a : (List.range 29).all (fun pc => okOp 229 pc (kM229 pc)) = true := by decide +kernel
theorem kM229_k : okMu 229 := ok_all (f := kM229) kM229_a (fun _ => rfl)
set_option maxRecDepth 100000 in
theorem kM230_a : (List.range 119).all (fun pc => okOp 230 pc (kM230 pc)) = true := by decide +kernel
theorem kM230_k : okMu 230 := ok_all (f := kM230) kM230_a (fun _ => rfl)
set_option maxRecDepth 100000 in
theorem kM231_a : (List.range 10).all (fun pc => okOp 231 pc (kM231 pc)) = true := by decide +kernel
theorem kM231_k : okMu 231 := ok_all (f := kM231) kM231_a (fun _ => rfl)
set_option maxRecDepth 100000 in
theorem kM232_a : (List.range 156).all (fun pc => okOp 232 pc (kM232 pc)) = true := by decide +kernel
theorem kM232_k : okMu 232 := ok_all (f := kM232) kM232_a (fun _ => rfl)
set_option maxRecDepth 100000 in
theorem kM233_a : (List.range 75).all (fun pc => okOp 233 pc (kM233 pc)) = true := by decide +kernel
theorem kM233_k : okMu 233 := ok_all (f := kM233) kM233_a (fun _ => rfl)
set_option maxRecDepth 100000 in
theorem kM234_a : (List.range 29).all (fun pc => okOp 234 pc (kM234 pc)) = true := by decide +kernel
theorem kM234_k : okMu 234 := ok_all (f := kM234) kM234_a (fun _ => rfl)
set_option maxRecDepth 100000 in
theorem kM235_a : (List.range 12).all (fun pc => okOp 235 pc (kM235 pc)) = true := by decide +kernel
theorem kM235_k : okMu 235 := ok_all (f := kM235) kM235_a (fun _ => rfl)
set_option maxRecDepth 100000 in
theorem kM236_a : (List.range 72).all (fun pc => okOp 236 pc (kM236 pc)) = true := by decide +kernel
theorem kM236_k : okMu 236 := ok_all (f := kM236) kM236_a (fun _ => rfl)
set_option maxRecDepth 100000 in
theorem kM237_a : (List.range 18).all (fun pc => okOp 237 pc (kM237 pc)) = true := by decide +kernel
theorem kM237_k : okMu 237 := ok_all (f := kM237) kM237_a (fun _ => rfl)
set_option maxRecDepth 100000 in
theorem kM238_a : (List.range 121).all (fun pc => okOp 238 pc (kM238 pc)) = true := by decide +kernel
theorem kM238_k : okMu 238 := ok_all (f := kM238) kM238_a (fun _ => rfl)
set_option maxRecDepth 100000 in
theorem kM239_a : (List.range 102).all (fun pc => okOp 239 pc (kM239 pc)) = true := by decide +kernel
theorem kM239_k : okMu 239 := ok_all (f := kM239) kM239_a (fun _ => rfl)
set_option maxRecDepth 100000 in
theorem kM240_a : (List.range 24).all (fun pc => okOp 240 pc (kM240 pc)) = true := by decide +kernel
theorem kM240_k : okMu 240 := ok_all (f := kM240) kM240_a (fun _ => rfl)
set_option maxRecDepth 100000 in
theorem kM241_a : (List.range 90).all (fun pc => okOp 241 pc (kM241 pc)) = true := by decide +kernel
theorem kM241_k : okMu 241 := ok_all (f := kM241) kM241_a (fun _ => rfl)
set_option maxRecDepth 100000 in
theorem kM242_a : (List.range 41).all (fun pc => okOp 242 pc (kM242 pc)) = true := by decide +kernel
theorem kM242_k : okMu 242 := ok_all (f := kM242) kM242_a (fun _ => rfl)
set_option maxRecDepth 100000 in
theorem kM243_a : (List.range 74).all (fun pc => okOp 243 pc (kM243 pc)) = true := by decide +kernel
theorem kM243_k : okMu 243 := ok_all (f := kM243) kM243_a (fun _ => rfl)
set_option maxRecDepth 100000 in
theorem kM244_a : (List.range 102).all (fun pc => okOp 244 pc (kM244 pc)) = true := by decide +kernel
theorem kM244_k : okMu 244 := ok_all (f := kM244) kM244_a (fun _ => rfl)
set_option maxRecDepth 100000 in
theorem kM245_a : (List.range 40).all (fun pc => okOp 245 pc (kM245 pc)) = true := by decide +kernel
theorem kM245_k : okMu 245 := ok_all (f := kM245) kM245_a (fun _ => rfl)
set_option maxRecDepth 100000 in
theorem kM246_a : (List.range 36).all (fun pc => okOp 246 pc (kM246 pc)) = true := by decide +kernel
theorem kM246_k : okMu 246 := ok_all (f := kM246) kM246_a (fun _ => rfl)
set_option maxRecDepth 100000 in
theorem kM247_a : (List.range 22).all (fun pc => okOp 247 pc (kM247 pc)) = true := by decide +kernel
theorem kM247_k : okMu 247 := ok_all (f := kM247) kM247_a (fun _ => rfl)
set_option maxRecDepth 100000 in
theorem kM248_a : (List.range 116).all (fun pc => okOp 248 pc (kM248 pc)) = true := by decide +kernel
theorem kM248_k : okMu 248 := ok_all (f := kM248) kM248_a (fun _ => rfl)
set_option maxRecDepth 100000 in
theorem kM249_a : (List.range 140).all (fun pc => okOp 249 pc (kM249 pc)) = true := by decide +kernel
theorem kM249_k : okMu 249 := ok_all (f := kM249) kM249_a (fun _ => rfl)
set_option maxRecDepth 100000 in
theorem kM250_a : (List.range 22).all (fun pc => okOp 250 pc (kM250 pc)) = true := by decide +kernel
theorem kM250_k : okMu 250 := ok_all (f := kM250) kM250_a (fun _ => rfl)
set_option maxRecDepth 100000 in
theorem kM251_a : (List.range 46).all (fun pc => okOp 251 pc (kM251 pc)) = true := by decide +kernel
theorem kM251_k : okMu 251 := ok_all (f := kM251) kM251_a (fun _ => rfl)
set_option maxRecDepth 100000 in
theorem kM252_a : (List.range 22).all (fun pc => okOp 252 pc (kM252 pc)) = true := by decide +kernel
theorem kM252_k : okMu 252 := ok_all (f := kM252) kM252_a (fun _ => rfl)
set_option maxRecDepth 100000 in
theorem kM253_a : (List.range 134).all (fun pc => okOp 253 pc (kM253 pc)) = true := by decide +kernel
theorem kM253_k : okMu 253 := ok_all (f := kM253) kM253_a (fun _ => rfl)
set_option maxRecDepth 100000 in
theorem kM254_a : (List.range 33).all (fun pc => okOp 254 pc (kM254 pc)) = true := by decide +kernel
theorem kM254_k : okMu 254 := ok_all (f := kM254) kM254_a (fun _ => rfl)
set_option maxRecDepth 100000 in
theorem kM255_a : (List.range 105).all (fun pc => okOp 255 pc (kM255 pc)) = true := by decide +kernel
theorem kM255_k : okMu 255 := ok_all (f := kM255) kM255_a (fun _ => rfl)
set_option maxRecDepth 100000 in
theorem kM256_a : (List.range 101).all (fun pc => okOp 256 pc (kM256 pc)) = true := by decide +kernel
theorem kM256_k : okMu 256 := ok_all (f := kM256) kM256_a (fun _ => rfl)
set_option maxRecDepth 100000 in
theorem kM257_a : (List.range 26).all (fun pc => okOp 257 pc (kM257 pc)) = true := by decide +kernel
theorem kM257_k : okMu 257 := ok_all (f := kM257) kM257_a (fun _ => rfl)
set_option maxRecDepth 100000 in
theorem kM258_a : (List.range 136).all (fun pc => okOp 258 pc (kM258 pc)) = true := by decide +kernel
theorem kM258_k : okMu 258 := ok_all (f := kM258) kM258_a (fun _ => rfl)
set_option maxRecDepth 100000 in
theorem kM259_a : (List.range 63).all (fun pc => okOp 259 pc (kM259 pc)) = true := by decide +kernel
theorem kM259_k : okMu 259 := ok_all (f := kM259) kM259_a (fun _ => rfl)
set_option maxRecDepth 100000 in
theorem kM260_a : (List.range 139).all (fun pc => okOp 260 pc (kM260 pc)) = true := by decide +kernel
theorem kM260_k : okMu 260 := ok_all (f := kM260) kM260_a (fun _ => rfl)
set_option maxRecDepth 100000 in
theorem kM261_a : (List.range 180).all (fun pc => okOp 261 pc (kM261 pc)) = true := by decide +kernel
theorem kM261_k : okMu 261 := ok_all (f := kM261) kM261_a (fun _ => rfl)
set_option maxRecDepth 100000 in
theorem kM262_a : (List.range 39).all (fun pc => okOp 262 pc (kM262 pc)) = true := by decide +kernel
theorem kM262_k : okMu 262 := ok_all (f := kM262) kM262_a (fun _ => rfl)
set_option maxRecDepth 100000 in
theorem kM263_a : (List.range 67).all (fun pc => okOp 263 pc (kM263 pc)) = true := by decide +kernel
theorem kM263_k : okMu 263 := ok_all (f := kM263) kM263_a (fun _ => rfl)
set_option maxRecDepth 100000 in
theorem kM264_a : (List.range 25).all (fun pc => okOp 264 pc (kM264 pc)) = true := by decide +kernel
theorem kM264_k : okMu 264 := ok_all (f := kM264) kM264_a (fun _ => rfl)
set_option maxRecDepth 100000 in
theorem kM265_a : (List.range 90).all (fun pc => okOp 265 pc (kM265 pc)) = true := by decide +kernel
theorem kM265_k : okMu 265 := ok_all (f := kM265) kM265_a (fun _ => rfl)
set_option maxRecDepth 100000 in
theorem kM266_a : (List.range 74).all (fun pc => okOp 266 pc (kM266 pc)) = true := by decide +kernel
theorem kM266_k : okMu 266 := ok_all (f := kM266) kM266_a (fun _ => rfl)
set_option maxRecDepth 100000 in
theorem kM267_a : (List.range 129).all (fun pc => okOp 267 pc (kM267 pc)) = true := by decide +kernel
theorem kM267_k : okMu 267 := ok_all (f := kM267) kM267_a (fun _ => rfl)
set_option maxRecDepth 100000 in
theorem kM268_a : (List.range 40).all (fun pc => okOp 268 pc (kM268 pc)) = true := by decide +kernel
theorem kM268_k : okMu 268 := ok_all (f := kM268) kM268_a (fun _ => rfl)
set_option maxRecDepth 100000 in
theorem kM269_a : (List.range 68).all (fun pc => okOp 269 pc (kM269 pc)) = true := by decide +kernel
theorem kM269_k : okMu 269 := ok_all (f := kM269) kM269_a (fun _ => rfl)
set_option maxRecDepth 100000 in
theorem kM270_a : (List.range 112).all (fun pc => okOp 270 pc (kM270 pc)) = true := by decide +kernel
theorem kM270_k : okMu 270 := ok_all (f := kM270) kM270_a (fun _ => rfl)
set_option maxRecDepth 100000 in
theorem kM271_a : (List.range 29).all (fun pc => okOp 271 pc (kM271 pc)) = true := by decide +kernel
theorem kM271_k : okMu 271 := ok_all (f := kM271) kM271_a (fun _ => rfl)
set_option maxRecDepth 100000 in
theorem kM272_a : (List.range 198).all (fun pc => okOp 272 pc (kM272 pc)) = true := by decide +kernel
theorem kM272_k : okMu 272 := ok_all (f := kM272) kM272_a (fun _ => rfl)
set_option maxRecDepth 100000 in
theorem kM273_a : (List.range 196).all (fun pc => okOp 273 pc (kM273 pc)) = true := by decide +kernel
theorem kM273_k : okMu 273 := ok_all (f := kM273) kM273_a (fun _ => rfl)
set_option maxRecDepth 100000 in
theorem kM274_a : (List.range 57).all (fun pc => okOp 274 pc (kM274 pc)) = true := by decide +kernel
theorem kM274_k : okMu 274 := ok_all (f := kM274) kM274_a (fun _ => rfl)
set_option maxRecDepth 100000 in
theorem kM275_a : (List.range 20).all (fun pc => okOp 275 pc (kM275 pc)) = true := by decide +kernel
theorem kM275_k : okMu 275 := ok_all (f := kM275) kM275_a (fun _ => rfl)
set_option maxRecDepth 100000 in
theorem kM276_a : (List.range 62).all (fun pc => okOp 276 pc (kM276 pc)) = true := by decide +kernel
theorem kM276_k : okMu 276 := ok_all (f := kM276) kM276_a (fun _ => rfl)
set_option maxRecDepth 100000 in
theorem kM277_a : (List.range 67).all (fun pc => okOp 277 pc (kM277 pc)) = true := by decide +kernel
theorem kM277_k : okMu 277 := ok_all (f := kM277) kM277_a (fun _ => rfl)
set_option maxRecDepth 100000 in
theorem kM278_a : (List.range 29).all (fun pc => okOp 278 pc (kM278 pc)) = true := by decide +kernel
theorem kM278_k : okMu 278 := ok_all (f := kM278) kM278_a (fun _ => rfl)
set_option maxRecDepth 100000 in
theorem kM279_a : (List.range 51).all (fun pc => okOp 279 pc (kM279 pc)) = true := by decide +kernel
theorem kM279_k : okMu 279 := ok_all (f := kM279) kM279_a (fun _ => rfl)
set_option maxRecDepth 100000 in
theorem kM280_a : (List.range 72).all (fun pc => okOp 280 pc (kM280 pc)) = true := by decide +kernel
theorem kM280_k : okMu 280 := ok_all (f := kM280) kM280_a (fun _ => rfl)
set_option maxRecDepth 100000 in
theorem kM281_a : (List.range 12).all (fun pc => okOp 281 pc (kM281 pc)) = true := by decide +kernel
theorem kM281_k : okMu 281 := ok_all (f := kM281) kM281_a (fun _ => rfl)
set_option maxRecDepth 100000 in
theorem kM282_a : (List.range 81).all (fun pc => okOp 282 pc (kM282 pc)) = true := by decide +kernel
theorem kM282_k : okMu 282 := ok_all (f := kM282) kM282_a (fun _ => rfl)
set_option maxRecDepth 100000 in
theorem kM283_a : (List.range 62).all (fun pc => okOp 283 pc (kM283 pc)) = true := by decide +kernel
theorem kM283_k : okMu 283 := ok_all (f := kM283) kM283_a (fun _ => rfl)
set_option maxRecDepth 100000 in
theorem kM284_a : (List.range 30).all (fun pc => okOp 284 pc (kM284 pc)) = true := by decide +kernel
theorem kM284_k : okMu 284 := ok_all (f := kM284) kM284_a (fun _ => rfl)
set_option maxRecDepth 100000 in
theorem kM285_a : (List.range 9).all (fun pc => okOp 285 pc (kM285 pc)) = true := by decide +kernel
theorem kM285_k : okMu 285 := ok_all (f := kM285) kM285_a (fun _ => rfl)
set_option maxRecDepth 100000 in
theorem kM286_a : (List.range 15).all (fun pc => okOp 286 pc (kM286 pc)) = true := by decide +kernel
theorem kM286_k : okMu 286 := ok_all (f := kM286) kM286_a (fun _ => rfl)
set_option maxRecDepth 100000 in
theorem kM287_a : (List.range 87).all (fun pc => okOp 287 pc (kM287 pc)) = true := by decide +kernel
theorem kM287_k : okMu 287 := ok_all (f := kM287) kM287_a (fun _ => rfl)
set_option maxRecDepth 100000 in
theorem kM288_a : (List.range 14).all (fun pc => okOp 288 pc (kM288 pc)) = true := by decide +kernel
theorem kM288_k : okMu 288 := ok_all (f := kM288) kM288_a (fun _ => rfl)
set_option maxRecDepth 100000 in
theorem kM289_a : (List.range 15).all (fun pc => okOp 289 pc (kM289 pc)) = true := by decide +kernel
theorem kM289_k : okMu 289 := ok_all (f := kM289) kM289_a (fun _ => rfl)
set_option maxRecDepth 100000 in
theorem kM290_a : (List.range 58).all (fun pc => okOp 290 pc (kM290 pc)) = true := by decide +kernel
theorem kM290_k : okMu 290 := ok_all (f := kM290) kM290_a (fun _ => rfl)
set_option maxRecDepth 100000 in
theorem kM291_a : (List.range 15).all (fun pc => okOp 291 pc (kM291 pc)) = true := by decide +kernel
theorem kM291_k : okMu 291 := ok_all (f := kM291) kM291_a (fun _ => rfl)
set_option maxRecDepth 100000 in
theorem kM292_a : (List.range 10).all (fun pc => okOp 292 pc (kM292 pc)) = true := by decide +kernel
theorem kM292_k : okMu 292 := ok_all (f := kM292) kM292_a (fun _ => rfl)
set_option maxRecDepth 100000 in
theorem kM293_a : (List.range 57).all (fun pc => okOp 293 pc (kM293 pc)) = true := by decide +kernel
theorem kM293_k : okMu 293 := ok_all (f := kM293) kM293_a (fun _ => rfl)
set_option maxRecDepth 100000 in
theorem kM294_a : (List.range 21).all (fun pc => okOp 294 pc (kM294 pc)) = true := by decide +kernel
theorem kM294_k : okMu 294 := ok_all (f := kM294) kM294_a (fun _ => rfl)
set_option maxRecDepth 100000 in
theorem kM295_a : (List.range 72).all (fun pc => okOp 295 pc (kM295 pc)) = true := by decide +kernel
theorem kM295_k : okMu 295 := ok_all (f := kM295) kM295_a (fun _ => rfl)
set_option maxRecDepth 100000 in
theorem kM296_a : (List.range 31).all (fun pc => okOp 296 pc (kM296 pc)) = true := by decide +kernel
theorem kM296_k : okMu 296 := ok_all (f := kM296) kM296_a (fun _ => rfl)
set_option maxRecDepth 100000 in
theorem kM297_a : (List.range 82).all (fun pc => okOp 297 pc (kM297 pc)) = true := by decide +kernel
theorem kM297_k : okMu 297 := ok_all (f := kM297) kM297_a (fun _ => rfl)
set_option maxRecDepth 100000 in
theorem kM298_a : (List.range 98).all (fun pc => okOp 298 pc (kM298 pc)) = true := by decide +kernel
theorem kM298_k : okMu 298 := ok_all (f := kM298) kM298_a (fun _ => rfl)
set_option maxRecDepth 100000 in
theorem kM299_a : (List.range 57).all (fun pc => okOp 299 pc (kM299 pc)) = true := by decide +kernel
theorem kM299_k : okMu 299 := ok_all (f := kM299) kM299_a (fun _ => rfl)
set_option maxRecDepth 100000 in
theorem kM300_a : (List.range 27).all (fun pc => okOp 300 pc (kM300 pc)) = true := by decide +kernel
theorem kM300_k : okMu 300 := ok_all (f := kM300) kM300_a (fun _ => rfl)
set_option maxRecDepth 100000 in
theorem kM301_a : (List.range 188).all (fun pc => okOp 301 pc (kM301 pc)) = true := by decide +kernel
theorem kM301_k : okMu 301 := ok_all (f := kM301) kM301_a (fun _ => rfl)
set_option maxRecDepth 100000 in
theorem kM302_a : (List.range 76).all (fun pc => okOp 302 pc (kM302 pc)) = true := by decide +kernel
theorem kM302_k : okMu 302 := ok_all (f := kM302) kM302_a (fun _ => rfl)
theorem ok_to247 : ∀ mu, mu < 247 → okMu mu := (ok_s (ok_s (ok_s (ok_s (ok_s (ok_s (ok_s (ok_s (ok_s (ok_s (ok_s (ok_s (ok_s (ok_s (ok_s (ok_s (ok_s (ok_s (ok_s ok_to228 kM228_k) kM229_k) kM230_k) kM231_k) kM232_k) kM233_k) kM234_k) kM235_k) kM236_k) kM237_k) kM238_k) kM239_k) kM240_k) kM241_k) kM242_k) kM243_k) kM244_k) kM245_k) kM246_k)
theorem ok_to266 : ∀ mu, mu < 266 → okMu mu := (ok_s (ok_s (ok_s (ok_s (ok_s (ok_s (ok_s (ok_s (ok_s (ok_s (ok_s (ok_s (ok_s (ok_s (ok_s (ok_s (ok_s (ok_s (ok_s ok_to247 kM247_k) kM248_k) kM249_k) kM250_k) kM251_k) kM252_k) kM253_k) kM254_k) kM255_k) kM256_k) kM257_k) kM258_k) kM259_k) kM260_k) kM261_k) kM262_k) kM263_k) kM264_k) kM265_k)
theorem ok_to285 : ∀ mu, mu < 285 → okMu mu := (ok_s (ok_s (ok_s (ok_s (ok_s (ok_s (ok_s (ok_s (ok_s (ok_s (ok_s (ok_s (ok_s (ok_s (ok_s (ok_s (ok_s (ok_s (ok_s ok_to266 kM266_k) kM267_k) kM268_k) kM269_k) kM270_k) kM271_k) kM272_k) kM273_k) kM274_k) kM275_k) kM276_k) kM277_k) kM278_k) kM279_k) kM280_k) kM281_k) kM282_k) kM283_k) kM284_k)
theorem ok_to303 : ∀ mu, mu < 303 → okMu mu := (ok_s (ok_s (ok_s (ok_s (ok_s (ok_s (ok_s (ok_s (ok_s (ok_s (ok_s (ok_s (ok_s (ok_s (ok_s (ok_s (ok_s (ok_s ok_to285 kM285_k) kM286_k) kM287_k) kM288_k) kM289_k) kM290_k) kM291_k) kM292_k) kM293_k) kM294_k) kM295_k) kM296_k) kM297_k) kM298_k) kM299_k) kM300_k) kM301_k) kM302_k)
