set_option maxRecDepth 1000000 in
theorem c_m255 : n_meth 255 = true := by decide +kernel
set_option maxRecDepth 1000000 in
theorem c_m256 : n_meth 256 = true := by decide +kernel
set_option maxRecDepth 1000000 in
theorem c_m257 : n_meth 257 = true := by decide +kernel
set_option maxRecDepth 1000000 in
theorem c_m258 : n_meth 258 = true := by decide +kernel
set_option maxRecDepth 1000000 in
theorem c_m259 : n_meth 259 = true := by decide +kernel
set_option maxRecDepth 1000000 in
theorem c_m260 : n_meth 260 = true := by decide +kernel
set_option maxRecDepth 1000000 in
theorem c_m261 : n_meth 261 = true := by decide +kernel
set_option maxRecDepth 1000000 in
theorem c_m262 : n_meth 262 = true := by decide +kernel
set_option maxRecDepth 1000000 in
theorem c_m263 : n_meth 263 = true := by decide +kernel
set_option maxRecDepth 1000000 in
theorem c_m264 : n_meth 264 = true := by decide +kernel
set_option maxRecDepth 1000000 in
theorem c_m265 : n_meth 265 = true := by decide +kernel
set_option maxRecDepth 1000000 in
theorem c_m266 : n_meth 266 = true := by decide +kernel
set_option maxRecDepth 1000000 in
theorem c_m267 : n_meth 267 = true := by decide +kernel
set_option maxRecDepth 1000000 in
theorem c_m268 : n_meth 268 = true := by decide +kernel
set_option maxRecDepth 1000000 in
theorem c_m269 : n_meth 269 = true := by decide +kernel
set_option maxRecDepth 1000000 in
theorem c_m270 : n_meth 270 = true := by decide +kernel
set_option maxRecDepth 1000000 in
theorem c_m271 : n_meth 271 = true := by decide +kernel
set_option maxRecDepth 1000000 in
theorem c_m272 : n_meth 272 = true := by decide +kernel
set_option maxRecDepth 1000000 in
theorem c_m273 : n_meth 273 = true := by decide +kernel
set_option maxRecDepth 1000000 in
theorem c_m274 : n_meth 274 = true := by decide +kernel
set_option maxRecDepth 1000000 in
theorem c_m275 : n_meth 275 = true := by decide +kernel
set_option maxRecDepth 1000000 in
theorem c_m276 : n_meth 276 = true := by decide +kernel
set_option maxRecDepth 1000000 in
theorem c_m277 : n_meth 277 = true := by decide +kernel
set_option maxRecDepth 1000000 in
theorem c_m278 : n_meth 278 = true := by decide +kernel
set_option maxRecDepth 1000000 in
theorem c_m279 : n_meth 279 = true := by decide +kernel
set_option maxRecDepth 1000000 in
theorem c_m280 : n_meth 280 = true := by decide +kernel
set_option maxRecDepth 1000000 in
theorem c_m281 : n_meth 281 = true := by decide +kernel
set_option maxRecDepth 1000000 in
theorem c_m282 : n_meth 282 = true := by decide +kernel
set_option maxRecDepth 1000000 in
theorem c_m283 : n_meth 283 = true := by decide +kernel
set_option maxRecDepth 1000000 in
theorem c_m284 : n_meth 284 = true := by decide +kernel
set_option maxRecDepth 1000000 in
theorem c_m285 : n_meth 285 = true := by decide +kernel
set_option maxRecDepth 1000000 in
theorem c_m286 : n_meth 286 = true := by decide +kernel
set_option maxRecDepth 1000000 in
theorem c_m287 : n_meth 287 = true := by decide +kernel
set_option maxRecDepth 1000000 in
theorem c_m288 : n_meth 288 = true := by decide +kernel
set_option maxRecDepth 1000000 in
theorem c_m289 : n_meth 289 = true := by decide +kernel
set_option maxRecDepth 1000000 in
theorem c_m290 : n_meth 290 = true := by decide +kernel
set_option maxRecDepth 1000000 in
theorem c_m291 : n_meth 291 = true := by decide +kernel
set_option maxRecDepth 1000000 in
theorem c_m292 : n_meth 292 = true := by decide +kernel
set_option maxRecDepth 1000000 in
theorem c_m293 : n_meth 293 = true := by decide +kernel
set_option maxRecDepth 1000000 in
theorem c_m294 : n_meth 294 = true := by decide +kernel
set_option maxRecDepth 1000000 in
theorem c_m295 : n_meth 295 = true := by decide +kernel
set_option maxRecDepth 1000000 in
theorem c_m296 : n_meth 296 = true := by decide +kernel
set_option maxRecDepth 1000000 in
theorem c_m297 : n_meth 297 = true := by decide +kernel
set_option maxRecDepth 1000000 in
theorem c_m298 : n_meth 298 = true := by decide +kernel
set_option maxRecDepth 1000000 in
theorem c_m299 : n_meth 299 = true := by decide +kernel
set_option maxRecDepth 1000000 in
theorem c_m300 : n_meth 300 = true := by decide +kernel
set_option maxRecDepth 1000000 in
theorem c_m301 : n_meth 301 = true := by decide +kernel
theorem c_p7 : (List.range' 255 47).all (fun k => !(c_plain k) || n_M k) = true := by decide +kernel
