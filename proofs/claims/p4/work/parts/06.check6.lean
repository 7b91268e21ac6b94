set_option maxRecDepth 1000000 in
theorem c_m255 : c_meth 255 = true := by decide +kernel
set_option maxRecDepth 1000000 in
theorem c_m256 : c_meth 256 = true := by decide +kernel
set_option maxRecDepth 1000000 in
theorem c_m257 : c_meth 257 = true := by decide +kernel
set_option maxRecDepth 1000000 in
theorem c_m258 : c_meth 258 = true := by decide +kernel
set_option maxRecDepth 1000000 in
theorem c_m259 : c_meth 259 = true := by decide +kernel
set_option maxRecDepth 1000000 in
theorem c_m260 : c_meth 260 = true := by decide +kernel
set_option maxRecDepth 1000000 in
theorem c_m261 : c_meth 261 = true := by decide +kernel
set_option maxRecDepth 1000000 in
theorem c_m262 : c_meth 262 = true := by decide +kernel
set_option maxRecDepth 1000000 in
theorem c_m263 : c_meth 263 = true := by decide +kernel
set_option maxRecDepth 1000000 in
theorem c_m264 : c_meth 264 = true := by decide +kernel
set_option maxRecDepth 1000000 in
theorem c_m265 : c_meth 265 = true := by decide +kernel
set_option maxRecDepth 1000000 in
theorem c_m266 : c_meth 266 = true := by decide +kernel
set_option maxRecDepth 1000000 in
theorem c_m267 : c_meth 267 = true := by decide +kernel
set_option maxRecDepth 1000000 in
theorem c_m268 : c_meth 268 = true := by decide +kernel
set_option maxRecDepth 1000000 in
theorem c_m269 : c_meth 269 = true := by decide +kernel
set_option maxRecDepth 1000000 in
theorem c_m270 : c_meth 270 = true := by decide +kernel
set_option maxRecDepth 1000000 in
theorem c_m271 : c_meth 271 = true := by decide +kernel
set_option maxRecDepth 1000000 in
theorem c_m272 : c_meth 272 = true := by decide +kernel
set_option maxRecDepth 1000000 in
theorem c_m273 : c_meth 273 = true := by decide +kernel
set_option maxRecDepth 1000000 in
theorem c_m274 : c_meth 274 = true := by decide +kernel
set_option maxRecDepth 1000000 in
theorem c_m275 : c_meth 275 = true := by decide +kernel
set_option maxRecDepth 1000000 in
theorem c_m276 : c_meth 276 = true := by decide +kernel
set_option maxRecDepth 1000000 in
theorem c_m277 : c_meth 277 = true := by decide +kernel
set_option maxRecDepth 1000000 in
theorem c_m278 : c_meth 278 = true := by decide +kernel
set_option maxRecDepth 1000000 in
theorem c_m279 : c_meth 279 = true := by decide +kernel
set_option maxRecDepth 1000000 in
theorem c_m280 : c_meth 280 = true := by decide +kernel
set_option maxRecDepth 1000000 in
theorem c_m281 : c_meth 281 = true := by decide +kernel
set_option maxRecDepth 1000000 in
theorem c_m282 : c_meth 282 = true := by decide +kernel
set_option maxRecDepth 1000000 in
theorem c_m283 : c_meth 283 = true := by decide +kernel
set_option maxRecDepth 1000000 in
theorem c_m284 : c_meth 284 = true := by decide +kernel
set_option maxRecDepth 1000000 in
theorem c_m285 : c_meth 285 = true := by decide +kernel
set_option maxRecDepth 1000000 in
theorem c_m286 : c_meth 286 = true := by decide +kernel
set_option maxRecDepth 1000000 in
theorem c_m287 : c_meth 287 = true := by decide +kernel
set_option maxRecDepth 1000000 in
theorem c_m288 : c_meth 288 = true := by decide +kernel
set_option maxRecDepth 1000000 in
theorem c_m289 : c_meth 289 = true := by decide +kernel
set_option maxRecDepth 1000000 in
theorem c_m290 : c_meth 290 = true := by decide +kernel
set_option maxRecDepth 1000000 in
theorem c_m291 : c_meth 291 = true := by decide +kernel
set_option maxRecDepth 1000000 in
theorem c_m292 : c_meth 292 = true := by decide +kernel
set_option maxRecDepth 1000000 in
theorem c_m293 : c_meth 293 = true := by decide +kernel
set_option maxRecDepth 1000000 in
theorem c_m294 : c_meth 294 = true := by decide +kernel
set_option maxRecDepth 1000000 in
theorem c_m295 : c_meth 295 = true := by decide +kernel
set_option maxRecDepth 1000000 in
theorem c_m296 : c_meth 296 = true := by decide +kernel
set_option maxRecDepth 1000000 in
theorem c_m297 : c_meth 297 = true := by decide +kernel
set_option maxRecDepth 1000000 in
theorem c_m298 : c_meth 298 = true := by decide +kernel
set_option maxRecDepth 1000000 in
theorem c_m299 : c_meth 299 = true := by decide +kernel
set_option maxRecDepth 1000000 in
theorem c_m300 : c_meth 300 = true := by decide +kernel
set_option maxRecDepth 1000000 in
theorem c_m301 : c_meth 301 = true := by decide +kernel
