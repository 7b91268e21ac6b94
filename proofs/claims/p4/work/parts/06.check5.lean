set_option maxRecDepth 1000000 in
theorem c_m204 : c_meth 204 = true := by decide +kernel
set_option maxRecDepth 1000000 in
theorem c_m205 : c_meth 205 = true := by decide +kernel
set_option maxRecDepth 1000000 in
theorem c_m206 : c_meth 206 = true := by decide +kernel
set_option maxRecDepth 1000000 in
theorem c_m207 : c_meth 207 = true := by decide +kernel
set_option maxRecDepth 1000000 in
theorem c_m208 : c_meth 208 = true := by decide +kernel
set_option maxRecDepth 1000000 in
theorem c_m209 : c_meth 209 = true := by decide +kernel
set_option maxRecDepth 1000000 in
theorem c_m210 : c_meth 210 = true := by decide +kernel
set_option maxRecDepth 1000000 in
theorem c_m211 : c_meth 211 = true := by decide +kernel
set_option maxRecDepth 1000000 in
theorem c_m212 : c_meth 212 = true := by decide +kernel
set_option maxRecDepth 1000000 in
theorem c_m213 : c_meth 213 = true := by decide +kernel
set_option maxRecDepth 1000000 in
theorem c_m214 : c_meth 214 = true := by decide +kernel
set_option maxRecDepth 1000000 in
theorem c_m215 : c_meth 215 = true := by decide +kernel
set_option maxRecDepth 1000000 in
theorem c_m216 : c_meth 216 = true := by decide +kernel
set_option maxRecDepth 1000000 in
theorem c_m217 : c_meth 217 = true := by decide +kernel
set_option maxRecDepth 1000000 in
theorem c_m218 : c_meth 218 = true := by decide +kernel
set_option maxRecDepth 1000000 in
theorem c_m219 : c_meth 219 = true := by decide +kernel
set_option maxRecDepth 1000000 in
theorem c_m220 : c_meth 220 = true := by decide +kernel
set_option maxRecDepth 1000000 in
theorem c_m221 : c_meth 221 = true := by decide +kernel
set_option maxRecDepth 1000000 in
theorem c_m222 : c_meth 222 = true := by decide +kernel
set_option maxRecDepth 1000000 in
theorem c_m223 : c_meth 223 = true := by decide +kernel
set_option maxRecDepth 1000000 in
theorem c_m224 : c_meth 224 = true := by decide +kernel
set_option maxRecDepth 1000000 in
theorem c_m225 : c_meth 225 = true := by decide +kernel
set_option maxRecDepth 1000000 in
theorem c_m226 : c_meth 226 = true := by decide +kernel
set_option maxRecDepth 1000000 in
theorem c_m227 : c_meth 227 = true := by decide +kernel
set_option maxRecDepth 1000000 in
theorem c_m228 : c_meth 228 = true := by decide +kernel
set_option maxRecDepth 1000000 in
theorem c_m229 : c_meth 229 = true := by decide +kernel
set_option maxRecDepth 1000000 in
theorem c_m230 : c_meth 230 = true := by decide +kernel
set_option maxRecDepth 1000000 in
theorem c_m231 : c_meth 231 = true := by decide +kernel
set_option maxRecDepth 1000000 in
theorem c_m232 : c_meth 232 = true := by decide +kernel
set_option maxRecDepth 1000000 in
theorem c_m233 : c_meth 233 = true := by decide +kernel
set_option maxRecDepth 1000000 in
theorem c_m234 : c_meth 234 = true := by decide +kernel
set_option maxRecDepth 1000000 in
theorem c_m235 : c_meth 235 = true := by decide +kernel
set_option maxRecDepth 1000000 in
theorem c_m236 : c_meth 236 = true := by decide +kernel
set_option maxRecDepth 1000000 in
theorem c_m237 : c_meth 237 = true := by decide +kernel
set_option maxRecDepth 1000000 in
theorem c_m238 : c_meth 238 = true := by decide +kernel
set_option maxRecDepth 1000000 in
theorem c_m239 : c_meth 239 = true := by decide +kernel
set_option maxRecDepth 1000000 in
theorem c_m240 : c_meth 240 = true := by decide +kernel
set_option maxRecDepth 1000000 in
theorem c_m241 : c_meth 241 = true := by decide +kernel
set_option maxRecDepth 1000000 in
theorem c_m242 : c_meth 242 = true := by decide +kernel
set_option maxRecDepth 1000000 in
theorem c_m243 : c_meth 243 = true := by decide +kernel
set_option maxRecDepth 1000000 in
theorem c_m244 : c_meth 244 = true := by decide +kernel
set_option maxRecDepth 1000000 in
theorem c_m245 : c_meth 245 = true := by decide +kernel
set_option maxRecDepth 1000000 in
theorem c_m246 : c_meth 246 = true := by decide +kernel
set_option maxRecDepth 1000000 in
theorem c_m247 : c_meth 247 = true := by decide +kernel
set_option maxRecDepth 1000000 in
theorem c_m248 : c_meth 248 = true := by decide +kernel
set_option maxRecDepth 1000000 in
theorem c_m249 : c_meth 249 = true := by decide +kernel
set_option maxRecDepth 1000000 in
theorem c_m250 : c_meth 250 = true := by decide +kernel
set_option maxRecDepth 1000000 in
theorem c_m251 : c_meth 251 = true := by decide +kernel
set_option maxRecDepth 1000000 in
theorem c_m252 : c_meth 252 = true := by decide +kernel
set_option maxRecDepth 1000000 in
theorem c_m253 : c_meth 253 = true := by decide +kernel
set_option maxRecDepth 1000000 in
theorem c_m254 : c_meth 254 = true := by decide +kernel
