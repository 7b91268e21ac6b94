set_option maxRecDepth 1000000 in
theorem c_m204 : n_meth 204 = true := by decide +kernel
set_option maxRecDepth 1000000 in
theorem c_m205 : n_meth 205 = true := by decide +kernel
set_option maxRecDepth 1000000 in
theorem c_m206 : n_meth 206 = true := by decide +kernel
set_option maxRecDepth 1000000 in
theorem c_m207 : n_meth 207 = true := by decide +kernel
set_option maxRecDepth 1000000 in
theorem c_m208 : n_meth 208 = true := by decide +kernel
set_option maxRecDepth 1000000 in
theorem c_m209 : n_meth 209 = true := by decide +kernel
set_option maxRecDepth 1000000 in
theorem c_m210 : n_meth 210 = true := by decide +kernel
set_option maxRecDepth 1000000 in
theorem c_m211 : n_meth 211 = true := by decide +kernel
set_option maxRecDepth 1000000 in
theorem c_m212 : n_meth 212 = true := by decide +kernel
set_option maxRecDepth 1000000 in
theorem c_m213 : n_meth 213 = true := by decide +kernel
set_option maxRecDepth 1000000 in
theorem c_m214 : n_meth 214 = true := by decide +kernel
set_option maxRecDepth 1000000 in
theorem c_m215 : n_meth 215 = true := by decide +kernel
set_option maxRecDepth 1000000 in
theorem c_m216 : n_meth 216 = true := by decide +kernel
set_option maxRecDepth 1000000 in
theorem c_m217 : n_meth 217 = true := by decide +kernel
set_option maxRecDepth 1000000 in
theorem c_m218 : n_meth 218 = true := by decide +kernel
set_option maxRecDepth 1000000 in
theorem c_m219 : n_meth 219 = true := by decide +kernel
set_option maxRecDepth 1000000 in
theorem c_m220 : n_meth 220 = true := by decide +kernel
set_option maxRecDepth 1000000 in
theorem c_m221 : n_meth 221 = true := by decide +kernel
set_option maxRecDepth 1000000 in
theorem c_m222 : n_meth 222 = true := by decide +kernel
set_option maxRecDepth 1000000 in
theorem c_m223 : n_meth 223 = true := by decide +kernel
set_option maxRecDepth 1000000 in
theorem c_m224 : n_meth 224 = true := by decide +kernel
set_option maxRecDepth 1000000 in
theorem c_m225 : n_meth 225 = true := by decide +kernel
set_option maxRecDepth 1000000 in
theorem c_m226 : n_meth 226 = true := by decide +kernel
set_option maxRecDepth 1000000 in
theorem c_m227 : n_meth 227 = true := by decide +kernel
set_option maxRecDepth 1000000 in
theorem c_m228 : n_meth 228 = true := by decide +kernel
set_option maxRecDepth 1000000 in
theorem c_m229 : n_meth 229 = true := by decide +kernel
set_option maxRecDepth 1000000 in
theorem c_m230 : n_meth 230 = true := by decide +kernel
set_option maxRecDepth 1000000 in
theorem c_m231 : n_meth 231 = true := by decide +kernel
set_option maxRecDepth 1000000 in
theorem c_m232 : n_meth 232 = true := by decide +kernel
set_option maxRecDepth 1000000 in
theorem c_m233 : n_meth 233 = true := by decide +kernel
set_option maxRecDepth 1000000 in
theorem c_m234 : n_meth 234 = true := by decide +kernel
set_option maxRecDepth 1000000 in
theorem c_m235 : n_meth 235 = true := by decide +kernel
set_option maxRecDepth 1000000 in
theorem c_m236 : n_meth 236 = true := by decide +kernel
set_option maxRecDepth 1000000 in
theorem c_m237 : n_meth 237 = true := by decide +kernel
set_option maxRecDepth 1000000 in
theorem c_m238 : n_meth 238 = true := by decide +kernel
set_option maxRecDepth 1000000 in
theorem c_m239 : n_meth 239 = true := by decide +kernel
set_option maxRecDepth 1000000 in
theorem c_m240 : n_meth 240 = true := by decide +kernel
set_option maxRecDepth 1000000 in
theorem c_m241 : n_meth 241 = true := by decide +kernel
set_option maxRecDepth 1000000 in
theorem c_m242 : n_meth 242 = true := by decide +kernel
set_option maxRecDepth 1000000 in
theorem c_m243 : n_meth 243 = true := by decide +kernel
set_option maxRecDepth 1000000 in
theorem c_m244 : n_meth 244 = true := by decide +kernel
set_option maxRecDepth 1000000 in
theorem c_m245 : n_meth 245 = true := by decide +kernel
set_option maxRecDepth 1000000 in
theorem c_m246 : n_meth 246 = true := by decide +kernel
set_option maxRecDepth 1000000 in
theorem c_m247 : n_meth 247 = true := by decide +kernel
set_option maxRecDepth 1000000 in
theorem c_m248 : n_meth 248 = true := by decide +kernel
set_option maxRecDepth 1000000 in
theorem c_m249 : n_meth 249 = true := by decide +kernel
set_option maxRecDepth 1000000 in
theorem c_m250 : n_meth 250 = true := by decide +kernel
set_option maxRecDepth 1000000 in
theorem c_m251 : n_meth 251 = true := by decide +kernel
set_option maxRecDepth 1000000 in
theorem c_m252 : n_meth 252 = true := by decide +kernel
set_option maxRecDepth 1000000 in
theorem c_m253 : n_meth 253 = true := by decide +kernel
set_option maxRecDepth 1000000 in
theorem c_m254 : n_meth 254 = true := by decide +kernel
theorem c_p6 : (List.range' 204 51).all (fun k => !(c_plain k) || n_M k) = true := by decide +kernel
