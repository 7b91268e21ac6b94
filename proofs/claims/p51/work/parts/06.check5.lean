set_option maxRecDepth 1000000 in
theorem c_m153 : n_meth 153 = true := by decide +kernel
set_option maxRecDepth 1000000 in
theorem c_m154 : n_meth 154 = true := by decide +kernel
set_option maxRecDepth 1000000 in
theorem c_m155 : n_meth 155 = true := by decide +kernel
set_option maxRecDepth 1000000 in
theorem c_m156 : n_meth 156 = true := by decide +kernel
set_option maxRecDepth 1000000 in
theorem c_m157 : n_meth 157 = true := by decide +kernel
set_option maxRecDepth 1000000 in
theorem c_m158 : n_meth 158 = true := by decide +kernel
set_option maxRecDepth 1000000 in
theorem c_m159 : n_meth 159 = true := by decide +kernel
set_option maxRecDepth 1000000 in
theorem c_m160 : n_meth 160 = true := by decide +kernel
set_option maxRecDepth 1000000 in
theorem c_m161 : n_meth 161 = true := by decide +kernel
set_option maxRecDepth 1000000 in
theorem c_m162 : n_meth 162 = true := by decide +kernel
set_option maxRecDepth 1000000 in
theorem c_m163 : n_meth 163 = true := by decide +kernel
set_option maxRecDepth 1000000 in
theorem c_m164 : n_meth 164 = true := by decide +kernel
set_option maxRecDepth 1000000 in
theorem c_m165 : n_meth 165 = true := by decide +kernel
set_option maxRecDepth 1000000 in
theorem c_m166 : n_meth 166 = true := by decide +kernel
set_option maxRecDepth 1000000 in
theorem c_m167 : n_meth 167 = true := by decide +kernel
set_option maxRecDepth 1000000 in
theorem c_m168 : n_meth 168 = true := by decide +kernel
set_option maxRecDepth 1000000 in
theorem c_m169 : n_meth 169 = true := by decide +kernel
set_option maxRecDepth 1000000 in
theorem c_m170 : n_meth 170 = true := by decide +kernel
set_option maxRecDepth 1000000 in
theorem c_m171 : n_meth 171 = true := by decide +kernel
set_option maxRecDepth 1000000 in
theorem c_m172 : n_meth 172 = true := by decide +kernel
set_option maxRecDepth 1000000 in
theorem c_m173 : n_meth 173 = true := by decide +kernel
set_option maxRecDepth 1000000 in
theorem c_m174 : n_meth 174 = true := by decide +kernel
set_option maxRecDepth 1000000 in
theorem c_m175 : n_meth 175 = true := by decide +kernel
set_option maxRecDepth 1000000 in
theorem c_m176 : n_meth 176 = true := by decide +kernel
set_option maxRecDepth 1000000 in
theorem c_m177 : n_meth 177 = true := by decide +kernel
set_option maxRecDepth 1000000 in
theorem c_m178 : n_meth 178 = true := by decide +kernel
set_option maxRecDepth 1000000 in
theorem c_m179 : n_meth 179 = true := by decide +kernel
set_option maxRecDepth 1000000 in
theorem c_m180 : n_meth 180 = true := by decide +kernel
set_option maxRecDepth 1000000 in
theorem c_m181 : n_meth 181 = true := by decide +kernel
set_option maxRecDepth 1000000 in
theorem c_m182 : n_meth 182 = true := by decide +kernel
set_option maxRecDepth 1000000 in
theorem c_m183 : n_meth 183 = true := by decide +kernel
set_option maxRecDepth 1000000 in
theorem c_m184 : n_meth 184 = true := by decide +kernel
set_option maxRecDepth 1000000 in
theorem c_m185 : n_meth 185 = true := by decide +kernel
set_option maxRecDepth 1000000 in
theorem c_m186 : n_meth 186 = true := by decide +kernel
set_option maxRecDepth 1000000 in
theorem c_m187 : n_meth 187 = true := by decide +kernel
set_option maxRecDepth 1000000 in
theorem c_m188 : n_meth 188 = true := by decide +kernel
set_option maxRecDepth 1000000 in
theorem c_m189 : n_meth 189 = true := by decide +kernel
set_option maxRecDepth 1000000 in
theorem c_m190 : n_meth 190 = true := by decide +kernel
set_option maxRecDepth 1000000 in
theorem c_m191 : n_meth 191 = true := by decide +kernel
set_option maxRecDepth 1000000 in
theorem c_m192 : n_meth 192 = true := by decide +kernel
set_option maxRecDepth 1000000 in
theorem c_m193 : n_meth 193 = true := by decide +kernel
set_option maxRecDepth 1000000 in
theorem c_m194 : n_meth 194 = true := by decide +kernel
set_option maxRecDepth 1000000 in
theorem c_m195 : n_meth 195 = true := by decide +kernel
set_option maxRecDepth 1000000 in
theorem c_m196 : n_meth 196 = true := by decide +kernel
set_option maxRecDepth 1000000 in
theorem c_m197 : n_meth 197 = true := by decide +kernel
set_option maxRecDepth 1000000 in
theorem c_m198 : n_meth 198 = true := by decide +kernel
set_option maxRecDepth 1000000 in
theorem c_m199 : n_meth 199 = true := by decide +kernel
set_option maxRecDepth 1000000 in
theorem c_m200 : n_meth 200 = true := by decide +kernel
set_option maxRecDepth 1000000 in
theorem c_m201 : n_meth 201 = true := by decide +kernel
set_option maxRecDepth 1000000 in
theorem c_m202 : n_meth 202 = true := by decide +kernel
set_option maxRecDepth 1000000 in
theorem c_m203 : n_meth 203 = true := by decide +kernel
theorem c_p5 : (List.range' 153 51).all (fun k => !(c_plain k) || n_M k) = true := by decide +kernel
