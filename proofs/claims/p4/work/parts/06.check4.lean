set_option maxRecDepth 1000000 in
theorem c_m153 : c_meth 153 = true := by decide +kernel
set_option maxRecDepth 1000000 in
theorem c_m154 : c_meth 154 = true := by decide +kernel
set_option maxRecDepth 1000000 in
theorem c_m155 : c_meth 155 = true := by decide +kernel
set_option maxRecDepth 1000000 in
theorem c_m156 : c_meth 156 = true := by decide +kernel
set_option maxRecDepth 1000000 in
theorem c_m157 : c_meth 157 = true := by decide +kernel
set_option maxRecDepth 1000000 in
theorem c_m158 : c_meth 158 = true := by decide +kernel
set_option maxRecDepth 1000000 in
theorem c_m159 : c_meth 159 = true := by decide +kernel
set_option maxRecDepth 1000000 in
theorem c_m160 : c_meth 160 = true := by decide +kernel
set_option maxRecDepth 1000000 in
theorem c_m161 : c_meth 161 = true := by decide +kernel
set_option maxRecDepth 1000000 in
theorem c_m162 : c_meth 162 = true := by decide +kernel
set_option maxRecDepth 1000000 in
theorem c_m163 : c_meth 163 = true := by decide +kernel
set_option maxRecDepth 1000000 in
theorem c_m164 : c_meth 164 = true := by decide +kernel
set_option maxRecDepth 1000000 in
theorem c_m165 : c_meth 165 = true := by decide +kernel
set_option maxRecDepth 1000000 in
theorem c_m166 : c_meth 166 = true := by decide +kernel
set_option maxRecDepth 1000000 in
theorem c_m167 : c_meth 167 = true := by decide +kernel
set_option maxRecDepth 1000000 in
theorem c_m168 : c_meth 168 = true := by decide +kernel
set_option maxRecDepth 1000000 in
theorem c_m169 : c_meth 169 = true := by decide +kernel
set_option maxRecDepth 1000000 in
theorem c_m170 : c_meth 170 = true := by decide +kernel
set_option maxRecDepth 1000000 in
theorem c_m171 : c_meth 171 = true := by decide +kernel
set_option maxRecDepth 1000000 in
theorem c_m172 : c_meth 172 = true := by decide +kernel
set_option maxRecDepth 1000000 in
theorem c_m173 : c_meth 173 = true := by decide +kernel
set_option maxRecDepth 1000000 in
theorem c_m174 : c_meth 174 = true := by decide +kernel
set_option maxRecDepth 1000000 in
theorem c_m175 : c_meth 175 = true := by decide +kernel
set_option maxRecDepth 1000000 in
theorem c_m176 : c_meth 176 = true := by decide +kernel
set_option maxRecDepth 1000000 in
theorem c_m177 : c_meth 177 = true := by decide +kernel
set_option maxRecDepth 1000000 in
theorem c_m178 : c_meth 178 = true := by decide +kernel
set_option maxRecDepth 1000000 in
theorem c_m179 : c_meth 179 = true := by decide +kernel
set_option maxRecDepth 1000000 in
theorem c_m180 : c_meth 180 = true := by decide +kernel
set_option maxRecDepth 1000000 in
theorem c_m181 : c_meth 181 = true := by decide +kernel
set_option maxRecDepth 1000000 in
theorem c_m182 : c_meth 182 = true := by decide +kernel
set_option maxRecDepth 1000000 in
theorem c_m183 : c_meth 183 = true := by decide +kernel
set_option maxRecDepth 1000000 in
theorem c_m184 : c_meth 184 = true := by decide +kernel
set_option maxRecDepth 1000000 in
theorem c_m185 : c_meth 185 = true := by decide +kernel
set_option maxRecDepth 1000000 in
theorem c_m186 : c_meth 186 = true := by decide +kernel
set_option maxRecDepth 1000000 in
theorem c_m187 : c_meth 187 = true := by decide +kernel
set_option maxRecDepth 1000000 in
theorem c_m188 : c_meth 188 = true := by decide +kernel
set_option maxRecDepth 1000000 in
theorem c_m189 : c_meth 189 = true := by decide +kernel
set_option maxRecDepth 1000000 in
theorem c_m190 : c_meth 190 = true := by decide +kernel
set_option maxRecDepth 1000000 in
theorem c_m191 : c_meth 191 = true := by decide +kernel
set_option maxRecDepth 1000000 in
theorem c_m192 : c_meth 192 = true := by decide +kernel
set_option maxRecDepth 1000000 in
theorem c_m193 : c_meth 193 = true := by decide +kernel
set_option maxRecDepth 1000000 in
theorem c_m194 : c_meth 194 = true := by decide +kernel
set_option maxRecDepth 1000000 in
theorem c_m195 : c_meth 195 = true := by decide +kernel
set_option maxRecDepth 1000000 in
theorem c_m196 : c_meth 196 = true := by decide +kernel
set_option maxRecDepth 1000000 in
theorem c_m197 : c_meth 197 = true := by decide +kernel
set_option maxRecDepth 1000000 in
theorem c_m198 : c_meth 198 = true := by decide +kernel
set_option maxRecDepth 1000000 in
theorem c_m199 : c_meth 199 = true := by decide +kernel
set_option maxRecDepth 1000000 in
theorem c_m200 : c_meth 200 = true := by decide +kernel
set_option maxRecDepth 1000000 in
theorem c_m201 : c_meth 201 = true := by decide +kernel
set_option maxRecDepth 1000000 in
theorem c_m202 : c_meth 202 = true := by decide +kernel
set_option maxRecDepth 1000000 in
theorem c_m203 : c_meth 203 = true := by decide +kernel
