set_option maxRecDepth 50000 in
theorem gw_153 : Cond.code gm_153.1 gm_153.2.1 gm_153.2.2.1 gm_153.2.2.2.1 ∈ g_tw := g_cw (g_t5 (k := 191) rfl)
theorem gc_153 : g_ckP 153 gm_153 := g_ck_of gw_153 (by decide +kernel)
set_option maxRecDepth 50000 in
theorem gw_154 : Cond.code gm_154.1 gm_154.2.1 gm_154.2.2.1 gm_154.2.2.2.1 ∈ g_tw := g_cw (g_t5 (k := 206) rfl)
theorem gc_154 : g_ckP 154 gm_154 := g_ck_of gw_154 (by decide +kernel)
set_option maxRecDepth 50000 in
theorem gw_155 : Cond.code gm_155.1 gm_155.2.1 gm_155.2.2.1 gm_155.2.2.2.1 ∈ g_tw := g_cw (g_t6 (k := 197) rfl)
theorem gc_155 : g_ckP 155 gm_155 := g_ck_of gw_155 (by decide +kernel)
set_option maxRecDepth 50000 in
theorem gw_156 : Cond.code gm_156.1 gm_156.2.1 gm_156.2.2.1 gm_156.2.2.2.1 ∈ g_tw := g_cw (g_t5 (k := 210) rfl)
theorem gc_156 : g_ckP 156 gm_156 := g_ck_of gw_156 (by decide +kernel)
set_option maxRecDepth 50000 in
theorem gw_157 : Cond.code gm_157.1 gm_157.2.1 gm_157.2.2.1 gm_157.2.2.2.1 ∈ g_tw := g_cw (g_t5 (k := 214) rfl)
theorem gc_157 : g_ckP 157 gm_157 := g_ck_of gw_157 (by decide +kernel)
set_option maxRecDepth 50000 in
theorem gw_158 : Cond.code gm_158.1 gm_158.2.1 gm_158.2.2.1 gm_158.2.2.2.1 ∈ g_tw := g_cw (g_t5 (k := 235) rfl)
theorem gc_158 : g_ckP 158 gm_158 := g_ck_of gw_158 (by decide +kernel)
set_option maxRecDepth 50000 in
theorem gw_159 : Cond.code gm_159.1 gm_159.2.1 gm_159.2.2.1 gm_159.2.2.2.1 ∈ g_tw := g_cw (g_t6 (k := 3) rfl)
theorem gc_159 : g_ckP 159 gm_159 := g_ck_of gw_159 (by decide +kernel)
set_option maxRecDepth 50000 in
theorem gw_160 : Cond.code gm_160.1 gm_160.2.1 gm_160.2.2.1 gm_160.2.2.2.1 ∈ g_tw := g_cw (g_t6 (k := 7) rfl)
theorem gc_160 : g_ckP 160 gm_160 := g_ck_of gw_160 (by decide +kernel)
set_option maxRecDepth 50000 in
theorem gw_161 : Cond.code gm_161.1 gm_161.2.1 gm_161.2.2.1 gm_161.2.2.2.1 ∈ g_tw := g_cw (g_t6 (k := 32) rfl)
theorem gc_161 : g_ckP 161 gm_161 := g_ck_of gw_161 (by decide +kernel)
set_option maxRecDepth 50000 in
theorem gw_162 : Cond.code gm_162.1 gm_162.2.1 gm_162.2.2.1 gm_162.2.2.2.1 ∈ g_tw := g_cw (g_t6 (k := 42) rfl)
theorem gc_162 : g_ckP 162 gm_162 := g_ck_of gw_162 (by decide +kernel)
set_option maxRecDepth 50000 in
theorem gw_163 : Cond.code gm_163.1 gm_163.2.1 gm_163.2.2.1 gm_163.2.2.2.1 ∈ g_tw := g_cw (g_t6 (k := 68) rfl)
theorem gc_163 : g_ckP 163 gm_163 := g_ck_of gw_163 (by decide +kernel)
set_option maxRecDepth 50000 in
theorem gw_164 : Cond.code gm_164.1 gm_164.2.1 gm_164.2.2.1 gm_164.2.2.2.1 ∈ g_tw := g_cw (g_t6 (k := 84) rfl)
theorem gc_164 : g_ckP 164 gm_164 := g_ck_of gw_164 (by decide +kernel)
set_option maxRecDepth 50000 in
theorem gw_165 : Cond.code gm_165.1 gm_165.2.1 gm_165.2.2.1 gm_165.2.2.2.1 ∈ g_tw := g_cw (g_t3 (k := 194) rfl)
theorem gc_165 : g_ckP 165 gm_165 := g_ck_of gw_165 (by decide +kernel)
set_option maxRecDepth 50000 in
theorem gw_166 : Cond.code gm_166.1 gm_166.2.1 gm_166.2.2.1 gm_166.2.2.2.1 ∈ g_tw := g_cw (g_t4 (k := 146) rfl)
theorem gc_166 : g_ckP 166 gm_166 := g_ck_of gw_166 (by decide +kernel)
set_option maxRecDepth 50000 in
theorem gw_167 : Cond.code gm_167.1 gm_167.2.1 gm_167.2.2.1 gm_167.2.2.2.1 ∈ g_tw := g_cw (g_t4 (k := 135) rfl)
theorem gc_167 : g_ckP 167 gm_167 := g_ck_of gw_167 (by decide +kernel)
set_option maxRecDepth 50000 in
theorem gw_168 : Cond.code gm_168.1 gm_168.2.1 gm_168.2.2.1 gm_168.2.2.2.1 ∈ g_tw := g_cw (g_t4 (k := 214) rfl)
theorem gc_168 : g_ckP 168 gm_168 := g_ck_of gw_168 (by decide +kernel)
set_option maxRecDepth 50000 in
theorem gw_169 : Cond.code gm_169.1 gm_169.2.1 gm_169.2.2.1 gm_169.2.2.2.1 ∈ g_tw := g_cw (g_t4 (k := 154) rfl)
theorem gc_169 : g_ckP 169 gm_169 := g_ck_of gw_169 (by decide +kernel)
set_option maxRecDepth 50000 in
theorem gw_170 : Cond.code gm_170.1 gm_170.2.1 gm_170.2.2.1 gm_170.2.2.2.1 ∈ g_tw := g_cw (g_t5 (k := 178) rfl)
theorem gc_170 : g_ckP 170 gm_170 := g_ck_of gw_170 (by decide +kernel)
set_option maxRecDepth 50000 in
theorem gw_171 : Cond.code gm_171.1 gm_171.2.1 gm_171.2.2.1 gm_171.2.2.2.1 ∈ g_tw := g_cw (g_t4 (k := 138) rfl)
theorem gc_171 : g_ckP 171 gm_171 := g_ck_of gw_171 (by decide +kernel)
set_option maxRecDepth 50000 in
theorem gw_172 : Cond.code gm_172.1 gm_172.2.1 gm_172.2.2.1 gm_172.2.2.2.1 ∈ g_tw := g_cw (g_t5 (k := 132) rfl)
theorem gc_172 : g_ckP 172 gm_172 := g_ck_of gw_172 (by decide +kernel)
set_option maxRecDepth 50000 in
theorem gw_173 : Cond.code gm_173.1 gm_173.2.1 gm_173.2.2.1 gm_173.2.2.2.1 ∈ g_tw := g_cw (g_t6 (k := 204) rfl)
theorem gc_173 : g_ckP 173 gm_173 := g_ck_of gw_173 (by decide +kernel)
set_option maxRecDepth 50000 in
theorem gw_174 : Cond.code gm_174.1 gm_174.2.1 gm_174.2.2.1 gm_174.2.2.2.1 ∈ g_tw := g_cw (g_t6 (k := 208) rfl)
theorem gc_174 : g_ckP 174 gm_174 := g_ck_of gw_174 (by decide +kernel)
set_option maxRecDepth 50000 in
theorem gw_175 : Cond.code gm_175.1 gm_175.2.1 gm_175.2.2.1 gm_175.2.2.2.1 ∈ g_tw := g_cw (g_t6 (k := 213) rfl)
theorem gc_175 : g_ckP 175 gm_175 := g_ck_of gw_175 (by decide +kernel)
set_option maxRecDepth 50000 in
theorem gw_176 : Cond.code gm_176.1 gm_176.2.1 gm_176.2.2.1 gm_176.2.2.2.1 ∈ g_tw := g_cw (g_t6 (k := 217) rfl)
theorem gc_176 : g_ckP 176 gm_176 := g_ck_of gw_176 (by decide +kernel)
set_option maxRecDepth 50000 in
theorem gw_177 : Cond.code gm_177.1 gm_177.2.1 gm_177.2.2.1 gm_177.2.2.2.1 ∈ g_tw := g_cw (g_t7 (k := 111) rfl)
theorem gc_177 : g_ckP 177 gm_177 := g_ck_of gw_177 (by decide +kernel)
set_option maxRecDepth 50000 in
theorem gw_178 : Cond.code gm_178.1 gm_178.2.1 gm_178.2.2.1 gm_178.2.2.2.1 ∈ g_tw := g_cw (g_t7 (k := 118) rfl)
theorem gc_178 : g_ckP 178 gm_178 := g_ck_of gw_178 (by decide +kernel)
set_option maxRecDepth 50000 in
theorem gw_179 : Cond.code gm_179.1 gm_179.2.1 gm_179.2.2.1 gm_179.2.2.2.1 ∈ g_tw := g_cw (g_t7 (k := 115) rfl)
theorem gc_179 : g_ckP 179 gm_179 := g_ck_of gw_179 (by decide +kernel)
set_option maxRecDepth 50000 in
theorem gw_180 : Cond.code gm_180.1 gm_180.2.1 gm_180.2.2.1 gm_180.2.2.2.1 ∈ g_tw := g_cw (g_t7 (k := 123) rfl)
theorem gc_180 : g_ckP 180 gm_180 := g_ck_of gw_180 (by decide +kernel)
set_option maxRecDepth 50000 in
theorem gw_181 : Cond.code gm_181.1 gm_181.2.1 gm_181.2.2.1 gm_181.2.2.2.1 ∈ g_tw := g_cw (g_t7 (k := 108) rfl)
theorem gc_181 : g_ckP 181 gm_181 := g_ck_of gw_181 (by decide +kernel)
set_option maxRecDepth 50000 in
theorem gw_182 : Cond.code gm_182.1 gm_182.2.1 gm_182.2.2.1 gm_182.2.2.2.1 ∈ g_tw := g_cw (g_t7 (k := 139) rfl)
theorem gc_182 : g_ckP 182 gm_182 := g_ck_of gw_182 (by decide +kernel)
set_option maxRecDepth 50000 in
theorem gw_183 : Cond.code gm_183.1 gm_183.2.1 gm_183.2.2.1 gm_183.2.2.2.1 ∈ g_tw := g_cw (g_t7 (k := 151) rfl)
theorem gc_183 : g_ckP 183 gm_183 := g_ck_of gw_183 (by decide +kernel)
set_option maxRecDepth 50000 in
theorem gw_184 : Cond.code gm_184.1 gm_184.2.1 gm_184.2.2.1 gm_184.2.2.2.1 ∈ g_tw := g_cw (g_t7 (k := 135) rfl)
theorem gc_184 : g_ckP 184 gm_184 := g_ck_of gw_184 (by decide +kernel)
set_option maxRecDepth 50000 in
theorem gw_185 : Cond.code gm_185.1 gm_185.2.1 gm_185.2.2.1 gm_185.2.2.2.1 ∈ g_tw := g_cw (g_t7 (k := 147) rfl)
theorem gc_185 : g_ckP 185 gm_185 := g_ck_of gw_185 (by decide +kernel)
set_option maxRecDepth 50000 in
theorem gw_186 : Cond.code gm_186.1 gm_186.2.1 gm_186.2.2.1 gm_186.2.2.2.1 ∈ g_tw := g_cw (g_t7 (k := 238) rfl)
theorem gc_186 : g_ckP 186 gm_186 := g_ck_of gw_186 (by decide +kernel)
set_option maxRecDepth 50000 in
theorem gw_187 : Cond.code gm_187.1 gm_187.2.1 gm_187.2.2.1 gm_187.2.2.2.1 ∈ g_tw := g_cw (g_t7 (k := 131) rfl)
theorem gc_187 : g_ckP 187 gm_187 := g_ck_of gw_187 (by decide +kernel)
set_option maxRecDepth 50000 in
theorem gw_188 : Cond.code gm_188.1 gm_188.2.1 gm_188.2.2.1 gm_188.2.2.2.1 ∈ g_tw := g_cw (g_t7 (k := 127) rfl)
theorem gc_188 : g_ckP 188 gm_188 := g_ck_of gw_188 (by decide +kernel)
set_option maxRecDepth 50000 in
theorem gw_189 : Cond.code gm_189.1 gm_189.2.1 gm_189.2.2.1 gm_189.2.2.2.1 ∈ g_tw := g_cw (g_t7 (k := 198) rfl)
theorem gc_189 : g_ckP 189 gm_189 := g_ck_of gw_189 (by decide +kernel)
set_option maxRecDepth 50000 in
theorem gw_190 : Cond.code gm_190.1 gm_190.2.1 gm_190.2.2.1 gm_190.2.2.2.1 ∈ g_tw := g_cw (g_t7 (k := 143) rfl)
theorem gc_190 : g_ckP 190 gm_190 := g_ck_of gw_190 (by decide +kernel)
set_option maxRecDepth 50000 in
theorem gw_191 : Cond.code gm_191.1 gm_191.2.1 gm_191.2.2.1 gm_191.2.2.2.1 ∈ g_tw := g_cw (g_t7 (k := 191) rfl)
theorem gc_191 : g_ckP 191 gm_191 := g_ck_of gw_191 (by decide +kernel)
set_option maxRecDepth 50000 in
theorem gw_192 : Cond.code gm_192.1 gm_192.2.1 gm_192.2.2.1 gm_192.2.2.2.1 ∈ g_tw := g_cw (g_t7 (k := 183) rfl)
theorem gc_192 : g_ckP 192 gm_192 := g_ck_of gw_192 (by decide +kernel)
set_option maxRecDepth 50000 in
theorem gw_193 : Cond.code gm_193.1 gm_193.2.1 gm_193.2.2.1 gm_193.2.2.2.1 ∈ g_tw := g_cw (g_t7 (k := 159) rfl)
theorem gc_193 : g_ckP 193 gm_193 := g_ck_of gw_193 (by decide +kernel)
set_option maxRecDepth 50000 in
theorem gw_194 : Cond.code gm_194.1 gm_194.2.1 gm_194.2.2.1 gm_194.2.2.2.1 ∈ g_tw := g_cw (g_t7 (k := 155) rfl)
theorem gc_194 : g_ckP 194 gm_194 := g_ck_of gw_194 (by decide +kernel)
set_option maxRecDepth 50000 in
theorem gw_195 : Cond.code gm_195.1 gm_195.2.1 gm_195.2.2.1 gm_195.2.2.2.1 ∈ g_tw := g_cw (g_t7 (k := 104) rfl)
theorem gc_195 : g_ckP 195 gm_195 := g_ck_of gw_195 (by decide +kernel)
set_option maxRecDepth 50000 in
theorem gw_196 : Cond.code gm_196.1 gm_196.2.1 gm_196.2.2.1 gm_196.2.2.2.1 ∈ g_tw := g_cw (g_t7 (k := 10) rfl)
theorem gc_196 : g_ckP 196 gm_196 := g_ck_of gw_196 (by decide +kernel)
set_option maxRecDepth 50000 in
theorem gw_197 : Cond.code gm_197.1 gm_197.2.1 gm_197.2.2.1 gm_197.2.2.2.1 ∈ g_tw := g_cw (g_t7 (k := 179) rfl)
theorem gc_197 : g_ckP 197 gm_197 := g_ck_of gw_197 (by decide +kernel)
set_option maxRecDepth 50000 in
theorem gw_198 : Cond.code gm_198.1 gm_198.2.1 gm_198.2.2.1 gm_198.2.2.2.1 ∈ g_tw := g_cw (g_t7 (k := 187) rfl)
theorem gc_198 : g_ckP 198 gm_198 := g_ck_of gw_198 (by decide +kernel)
set_option maxRecDepth 50000 in
theorem gw_199 : Cond.code gm_199.1 gm_199.2.1 gm_199.2.2.1 gm_199.2.2.2.1 ∈ g_tw := g_cw (g_t7 (k := 163) rfl)
theorem gc_199 : g_ckP 199 gm_199 := g_ck_of gw_199 (by decide +kernel)
set_option maxRecDepth 50000 in
theorem gw_200 : Cond.code gm_200.1 gm_200.2.1 gm_200.2.2.1 gm_200.2.2.2.1 ∈ g_tw := g_cw (g_t7 (k := 206) rfl)
theorem gc_200 : g_ckP 200 gm_200 := g_ck_of gw_200 (by decide +kernel)
set_option maxRecDepth 50000 in
theorem gw_201 : Cond.code gm_201.1 gm_201.2.1 gm_201.2.2.1 gm_201.2.2.2.1 ∈ g_tw := g_cw (g_t7 (k := 167) rfl)
theorem gc_201 : g_ckP 201 gm_201 := g_ck_of gw_201 (by decide +kernel)
set_option maxRecDepth 50000 in
theorem gw_202 : Cond.code gm_202.1 gm_202.2.1 gm_202.2.2.1 gm_202.2.2.2.1 ∈ g_tw := g_cw (g_t7 (k := 210) rfl)
theorem gc_202 : g_ckP 202 gm_202 := g_ck_of gw_202 (by decide +kernel)
set_option maxRecDepth 50000 in
theorem gw_203 : Cond.code gm_203.1 gm_203.2.1 gm_203.2.2.1 gm_203.2.2.2.1 ∈ g_tw := g_cw (g_t7 (k := 175) rfl)
theorem gc_203 : g_ckP 203 gm_203 := g_ck_of gw_203 (by decide +kernel)
set_option maxRecDepth 50000 in
theorem gw_204 : Cond.code gm_204.1 gm_204.2.1 gm_204.2.2.1 gm_204.2.2.2.1 ∈ g_tw := g_cw (g_t7 (k := 171) rfl)
theorem gc_204 : g_ckP 204 gm_204 := g_ck_of gw_204 (by decide +kernel)
set_option maxRecDepth 50000 in
theorem gw_205 : Cond.code gm_205.1 gm_205.2.1 gm_205.2.2.1 gm_205.2.2.2.1 ∈ g_tw := g_cw (g_t7 (k := 195) rfl)
theorem gc_205 : g_ckP 205 gm_205 := g_ck_of gw_205 (by decide +kernel)
set_option maxRecDepth 50000 in
theorem gw_206 : Cond.code gm_206.1 gm_206.2.1 gm_206.2.2.1 gm_206.2.2.2.1 ∈ g_tw := g_cw (g_t7 (k := 202) rfl)
theorem gc_206 : g_ckP 206 gm_206 := g_ck_of gw_206 (by decide +kernel)
set_option maxRecDepth 50000 in
theorem gw_207 : Cond.code gm_207.1 gm_207.2.1 gm_207.2.2.1 gm_207.2.2.2.1 ∈ g_tw := g_cw (g_t7 (k := 234) rfl)
theorem gc_207 : g_ckP 207 gm_207 := g_ck_of gw_207 (by decide +kernel)
set_option maxRecDepth 50000 in
theorem gw_208 : Cond.code gm_208.1 gm_208.2.1 gm_208.2.2.1 gm_208.2.2.2.1 ∈ g_tw := g_cw (g_t7 (k := 214) rfl)
theorem gc_208 : g_ckP 208 gm_208 := g_ck_of gw_208 (by decide +kernel)
set_option maxRecDepth 50000 in
theorem gw_209 : Cond.code gm_209.1 gm_209.2.1 gm_209.2.2.1 gm_209.2.2.2.1 ∈ g_tw := g_cw (g_t7 (k := 218) rfl)
theorem gc_209 : g_ckP 209 gm_209 := g_ck_of gw_209 (by decide +kernel)
set_option maxRecDepth 50000 in
theorem gw_210 : Cond.code gm_210.1 gm_210.2.1 gm_210.2.2.1 gm_210.2.2.2.1 ∈ g_tw := g_cw (g_t7 (k := 222) rfl)
theorem gc_210 : g_ckP 210 gm_210 := g_ck_of gw_210 (by decide +kernel)
set_option maxRecDepth 50000 in
theorem gw_211 : Cond.code gm_211.1 gm_211.2.1 gm_211.2.2.1 gm_211.2.2.2.1 ∈ g_tw := g_cw (g_t7 (k := 226) rfl)
theorem gc_211 : g_ckP 211 gm_211 := g_ck_of gw_211 (by decide +kernel)
set_option maxRecDepth 50000 in
theorem gw_212 : Cond.code gm_212.1 gm_212.2.1 gm_212.2.2.1 gm_212.2.2.2.1 ∈ g_tw := g_cw (g_t7 (k := 230) rfl)
theorem gc_212 : g_ckP 212 gm_212 := g_ck_of gw_212 (by decide +kernel)
set_option maxRecDepth 50000 in
theorem gw_213 : Cond.code gm_213.1 gm_213.2.1 gm_213.2.2.1 gm_213.2.2.2.1 ∈ g_tw := g_cw (g_t8 (k := 159) rfl)
theorem gc_213 : g_ckP 213 gm_213 := g_ck_of gw_213 (by decide +kernel)
set_option maxRecDepth 50000 in
theorem gw_214 : Cond.code gm_214.1 gm_214.2.1 gm_214.2.2.1 gm_214.2.2.2.1 ∈ g_tw := g_cw (g_t8 (k := 162) rfl)
theorem gc_214 : g_ckP 214 gm_214 := g_ck_of gw_214 (by decide +kernel)
set_option maxRecDepth 50000 in
theorem gw_215 : Cond.code gm_215.1 gm_215.2.1 gm_215.2.2.1 gm_215.2.2.2.1 ∈ g_tw := g_cw (g_t8 (k := 69) rfl)
theorem gc_215 : g_ckP 215 gm_215 := g_ck_of gw_215 (by decide +kernel)
set_option maxRecDepth 50000 in
theorem gw_216 : Cond.code gm_216.1 gm_216.2.1 gm_216.2.2.1 gm_216.2.2.2.1 ∈ g_tw := g_cw (g_t7 (k := 14) rfl)
theorem gc_216 : g_ckP 216 gm_216 := g_ck_of gw_216 (by decide +kernel)
set_option maxRecDepth 50000 in
theorem gw_217 : Cond.code gm_217.1 gm_217.2.1 gm_217.2.2.1 gm_217.2.2.2.1 ∈ g_tw := g_cw (g_t8 (k := 65) rfl)
theorem gc_217 : g_ckP 217 gm_217 := g_ck_of gw_217 (by decide +kernel)
set_option maxRecDepth 50000 in
theorem gw_218 : Cond.code gm_218.1 gm_218.2.1 gm_218.2.2.1 gm_218.2.2.2.1 ∈ g_tw := g_cw (g_t8 (k := 10) rfl)
theorem gc_218 : g_ckP 218 gm_218 := g_ck_of gw_218 (by decide +kernel)
set_option maxRecDepth 50000 in
theorem gw_219 : Cond.code gm_219.1 gm_219.2.1 gm_219.2.2.1 gm_219.2.2.2.1 ∈ g_tw := g_cw (g_t8 (k := 14) rfl)
theorem gc_219 : g_ckP 219 gm_219 := g_ck_of gw_219 (by decide +kernel)
set_option maxRecDepth 50000 in
theorem gw_220 : Cond.code gm_220.1 gm_220.2.1 gm_220.2.2.1 gm_220.2.2.2.1 ∈ g_tw := g_cw (g_t8 (k := 53) rfl)
theorem gc_220 : g_ckP 220 gm_220 := g_ck_of gw_220 (by decide +kernel)
set_option maxRecDepth 50000 in
theorem gw_221 : Cond.code gm_221.1 gm_221.2.1 gm_221.2.2.1 gm_221.2.2.2.1 ∈ g_tw := g_cw (g_t8 (k := 26) rfl)
theorem gc_221 : g_ckP 221 gm_221 := g_ck_of gw_221 (by decide +kernel)
set_option maxRecDepth 50000 in
theorem gw_222 : Cond.code gm_222.1 gm_222.2.1 gm_222.2.2.1 gm_222.2.2.2.1 ∈ g_tw := g_cw (g_t8 (k := 49) rfl)
theorem gc_222 : g_ckP 222 gm_222 := g_ck_of gw_222 (by decide +kernel)
set_option maxRecDepth 50000 in
theorem gw_223 : Cond.code gm_223.1 gm_223.2.1 gm_223.2.2.1 gm_223.2.2.2.1 ∈ g_tw := g_cw (g_t8 (k := 34) rfl)
theorem gc_223 : g_ckP 223 gm_223 := g_ck_of gw_223 (by decide +kernel)
set_option maxRecDepth 50000 in
theorem gw_224 : Cond.code gm_224.1 gm_224.2.1 gm_224.2.2.1 gm_224.2.2.2.1 ∈ g_tw := g_cw (g_t8 (k := 6) rfl)
theorem gc_224 : g_ckP 224 gm_224 := g_ck_of gw_224 (by decide +kernel)
set_option maxRecDepth 50000 in
theorem gw_225 : Cond.code gm_225.1 gm_225.2.1 gm_225.2.2.1 gm_225.2.2.2.1 ∈ g_tw := g_cw (g_t8 (k := 18) rfl)
theorem gc_225 : g_ckP 225 gm_225 := g_ck_of gw_225 (by decide +kernel)
set_option maxRecDepth 50000 in
theorem gw_226 : Cond.code gm_226.1 gm_226.2.1 gm_226.2.2.1 gm_226.2.2.2.1 ∈ g_tw := g_cw (g_t8 (k := 38) rfl)
theorem gc_226 : g_ckP 226 gm_226 := g_ck_of gw_226 (by decide +kernel)
set_option maxRecDepth 50000 in
theorem gw_227 : Cond.code gm_227.1 gm_227.2.1 gm_227.2.2.1 gm_227.2.2.2.1 ∈ g_tw := g_cw (g_t8 (k := 22) rfl)
theorem gc_227 : g_ckP 227 gm_227 := g_ck_of gw_227 (by decide +kernel)
set_option maxRecDepth 50000 in
theorem gw_228 : Cond.code gm_228.1 gm_228.2.1 gm_228.2.2.1 gm_228.2.2.2.1 ∈ g_tw := g_cw (g_t8 (k := 87) rfl)
theorem gc_228 : g_ckP 228 gm_228 := g_ck_of gw_228 (by decide +kernel)
set_option maxRecDepth 50000 in
theorem gw_229 : Cond.code gm_229.1 gm_229.2.1 gm_229.2.2.1 gm_229.2.2.2.1 ∈ g_tw := g_cw (g_t8 (k := 98) rfl)
theorem gc_229 : g_ckP 229 gm_229 := g_ck_of gw_229 (by decide +kernel)
