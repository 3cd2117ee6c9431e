theorem hz_4562_45_166 : zf 4562 Ik_45 Rk_166 := zf_le hz_4561_45_166 (by decide)
theorem hz_4563_45_166 : zf 4563 Ik_45 Rk_166 := zf_le hz_4562_45_166 (by decide)
def Rk_167 : Nat → Nat → Option Nat := va_up Rk_166 4561 (va_up (Rk_166 4561) 1 (some 4562))
theorem hz_4563_45_167 : zf 4563 Ik_45 Rk_167 := zf_R hz_4563_45_166 (by decide)
theorem hz_4564_45_167 : zf 4564 Ik_45 Rk_167 := zf_le hz_4563_45_167 (by decide)
def Rk_168 : Nat → Nat → Option Nat := va_up Rk_167 4561 (va_up (Rk_167 4561) 2 (some 4563))
theorem hz_4564_45_168 : zf 4564 Ik_45 Rk_168 := zf_R hz_4564_45_167 (by decide)
theorem hz_4565_45_168 : zf 4565 Ik_45 Rk_168 := zf_le hz_4564_45_168 (by decide)
def Rk_169 : Nat → Nat → Option Nat := va_up Rk_168 4561 (va_up (Rk_168 4561) 3 (some 4564))
theorem hz_4565_45_169 : zf 4565 Ik_45 Rk_169 := zf_R hz_4565_45_168 (by decide)
theorem hz_4566_45_169 : zf 4566 Ik_45 Rk_169 := zf_le hz_4565_45_169 (by decide)
def Rk_170 : Nat → Nat → Option Nat := va_up Rk_169 4561 (va_up (Rk_169 4561) 4 (some 4565))
theorem hz_4566_45_170 : zf 4566 Ik_45 Rk_170 := zf_R hz_4566_45_169 (by decide)
theorem hz_4567_45_170 : zf 4567 Ik_45 Rk_170 := zf_le hz_4566_45_170 (by decide)
def Rk_171 : Nat → Nat → Option Nat := va_up Rk_170 4561 (va_up (Rk_170 4561) 5 (some 4566))
theorem hz_4567_45_171 : zf 4567 Ik_45 Rk_171 := zf_R hz_4567_45_170 (by decide)
theorem hz_4568_45_171 : zf 4568 Ik_45 Rk_171 := zf_le hz_4567_45_171 (by decide)
def Rk_172 : Nat → Nat → Option Nat := va_up Rk_171 4561 (va_up (Rk_171 4561) 6 (some 4567))
theorem hz_4568_45_172 : zf 4568 Ik_45 Rk_172 := zf_R hz_4568_45_171 (by decide)
theorem hz_4569_45_172 : zf 4569 Ik_45 Rk_172 := zf_le hz_4568_45_172 (by decide)
def Rk_173 : Nat → Nat → Option Nat := va_up Rk_172 4561 (va_up (Rk_172 4561) 7 (some 4568))
theorem hz_4569_45_173 : zf 4569 Ik_45 Rk_173 := zf_R hz_4569_45_172 (by decide)
theorem hz_4570_45_173 : zf 4570 Ik_45 Rk_173 := zf_le hz_4569_45_173 (by decide)
def Rk_174 : Nat → Nat → Option Nat := va_up Rk_173 4561 (va_up (Rk_173 4561) 8 (some 4569))
theorem hz_4570_45_174 : zf 4570 Ik_45 Rk_174 := zf_R hz_4570_45_173 (by decide)
theorem hz_4571_45_174 : zf 4571 Ik_45 Rk_174 := zf_le hz_4570_45_174 (by decide)
def Rk_175 : Nat → Nat → Option Nat := va_up Rk_174 4561 (va_up (Rk_174 4561) 9 (some 4570))
theorem hz_4571_45_175 : zf 4571 Ik_45 Rk_175 := zf_R hz_4571_45_174 (by decide)
theorem hz_4572_45_175 : zf 4572 Ik_45 Rk_175 := zf_le hz_4571_45_175 (by decide)
def Rk_176 : Nat → Nat → Option Nat := va_up Rk_175 4561 (va_up (Rk_175 4561) 11 (some 4571))
theorem hz_4572_45_176 : zf 4572 Ik_45 Rk_176 := zf_R hz_4572_45_175 (by decide)
theorem hz_4573_45_176 : zf 4573 Ik_45 Rk_176 := zf_le hz_4572_45_176 (by decide)
def Rk_177 : Nat → Nat → Option Nat := va_up Rk_176 4561 (va_up (Rk_176 4561) 12 (some 4572))
theorem hz_4573_45_177 : zf 4573 Ik_45 Rk_177 := zf_R hz_4573_45_176 (by decide)
theorem hz_4574_45_177 : zf 4574 Ik_45 Rk_177 := zf_le hz_4573_45_177 (by decide)
def Rk_178 : Nat → Nat → Option Nat := va_up Rk_177 4561 (va_up (Rk_177 4561) 13 (some 4573))
theorem hz_4574_45_178 : zf 4574 Ik_45 Rk_178 := zf_R hz_4574_45_177 (by decide)
theorem hz_4575_45_178 : zf 4575 Ik_45 Rk_178 := zf_le hz_4574_45_178 (by decide)
def Rk_179 : Nat → Nat → Option Nat := va_up Rk_178 4561 (va_up (Rk_178 4561) 14 (some 4574))
theorem hz_4575_45_179 : zf 4575 Ik_45 Rk_179 := zf_R hz_4575_45_178 (by decide)
theorem hz_4576_45_179 : zf 4576 Ik_45 Rk_179 := zf_le hz_4575_45_179 (by decide)
def Rk_180 : Nat → Nat → Option Nat := va_up Rk_179 4561 (va_up (Rk_179 4561) 15 (some 4575))
theorem hz_4576_45_180 : zf 4576 Ik_45 Rk_180 := zf_R hz_4576_45_179 (by decide)
theorem hz_4577_45_180 : zf 4577 Ik_45 Rk_180 := zf_le hz_4576_45_180 (by decide)
def Rk_181 : Nat → Nat → Option Nat := va_up Rk_180 4561 (va_up (Rk_180 4561) 16 (some 4576))
theorem hz_4577_45_181 : zf 4577 Ik_45 Rk_181 := zf_R hz_4577_45_180 (by decide)
theorem hz_4578_45_181 : zf 4578 Ik_45 Rk_181 := zf_le hz_4577_45_181 (by decide)
def Rk_182 : Nat → Nat → Option Nat := va_up Rk_181 4561 (va_up (Rk_181 4561) 17 (some 4577))
theorem hz_4578_45_182 : zf 4578 Ik_45 Rk_182 := zf_R hz_4578_45_181 (by decide)
theorem hz_4579_45_182 : zf 4579 Ik_45 Rk_182 := zf_le hz_4578_45_182 (by decide)
def Rk_183 : Nat → Nat → Option Nat := va_up Rk_182 4561 (va_up (Rk_182 4561) 18 (some 4578))
theorem hz_4579_45_183 : zf 4579 Ik_45 Rk_183 := zf_R hz_4579_45_182 (by decide)
theorem hz_4580_45_183 : zf 4580 Ik_45 Rk_183 := zf_le hz_4579_45_183 (by decide)
def Rk_184 : Nat → Nat → Option Nat := va_up Rk_183 4561 (va_up (Rk_183 4561) 20 (some 4579))
theorem hz_4580_45_184 : zf 4580 Ik_45 Rk_184 := zf_R hz_4580_45_183 (by decide)
theorem hz_4581_45_184 : zf 4581 Ik_45 Rk_184 := zf_le hz_4580_45_184 (by decide)
def Rk_185 : Nat → Nat → Option Nat := va_up Rk_184 4561 (va_up (Rk_184 4561) 21 (some 4580))
theorem hz_4581_45_185 : zf 4581 Ik_45 Rk_185 := zf_R hz_4581_45_184 (by decide)
theorem hz_4582_45_185 : zf 4582 Ik_45 Rk_185 := zf_le hz_4581_45_185 (by decide)
def Rk_186 : Nat → Nat → Option Nat := va_up Rk_185 4561 (va_up (Rk_185 4561) 22 (some 4581))
theorem hz_4582_45_186 : zf 4582 Ik_45 Rk_186 := zf_R hz_4582_45_185 (by decide)
theorem hz_4583_45_186 : zf 4583 Ik_45 Rk_186 := zf_le hz_4582_45_186 (by decide)
def Rk_187 : Nat → Nat → Option Nat := va_up Rk_186 4561 (va_up (Rk_186 4561) 23 (some 4582))
theorem hz_4583_45_187 : zf 4583 Ik_45 Rk_187 := zf_R hz_4583_45_186 (by decide)
theorem hz_4584_45_187 : zf 4584 Ik_45 Rk_187 := zf_le hz_4583_45_187 (by decide)
def Rk_188 : Nat → Nat → Option Nat := va_up Rk_187 4561 (va_up (Rk_187 4561) 24 (some 4583))
theorem hz_4584_45_188 : zf 4584 Ik_45 Rk_188 := zf_R hz_4584_45_187 (by decide)
theorem hz_4585_45_188 : zf 4585 Ik_45 Rk_188 := zf_le hz_4584_45_188 (by decide)
def Rk_189 : Nat → Nat → Option Nat := va_up Rk_188 4561 (va_up (Rk_188 4561) 27 (some 4584))
theorem hz_4585_45_189 : zf 4585 Ik_45 Rk_189 := zf_R hz_4585_45_188 (by decide)
theorem hz_4586_45_189 : zf 4586 Ik_45 Rk_189 := zf_le hz_4585_45_189 (by decide)
def Rk_190 : Nat → Nat → Option Nat := va_up Rk_189 4561 (va_up (Rk_189 4561) 28 (some 4585))
theorem hz_4586_45_190 : zf 4586 Ik_45 Rk_190 := zf_R hz_4586_45_189 (by decide)
theorem hz_4587_45_190 : zf 4587 Ik_45 Rk_190 := zf_le hz_4586_45_190 (by decide)
def Rk_191 : Nat → Nat → Option Nat := va_up Rk_190 4561 (va_up (Rk_190 4561) 29 (some 4586))
theorem hz_4587_45_191 : zf 4587 Ik_45 Rk_191 := zf_R hz_4587_45_190 (by decide)
theorem hz_4588_45_191 : zf 4588 Ik_45 Rk_191 := zf_le hz_4587_45_191 (by decide)
def Rk_192 : Nat → Nat → Option Nat := va_up Rk_191 4561 (va_up (Rk_191 4561) 30 (some 4587))
theorem hz_4588_45_192 : zf 4588 Ik_45 Rk_192 := zf_R hz_4588_45_191 (by decide)
theorem hz_4589_45_192 : zf 4589 Ik_45 Rk_192 := zf_le hz_4588_45_192 (by decide)
def Rk_193 : Nat → Nat → Option Nat := va_up Rk_192 4561 (va_up (Rk_192 4561) 31 (some 4588))
theorem hz_4589_45_193 : zf 4589 Ik_45 Rk_193 := zf_R hz_4589_45_192 (by decide)
theorem hz_4590_45_193 : zf 4590 Ik_45 Rk_193 := zf_le hz_4589_45_193 (by decide)
def Rk_194 : Nat → Nat → Option Nat := va_up Rk_193 4561 (va_up (Rk_193 4561) 32 (some 4589))
theorem hz_4590_45_194 : zf 4590 Ik_45 Rk_194 := zf_R hz_4590_45_193 (by decide)
theorem hz_4591_45_194 : zf 4591 Ik_45 Rk_194 := zf_le hz_4590_45_194 (by decide)
def Rk_195 : Nat → Nat → Option Nat := va_up Rk_194 4561 (va_up (Rk_194 4561) 34 (some 4590))
theorem hz_4591_45_195 : zf 4591 Ik_45 Rk_195 := zf_R hz_4591_45_194 (by decide)
theorem hz_4592_45_195 : zf 4592 Ik_45 Rk_195 := zf_le hz_4591_45_195 (by decide)
def Rk_196 : Nat → Nat → Option Nat := va_up Rk_195 4561 (va_up (Rk_195 4561) 35 (some 4591))
theorem hz_4592_45_196 : zf 4592 Ik_45 Rk_196 := zf_R hz_4592_45_195 (by decide)
theorem hz_4593_45_196 : zf 4593 Ik_45 Rk_196 := zf_le hz_4592_45_196 (by decide)
def Rk_197 : Nat → Nat → Option Nat := va_up Rk_196 4561 (va_up (Rk_196 4561) 37 (some 4592))
theorem hz_4593_45_197 : zf 4593 Ik_45 Rk_197 := zf_R hz_4593_45_196 (by decide)
theorem hz_4594_45_197 : zf 4594 Ik_45 Rk_197 := zf_le hz_4593_45_197 (by decide)
def Rk_198 : Nat → Nat → Option Nat := va_up Rk_197 4561 (va_up (Rk_197 4561) 38 (some 4593))
theorem hz_4594_45_198 : zf 4594 Ik_45 Rk_198 := zf_R hz_4594_45_197 (by decide)
theorem hz_4595_45_198 : zf 4595 Ik_45 Rk_198 := zf_le hz_4594_45_198 (by decide)
def Rk_199 : Nat → Nat → Option Nat := va_up Rk_198 4561 (va_up (Rk_198 4561) 39 (some 4594))
theorem hz_4595_45_199 : zf 4595 Ik_45 Rk_199 := zf_R hz_4595_45_198 (by decide)
theorem hz_4596_45_199 : zf 4596 Ik_45 Rk_199 := zf_le hz_4595_45_199 (by decide)
def Rk_200 : Nat → Nat → Option Nat := va_up Rk_199 4561 (va_up (Rk_199 4561) 41 (some 4595))
theorem hz_4596_45_200 : zf 4596 Ik_45 Rk_200 := zf_R hz_4596_45_199 (by decide)
theorem hz_4597_45_200 : zf 4597 Ik_45 Rk_200 := zf_le hz_4596_45_200 (by decide)
def Rk_201 : Nat → Nat → Option Nat := va_up Rk_200 4561 (va_up (Rk_200 4561) 43 (some 4596))
theorem hz_4597_45_201 : zf 4597 Ik_45 Rk_201 := zf_R hz_4597_45_200 (by decide)
theorem hz_4598_45_201 : zf 4598 Ik_45 Rk_201 := zf_le hz_4597_45_201 (by decide)
def Rk_202 : Nat → Nat → Option Nat := va_up Rk_201 4561 (va_up (Rk_201 4561) 44 (some 4597))
theorem hz_4598_45_202 : zf 4598 Ik_45 Rk_202 := zf_R hz_4598_45_201 (by decide)
theorem hz_4599_45_202 : zf 4599 Ik_45 Rk_202 := zf_le hz_4598_45_202 (by decide)
def Rk_203 : Nat → Nat → Option Nat := va_up Rk_202 4561 (va_up (Rk_202 4561) 46 (some 4598))
theorem hz_4599_45_203 : zf 4599 Ik_45 Rk_203 := zf_R hz_4599_45_202 (by decide)
theorem hz_4600_45_203 : zf 4600 Ik_45 Rk_203 := zf_le hz_4599_45_203 (by decide)
def Rk_204 : Nat → Nat → Option Nat := va_up Rk_203 4561 (va_up (Rk_203 4561) 47 (some 4599))
theorem hz_4600_45_204 : zf 4600 Ik_45 Rk_204 := zf_R hz_4600_45_203 (by decide)
theorem hz_4601_45_204 : zf 4601 Ik_45 Rk_204 := zf_le hz_4600_45_204 (by decide)
def Rk_205 : Nat → Nat → Option Nat := va_up Rk_204 4561 (va_up (Rk_204 4561) 48 (some 4600))
theorem hz_4601_45_205 : zf 4601 Ik_45 Rk_205 := zf_R hz_4601_45_204 (by decide)
theorem hz_4602_45_205 : zf 4602 Ik_45 Rk_205 := zf_le hz_4601_45_205 (by decide)
def Rk_206 : Nat → Nat → Option Nat := va_up Rk_205 4561 (va_up (Rk_205 4561) 49 (some 4601))
theorem hz_4602_45_206 : zf 4602 Ik_45 Rk_206 := zf_R hz_4602_45_205 (by decide)
theorem hz_4603_45_206 : zf 4603 Ik_45 Rk_206 := zf_le hz_4602_45_206 (by decide)
def Rk_207 : Nat → Nat → Option Nat := va_up Rk_206 4561 (va_up (Rk_206 4561) 50 (some 4602))
theorem hz_4603_45_207 : zf 4603 Ik_45 Rk_207 := zf_R hz_4603_45_206 (by decide)
theorem hz_4604_45_207 : zf 4604 Ik_45 Rk_207 := zf_le hz_4603_45_207 (by decide)
def Rk_208 : Nat → Nat → Option Nat := va_up Rk_207 4561 (va_up (Rk_207 4561) 51 (some 4603))
theorem hz_4604_45_208 : zf 4604 Ik_45 Rk_208 := zf_R hz_4604_45_207 (by decide)
theorem hz_4605_45_208 : zf 4605 Ik_45 Rk_208 := zf_le hz_4604_45_208 (by decide)
def Rk_209 : Nat → Nat → Option Nat := va_up Rk_208 4561 (va_up (Rk_208 4561) 52 (some 4604))
theorem hz_4605_45_209 : zf 4605 Ik_45 Rk_209 := zf_R hz_4605_45_208 (by decide)
theorem hz_4606_45_209 : zf 4606 Ik_45 Rk_209 := zf_le hz_4605_45_209 (by decide)
def Rk_210 : Nat → Nat → Option Nat := va_up Rk_209 4561 (va_up (Rk_209 4561) 53 (some 4605))
theorem hz_4606_45_210 : zf 4606 Ik_45 Rk_210 := zf_R hz_4606_45_209 (by decide)
theorem hz_4607_45_210 : zf 4607 Ik_45 Rk_210 := zf_le hz_4606_45_210 (by decide)
def Rk_211 : Nat → Nat → Option Nat := va_up Rk_210 4561 (va_up (Rk_210 4561) 54 (some 4606))
theorem hz_4607_45_211 : zf 4607 Ik_45 Rk_211 := zf_R hz_4607_45_210 (by decide)
theorem hz_4608_45_211 : zf 4608 Ik_45 Rk_211 := zf_le hz_4607_45_211 (by decide)
def Rk_212 : Nat → Nat → Option Nat := va_up Rk_211 4561 (va_up (Rk_211 4561) 55 (some 4607))
theorem hz_4608_45_212 : zf 4608 Ik_45 Rk_212 := zf_R hz_4608_45_211 (by decide)
theorem hz_4609_45_212 : zf 4609 Ik_45 Rk_212 := zf_le hz_4608_45_212 (by decide)
def Rk_213 : Nat → Nat → Option Nat := va_up Rk_212 4561 (va_up (Rk_212 4561) 57 (some 4608))
theorem hz_4609_45_213 : zf 4609 Ik_45 Rk_213 := zf_R hz_4609_45_212 (by decide)
theorem hz_4610_45_213 : zf 4610 Ik_45 Rk_213 := zf_le hz_4609_45_213 (by decide)
def Rk_214 : Nat → Nat → Option Nat := va_up Rk_213 4561 (va_up (Rk_213 4561) 58 (some 4609))
theorem hz_4610_45_214 : zf 4610 Ik_45 Rk_214 := zf_R hz_4610_45_213 (by decide)
theorem hz_4611_45_214 : zf 4611 Ik_45 Rk_214 := zf_le hz_4610_45_214 (by decide)
def Rk_215 : Nat → Nat → Option Nat := va_up Rk_214 4561 (va_up (Rk_214 4561) 59 (some 4610))
theorem hz_4611_45_215 : zf 4611 Ik_45 Rk_215 := zf_R hz_4611_45_214 (by decide)
theorem hz_4612_45_215 : zf 4612 Ik_45 Rk_215 := zf_le hz_4611_45_215 (by decide)
def Rk_216 : Nat → Nat → Option Nat := va_up Rk_215 4561 (va_up (Rk_215 4561) 65 (some 4611))
theorem hz_4612_45_216 : zf 4612 Ik_45 Rk_216 := zf_R hz_4612_45_215 (by decide)
theorem hz_4613_45_216 : zf 4613 Ik_45 Rk_216 := zf_le hz_4612_45_216 (by decide)
def Rk_217 : Nat → Nat → Option Nat := va_up Rk_216 4561 (va_up (Rk_216 4561) 66 (some 4612))
theorem hz_4613_45_217 : zf 4613 Ik_45 Rk_217 := zf_R hz_4613_45_216 (by decide)
theorem hz_4614_45_217 : zf 4614 Ik_45 Rk_217 := zf_le hz_4613_45_217 (by decide)
def Rk_218 : Nat → Nat → Option Nat := va_up Rk_217 4561 (va_up (Rk_217 4561) 70 (some 4613))
theorem hz_4614_45_218 : zf 4614 Ik_45 Rk_218 := zf_R hz_4614_45_217 (by decide)
theorem hz_4615_45_218 : zf 4615 Ik_45 Rk_218 := zf_le hz_4614_45_218 (by decide)
def Rk_219 : Nat → Nat → Option Nat := va_up Rk_218 4561 (va_up (Rk_218 4561) 71 (some 4614))
theorem hz_4615_45_219 : zf 4615 Ik_45 Rk_219 := zf_R hz_4615_45_218 (by decide)
theorem hz_4616_45_219 : zf 4616 Ik_45 Rk_219 := zf_le hz_4615_45_219 (by decide)
def Rk_220 : Nat → Nat → Option Nat := va_up Rk_219 4561 (va_up (Rk_219 4561) 72 (some 4615))
theorem hz_4616_45_220 : zf 4616 Ik_45 Rk_220 := zf_R hz_4616_45_219 (by decide)
theorem hz_4617_45_220 : zf 4617 Ik_45 Rk_220 := zf_le hz_4616_45_220 (by decide)
def Rk_221 : Nat → Nat → Option Nat := va_up Rk_220 4561 (va_up (Rk_220 4561) 73 (some 4616))
theorem hz_4617_45_221 : zf 4617 Ik_45 Rk_221 := zf_R hz_4617_45_220 (by decide)
theorem hz_4618_45_221 : zf 4618 Ik_45 Rk_221 := zf_le hz_4617_45_221 (by decide)
def Rk_222 : Nat → Nat → Option Nat := va_up Rk_221 4561 (va_up (Rk_221 4561) 77 (some 4617))
theorem hz_4618_45_222 : zf 4618 Ik_45 Rk_222 := zf_R hz_4618_45_221 (by decide)
theorem hz_4619_45_222 : zf 4619 Ik_45 Rk_222 := zf_le hz_4618_45_222 (by decide)
def Rk_223 : Nat → Nat → Option Nat := va_up Rk_222 4561 (va_up (Rk_222 4561) 78 (some 4618))
theorem hz_4619_45_223 : zf 4619 Ik_45 Rk_223 := zf_R hz_4619_45_222 (by decide)
theorem hz_4620_45_223 : zf 4620 Ik_45 Rk_223 := zf_le hz_4619_45_223 (by decide)
def Rk_224 : Nat → Nat → Option Nat := va_up Rk_223 4561 (va_up (Rk_223 4561) 79 (some 4619))
theorem hz_4620_45_224 : zf 4620 Ik_45 Rk_224 := zf_R hz_4620_45_223 (by decide)
theorem hz_4621_45_224 : zf 4621 Ik_45 Rk_224 := zf_le hz_4620_45_224 (by decide)
def Rk_225 : Nat → Nat → Option Nat := va_up Rk_224 4561 (va_up (Rk_224 4561) 80 (some 4620))
theorem hz_4621_45_225 : zf 4621 Ik_45 Rk_225 := zf_R hz_4621_45_224 (by decide)
theorem hz_4622_45_225 : zf 4622 Ik_45 Rk_225 := zf_le hz_4621_45_225 (by decide)
def Rk_226 : Nat → Nat → Option Nat := va_up Rk_225 4561 (va_up (Rk_225 4561) 81 (some 4621))
theorem hz_4622_45_226 : zf 4622 Ik_45 Rk_226 := zf_R hz_4622_45_225 (by decide)
theorem hz_4623_45_226 : zf 4623 Ik_45 Rk_226 := zf_le hz_4622_45_226 (by decide)
def Rk_227 : Nat → Nat → Option Nat := va_up Rk_226 4561 (va_up (Rk_226 4561) 82 (some 4622))
theorem hz_4623_45_227 : zf 4623 Ik_45 Rk_227 := zf_R hz_4623_45_226 (by decide)
theorem hz_4624_45_227 : zf 4624 Ik_45 Rk_227 := zf_le hz_4623_45_227 (by decide)
def Rk_228 : Nat → Nat → Option Nat := va_up Rk_227 4561 (va_up (Rk_227 4561) 85 (some 4623))
theorem hz_4624_45_228 : zf 4624 Ik_45 Rk_228 := zf_R hz_4624_45_227 (by decide)
def Ik_46 : Nat → Nat → Int32 := va_up (va_up (va_up Ik_45 4575 (va_up (Ik_45 4575) 26 1)) 4576 (va_up (Ik_45 4576) 26 0)) 4577 (va_up (Ik_45 4577) 26 10)
theorem hz_4624_46_228 : zf 4624 Ik_46 Rk_228 := zf_I (zf_I (zf_I hz_4624_45_228 (by decide)) (by decide)) (by decide)
def Ik_47 : Nat → Nat → Int32 := va_up (va_up (va_up Ik_46 4575 (va_up (Ik_46 4575) 23 2)) 4576 (va_up (Ik_46 4576) 23 0)) 4577 (va_up (Ik_46 4577) 23 9)
theorem hz_4624_47_228 : zf 4624 Ik_47 Rk_228 := zf_I (zf_I (zf_I hz_4624_46_228 (by decide)) (by decide)) (by decide)
def Ik_48 : Nat → Nat → Int32 := va_up (va_up (va_up Ik_47 4575 (va_up (Ik_47 4575) 29 3)) 4576 (va_up (Ik_47 4576) 29 2)) 4577 (va_up (Ik_47 4577) 29 6)
theorem hz_4624_48_228 : zf 4624 Ik_48 Rk_228 := zf_I (zf_I (zf_I hz_4624_47_228 (by decide)) (by decide)) (by decide)
def Ik_49 : Nat → Nat → Int32 := va_up (va_up (va_up Ik_48 4575 (va_up (Ik_48 4575) 35 3)) 4576 (va_up (Ik_48 4576) 35 2)) 4577 (va_up (Ik_48 4577) 35 7)
theorem hz_4624_49_228 : zf 4624 Ik_49 Rk_228 := zf_I (zf_I (zf_I hz_4624_48_228 (by decide)) (by decide)) (by decide)
def Ik_50 : Nat → Nat → Int32 := va_up (va_up (va_up Ik_49 4575 (va_up (Ik_49 4575) 32 3)) 4576 (va_up (Ik_49 4576) 32 2)) 4577 (va_up (Ik_49 4577) 32 8)
theorem hz_4624_50_228 : zf 4624 Ik_50 Rk_228 := zf_I (zf_I (zf_I hz_4624_49_228 (by decide)) (by decide)) (by decide)
def Ik_51 : Nat → Nat → Int32 := va_up (va_up (va_up Ik_50 4575 (va_up (Ik_50 4575) 2 4)) 4576 (va_up (Ik_50 4576) 2 0)) 4577 (va_up (Ik_50 4577) 2 0)
theorem hz_4624_51_228 : zf 4624 Ik_51 Rk_228 := zf_I (zf_I (zf_I hz_4624_50_228 (by decide)) (by decide)) (by decide)
def Ik_52 : Nat → Nat → Int32 := va_up (va_up (va_up Ik_51 4575 (va_up (Ik_51 4575) 5 4)) 4576 (va_up (Ik_51 4576) 5 0)) 4577 (va_up (Ik_51 4577) 5 1)
theorem hz_4624_52_228 : zf 4624 Ik_52 Rk_228 := zf_I (zf_I (zf_I hz_4624_51_228 (by decide)) (by decide)) (by decide)
def Ik_53 : Nat → Nat → Int32 := va_up (va_up (va_up Ik_52 4575 (va_up (Ik_52 4575) 8 5)) 4576 (va_up (Ik_52 4576) 8 0)) 4577 (va_up (Ik_52 4577) 8 2)
theorem hz_4624_53_228 : zf 4624 Ik_53 Rk_228 := zf_I (zf_I (zf_I hz_4624_52_228 (by decide)) (by decide)) (by decide)
def Ik_54 : Nat → Nat → Int32 := va_up (va_up (va_up Ik_53 4575 (va_up (Ik_53 4575) 11 5)) 4576 (va_up (Ik_53 4576) 11 0)) 4577 (va_up (Ik_53 4577) 11 3)
theorem hz_4624_54_228 : zf 4624 Ik_54 Rk_228 := zf_I (zf_I (zf_I hz_4624_53_228 (by decide)) (by decide)) (by decide)
def Ik_55 : Nat → Nat → Int32 := va_up (va_up (va_up Ik_54 4575 (va_up (Ik_54 4575) 14 5)) 4576 (va_up (Ik_54 4576) 14 0)) 4577 (va_up (Ik_54 4577) 14 4)
theorem hz_4624_55_228 : zf 4624 Ik_55 Rk_228 := zf_I (zf_I (zf_I hz_4624_54_228 (by decide)) (by decide)) (by decide)
def Ik_56 : Nat → Nat → Int32 := va_up (va_up (va_up Ik_55 4575 (va_up (Ik_55 4575) 17 7)) 4576 (va_up (Ik_55 4576) 17 1)) 4577 (va_up (Ik_55 4577) 17 5)
theorem hz_4624_56_228 : zf 4624 Ik_56 Rk_228 := zf_I (zf_I (zf_I hz_4624_55_228 (by decide)) (by decide)) (by decide)
def Ik_57 : Nat → Nat → Int32 := va_up (va_up (va_up Ik_56 4575 (va_up (Ik_56 4575) 3 6)) 4576 (va_up (Ik_56 4576) 3 0)) 4577 (va_up (Ik_56 4577) 3 11)
theorem hz_4624_57_228 : zf 4624 Ik_57 Rk_228 := zf_I (zf_I (zf_I hz_4624_56_228 (by decide)) (by decide)) (by decide)
def Ik_58 : Nat → Nat → Int32 := va_up (va_up (va_up Ik_57 4575 (va_up (Ik_57 4575) 36 6)) 4576 (va_up (Ik_57 4576) 36 0)) 4577 (va_up (Ik_57 4577) 36 12)
theorem hz_4624_58_228 : zf 4624 Ik_58 Rk_228 := zf_I (zf_I (zf_I hz_4624_57_228 (by decide)) (by decide)) (by decide)
def Ik_59 : Nat → Nat → Int32 := va_up (va_up (va_up Ik_58 4575 (va_up (Ik_58 4575) 19 8)) 4576 (va_up (Ik_58 4576) 19 0)) 4577 (va_up (Ik_58 4577) 19 13)
theorem hz_4624_59_228 : zf 4624 Ik_59 Rk_228 := zf_I (zf_I (zf_I hz_4624_58_228 (by decide)) (by decide)) (by decide)
def vz (i : Nat) : Nat → Int32 := fun x => if x < 28 * i ∧ x % 28 = 14 then 1 else 0
theorem vz_s (i : Nat) : intv (vz i) i 0 = vz (i + 1) := by
  have e0 : tsz (nrow 0) 2 = 0 := by decide +kernel
  have e1 : tsz (nrow 1) 2 = 1 := by decide +kernel
  have e2 : nrow 1 0 = 1 := by decide +kernel
  funext x
  unfold intv
  rw [e0, e1, if_pos rfl]
  unfold holdv va_up vz
  by_cases h : 28 * i + 14 ≤ x ∧ x < 28 * i + 14 + 13
  · rw [if_pos h]
    by_cases h1 : x = 28 * i + 14
    · rw [if_pos (by omega), if_pos (by omega), show x - (28 * i + 14) = 0 by omega, e2]
    · rw [if_neg (by omega), if_neg (by omega)]
  · rw [if_neg h]
    by_cases h1 : 28 * i + 1 ≤ x ∧ x < 28 * i + 1 + 13
    · rw [if_pos h1, if_neg (by omega), if_neg (by omega)]
    · rw [if_neg h1]
      by_cases h2 : x = 28 * i
      · rw [if_pos h2, if_neg (by omega)]
      · rw [if_neg h2]
        by_cases h3 : x < 28 * i ∧ x % 28 = 14
        · rw [if_pos h3, if_pos (by omega)]
        · rw [if_neg h3, if_neg (by omega)]
theorem C_X12_loop {n : Nat} {I : Nat → Nat → Int32} {R : Nat → Nat → Option Nat} (hn : 4624 ≤ n) (hR : RA R) : ∀ (k i : Nat) (l s : Nat → Int32), i + k = 60 → ∃ l' s', xrep (f_X12_init_b686 4561) k (Int32.ofNat i) (me n (u3 I l s (vz i)) R) = some (me n (u3 I l' s' (vz 60)) R) := by
  intro k
  induction k with
  | zero =>
    intro i l s h
    have : i = 60 := by omega
    subst this
    exact ⟨l, s, rfl⟩
  | succ k ih =>
    intro i l s h
    obtain ⟨l1, s1, h1⟩ := m_setInt (n := n) (I := I) (J := zJ) (R := R) (l := l) (s := s) (v := vz i) (i := i) (m := 0) hn hR (by omega) (by omega)
    obtain ⟨l2, s2, h2⟩ := ih (i + 1) l1 s1 (by omega)
    refine ⟨l2, s2, ?_⟩
    have h3 : f_X12_init_b686 4561 (Int32.ofNat i) (me n (u3 I l s (vz i)) R) = some (me n (u3 I l1 s1 (vz (i + 1))) R) := by
      unfold f_X12_init_b686
      refine xb_iq (me_xk (by omega) rfl) (xb_eq h1 ?_)
      rw [vz_s]
      exact xb_eq (e_cdo rfl (Nat.le_refl _)) rfl
    refine xb_eq h3 ?_
    rw [i32_ofs]
    exact h2
def rck (R : Nat → Nat → Option Nat) (x k : Nat) : Bool := match RR x k with | none => true | some y => match R x k with | some z => Nat.beq z y | none => false
def rcx (R : Nat → Nat → Option Nat) (x : Nat) : Bool := (List.range (kb x)).all (fun k => rck R x k)
def rcr (R : Nat → Nat → Option Nat) (a m : Nat) : Bool := (List.range m).all (fun i => rcx R (a + i))
theorem rcr_of {R : Nat → Nat → Option Nat} {a m : Nat} (h : rcr R a m = true) : ∀ x, a ≤ x → x < a + m → ∀ k, k < kb x → RR x k = none ∨ R x k = RR x k := by
  intro x h1 h2 k hk
  have h3 := List.all_eq_true.mp h (x - a) (List.mem_range.mpr (by omega))
  rw [show a + (x - a) = x by omega] at h3
  have h4 := List.all_eq_true.mp h3 k (List.mem_range.mpr hk)
  unfold rck at h4
  split at h4
  · next e => exact Or.inl e
  · next y e =>
    split at h4
    · next z e2 => rw [e, e2, Nat.eq_of_beq_eq_true h4]; exact Or.inr rfl
    · cases h4
theorem RA_0 : rcr Rk_228 0 11 = true := by decide +kernel
theorem RA_11 : rcr Rk_228 11 107 = true := by decide +kernel
theorem RA_118 : rcr Rk_228 118 200 = true := by decide +kernel
theorem RA_318 : rcr Rk_228 318 200 = true := by decide +kernel
theorem RA_518 : rcr Rk_228 518 45 = true := by decide +kernel
theorem RA_563 : rcr Rk_228 563 5 = true := by decide +kernel
theorem RA_568 : rcr Rk_228 568 7 = true := by decide +kernel
theorem RA_575 : rcr Rk_228 575 1 = true := by decide +kernel
theorem RA_576 : rcr Rk_228 576 200 = true := by decide +kernel
theorem RA_776 : rcr Rk_228 776 200 = true := by decide +kernel
theorem RA_976 : rcr Rk_228 976 200 = true := by decide +kernel
theorem RA_1176 : rcr Rk_228 1176 200 = true := by decide +kernel
theorem RA_1376 : rcr Rk_228 1376 200 = true := by decide +kernel
theorem RA_1576 : rcr Rk_228 1576 200 = true := by decide +kernel
theorem RA_1776 : rcr Rk_228 1776 115 = true := by decide +kernel
theorem RA_1891 : rcr Rk_228 1891 200 = true := by decide +kernel
theorem RA_2091 : rcr Rk_228 2091 124 = true := by decide +kernel
theorem RA_2215 : rcr Rk_228 2215 1 = true := by decide +kernel
theorem RA_2216 : rcr Rk_228 2216 1 = true := by decide +kernel
theorem RA_2217 : rcr Rk_228 2217 200 = true := by decide +kernel
theorem RA_2417 : rcr Rk_228 2417 200 = true := by decide +kernel
theorem RA_2617 : rcr Rk_228 2617 200 = true := by decide +kernel
theorem RA_2817 : rcr Rk_228 2817 200 = true := by decide +kernel
theorem RA_3017 : rcr Rk_228 3017 200 = true := by decide +kernel
theorem RA_3217 : rcr Rk_228 3217 200 = true := by decide +kernel
theorem RA_3417 : rcr Rk_228 3417 200 = true := by decide +kernel
theorem RA_3617 : rcr Rk_228 3617 200 = true := by decide +kernel
theorem RA_3817 : rcr Rk_228 3817 200 = true := by decide +kernel
theorem RA_4017 : rcr Rk_228 4017 200 = true := by decide +kernel
theorem RA_4217 : rcr Rk_228 4217 200 = true := by decide +kernel
theorem RA_4417 : rcr Rk_228 4417 200 = true := by decide +kernel
theorem RA_4617 : rcr Rk_228 4617 8 = true := by decide +kernel
theorem RA_all : RA Rk_228 := by
  intro x hx k hk
  by_cases q : x < 11
  · exact rcr_of RA_0 x (by omega) q k hk
  by_cases q : x < 118
  · exact rcr_of RA_11 x (by omega) q k hk
  by_cases q : x < 318
  · exact rcr_of RA_118 x (by omega) q k hk
  by_cases q : x < 518
  · exact rcr_of RA_318 x (by omega) q k hk
  by_cases q : x < 563
  · exact rcr_of RA_518 x (by omega) q k hk
  by_cases q : x < 568
  · exact rcr_of RA_563 x (by omega) q k hk
  by_cases q : x < 575
  · exact rcr_of RA_568 x (by omega) q k hk
  by_cases q : x < 576
  · exact rcr_of RA_575 x (by omega) q k hk
  by_cases q : x < 776
  · exact rcr_of RA_576 x (by omega) q k hk
  by_cases q : x < 976
  · exact rcr_of RA_776 x (by omega) q k hk
  by_cases q : x < 1176
  · exact rcr_of RA_976 x (by omega) q k hk
  by_cases q : x < 1376
  · exact rcr_of RA_1176 x (by omega) q k hk
  by_cases q : x < 1576
  · exact rcr_of RA_1376 x (by omega) q k hk
  by_cases q : x < 1776
  · exact rcr_of RA_1576 x (by omega) q k hk
  by_cases q : x < 1891
  · exact rcr_of RA_1776 x (by omega) q k hk
  by_cases q : x < 2091
  · exact rcr_of RA_1891 x (by omega) q k hk
  by_cases q : x < 2215
  · exact rcr_of RA_2091 x (by omega) q k hk
  by_cases q : x < 2216
  · exact rcr_of RA_2215 x (by omega) q k hk
  by_cases q : x < 2217
  · exact rcr_of RA_2216 x (by omega) q k hk
  by_cases q : x < 2417
  · exact rcr_of RA_2217 x (by omega) q k hk
  by_cases q : x < 2617
  · exact rcr_of RA_2417 x (by omega) q k hk
  by_cases q : x < 2817
  · exact rcr_of RA_2617 x (by omega) q k hk
  by_cases q : x < 3017
  · exact rcr_of RA_2817 x (by omega) q k hk
  by_cases q : x < 3217
  · exact rcr_of RA_3017 x (by omega) q k hk
  by_cases q : x < 3417
  · exact rcr_of RA_3217 x (by omega) q k hk
  by_cases q : x < 3617
  · exact rcr_of RA_3417 x (by omega) q k hk
  by_cases q : x < 3817
  · exact rcr_of RA_3617 x (by omega) q k hk
  by_cases q : x < 4017
  · exact rcr_of RA_3817 x (by omega) q k hk
  by_cases q : x < 4217
  · exact rcr_of RA_4017 x (by omega) q k hk
  by_cases q : x < 4417
  · exact rcr_of RA_4217 x (by omega) q k hk
  by_cases q : x < 4617
  · exact rcr_of RA_4417 x (by omega) q k hk
  exact rcr_of RA_4617 x (by omega) (by omega) k hk
theorem C_X12_init : ∃ l' s', f_X12_init (me 4562 Ik_45 Rk_166) 4561 = some (me 4624 (u3 Ik_59 l' s' (vz 60)) Rk_228) := by
  obtain ⟨l1, s1, h1⟩ := C_X12_loop (n := 4624) (I := Ik_59) (R := Rk_228) (by decide) RA_all 60 0 (Ik_59 4562) (Ik_59 4563) (by decide)
  refine ⟨l1, s1, ?_⟩
  have e0 : vz 0 = Ik_59 4564 := by
    funext x
    unfold vz
    rw [if_neg (by omega)]
    rfl
  rw [e0, u3_id] at h1
  unfold f_X12_init
  refine xb_eq (a := (me 4563 Ik_45 Rk_166)) (e_nwA hz_4562_45_166 rfl rfl rfl (by decide)) ?_
  refine xb_eq (a := (me 4563 Ik_45 Rk_167)) (e_sR (by decide) rfl (by decide)) ?_
  refine xb_eq (a := (me 4564 Ik_45 Rk_167)) (e_nwA hz_4563_45_167 rfl rfl rfl (by decide)) ?_
  refine xb_eq (a := (me 4564 Ik_45 Rk_168)) (e_sR (by decide) rfl (by decide)) ?_
  refine xb_eq (a := (me 4565 Ik_45 Rk_168)) (e_nwA hz_4564_45_168 rfl rfl rfl (by decide)) ?_
  refine xb_eq (a := (me 4565 Ik_45 Rk_169)) (e_sR (by decide) rfl (by decide)) ?_
  refine xb_eq (a := (me 4566 Ik_45 Rk_169)) (e_nwA hz_4565_45_169 rfl rfl rfl (by decide)) ?_
  refine xb_eq (a := (me 4566 Ik_45 Rk_170)) (e_sR (by decide) rfl (by decide)) ?_
  refine xb_eq (a := (me 4567 Ik_45 Rk_170)) (e_nwA hz_4566_45_170 rfl rfl rfl (by decide)) ?_
  refine xb_eq (a := (me 4567 Ik_45 Rk_171)) (e_sR (by decide) rfl (by decide)) ?_
  refine xb_eq (a := (me 4568 Ik_45 Rk_171)) (e_nwA hz_4567_45_171 rfl rfl rfl (by decide)) ?_
  refine xb_eq (a := (me 4568 Ik_45 Rk_172)) (e_sR (by decide) rfl (by decide)) ?_
  refine xb_eq (a := (me 4569 Ik_45 Rk_172)) (e_nwA hz_4568_45_172 rfl rfl rfl (by decide)) ?_
  refine xb_eq (a := (me 4569 Ik_45 Rk_173)) (e_sR (by decide) rfl (by decide)) ?_
  refine xb_eq (a := (me 4570 Ik_45 Rk_173)) (e_nwA hz_4569_45_173 rfl rfl rfl (by decide)) ?_
  refine xb_eq (a := (me 4570 Ik_45 Rk_174)) (e_sR (by decide) rfl (by decide)) ?_
  refine xb_eq (a := (me 4571 Ik_45 Rk_174)) (e_nwA hz_4570_45_174 rfl rfl rfl (by decide)) ?_
  refine xb_eq (a := (me 4571 Ik_45 Rk_175)) (e_sR (by decide) rfl (by decide)) ?_
  refine xb_eq (a := (me 4572 Ik_45 Rk_175)) (e_nwA hz_4571_45_175 rfl rfl rfl (by decide)) ?_
  refine xb_eq (a := (me 4572 Ik_45 Rk_176)) (e_sR (by decide) rfl (by decide)) ?_
  refine xb_eq (a := (me 4573 Ik_45 Rk_176)) (e_nwA hz_4572_45_176 rfl rfl rfl (by decide)) ?_
  refine xb_eq (a := (me 4573 Ik_45 Rk_177)) (e_sR (by decide) rfl (by decide)) ?_
  refine xb_eq (a := (me 4574 Ik_45 Rk_177)) (e_nwA hz_4573_45_177 rfl rfl rfl (by decide)) ?_
  refine xb_eq (a := (me 4574 Ik_45 Rk_178)) (e_sR (by decide) rfl (by decide)) ?_
  refine xb_eq (a := (me 4575 Ik_45 Rk_178)) (e_nwA hz_4574_45_178 rfl rfl rfl (by decide)) ?_
  refine xb_eq (a := (me 4575 Ik_45 Rk_179)) (e_sR (by decide) rfl (by decide)) ?_
  refine xb_eq (a := (me 4576 Ik_45 Rk_179)) (e_nwA hz_4575_45_179 rfl rfl rfl (by decide)) ?_
  refine xb_eq (a := (me 4576 Ik_45 Rk_180)) (e_sR (by decide) rfl (by decide)) ?_
  refine xb_eq (a := (me 4577 Ik_45 Rk_180)) (e_nwA hz_4576_45_180 rfl rfl rfl (by decide)) ?_
  refine xb_eq (a := (me 4577 Ik_45 Rk_181)) (e_sR (by decide) rfl (by decide)) ?_
  refine xb_eq (a := (me 4578 Ik_45 Rk_181)) (e_nwA hz_4577_45_181 rfl rfl rfl (by decide)) ?_
  refine xb_eq (a := (me 4578 Ik_45 Rk_182)) (e_sR (by decide) rfl (by decide)) ?_
  refine xb_eq (a := (me 4579 Ik_45 Rk_182)) (e_nwA hz_4578_45_182 rfl rfl rfl (by decide)) ?_
  refine xb_eq (a := (me 4579 Ik_45 Rk_183)) (e_sR (by decide) rfl (by decide)) ?_
  refine xb_eq (a := (me 4580 Ik_45 Rk_183)) (e_nwA hz_4579_45_183 rfl rfl rfl (by decide)) ?_
  refine xb_eq (a := (me 4580 Ik_45 Rk_184)) (e_sR (by decide) rfl (by decide)) ?_
  refine xb_eq (a := (me 4581 Ik_45 Rk_184)) (e_nwA hz_4580_45_184 rfl rfl rfl (by decide)) ?_
  refine xb_eq (a := (me 4581 Ik_45 Rk_185)) (e_sR (by decide) rfl (by decide)) ?_
  refine xb_eq (a := (me 4582 Ik_45 Rk_185)) (e_nwA hz_4581_45_185 rfl rfl rfl (by decide)) ?_
  refine xb_eq (a := (me 4582 Ik_45 Rk_186)) (e_sR (by decide) rfl (by decide)) ?_
  refine xb_eq (a := (me 4583 Ik_45 Rk_186)) (e_nwA hz_4582_45_186 rfl rfl rfl (by decide)) ?_
  refine xb_eq (a := (me 4583 Ik_45 Rk_187)) (e_sR (by decide) rfl (by decide)) ?_
  refine xb_eq (a := (me 4584 Ik_45 Rk_187)) (e_nwA hz_4583_45_187 rfl rfl rfl (by decide)) ?_
  refine xb_eq (a := (me 4584 Ik_45 Rk_188)) (e_sR (by decide) rfl (by decide)) ?_
  refine xb_eq (a := (me 4585 Ik_45 Rk_188)) (e_nwA hz_4584_45_188 rfl rfl rfl (by decide)) ?_
  refine xb_eq (a := (me 4585 Ik_45 Rk_189)) (e_sR (by decide) rfl (by decide)) ?_
  refine xb_eq (a := (me 4586 Ik_45 Rk_189)) (e_nwA hz_4585_45_189 rfl rfl rfl (by decide)) ?_
  refine xb_eq (a := (me 4586 Ik_45 Rk_190)) (e_sR (by decide) rfl (by decide)) ?_
  refine xb_eq (a := (me 4587 Ik_45 Rk_190)) (e_nwA hz_4586_45_190 rfl rfl rfl (by decide)) ?_
  refine xb_eq (a := (me 4587 Ik_45 Rk_191)) (e_sR (by decide) rfl (by decide)) ?_
  refine xb_eq (a := (me 4588 Ik_45 Rk_191)) (e_nwA hz_4587_45_191 rfl rfl rfl (by decide)) ?_
  refine xb_eq (a := (me 4588 Ik_45 Rk_192)) (e_sR (by decide) rfl (by decide)) ?_
  refine xb_eq (a := (me 4589 Ik_45 Rk_192)) (e_nwA hz_4588_45_192 rfl rfl rfl (by decide)) ?_
  refine xb_eq (a := (me 4589 Ik_45 Rk_193)) (e_sR (by decide) rfl (by decide)) ?_
  refine xb_eq (a := (me 4590 Ik_45 Rk_193)) (e_nwA hz_4589_45_193 rfl rfl rfl (by decide)) ?_
  refine xb_eq (a := (me 4590 Ik_45 Rk_194)) (e_sR (by decide) rfl (by decide)) ?_
  refine xb_eq (a := (me 4591 Ik_45 Rk_194)) (e_nwA hz_4590_45_194 rfl rfl rfl (by decide)) ?_
  refine xb_eq (a := (me 4591 Ik_45 Rk_195)) (e_sR (by decide) rfl (by decide)) ?_
  refine xb_eq (a := (me 4592 Ik_45 Rk_195)) (e_nwA hz_4591_45_195 rfl rfl rfl (by decide)) ?_
  refine xb_eq (a := (me 4592 Ik_45 Rk_196)) (e_sR (by decide) rfl (by decide)) ?_
  refine xb_eq (a := (me 4593 Ik_45 Rk_196)) (e_nwA hz_4592_45_196 rfl rfl rfl (by decide)) ?_
  refine xb_eq (a := (me 4593 Ik_45 Rk_197)) (e_sR (by decide) rfl (by decide)) ?_
  refine xb_eq (a := (me 4594 Ik_45 Rk_197)) (e_nwA hz_4593_45_197 rfl rfl rfl (by decide)) ?_
  refine xb_eq (a := (me 4594 Ik_45 Rk_198)) (e_sR (by decide) rfl (by decide)) ?_
  refine xb_eq (a := (me 4595 Ik_45 Rk_198)) (e_nwA hz_4594_45_198 rfl rfl rfl (by decide)) ?_
  refine xb_eq (a := (me 4595 Ik_45 Rk_199)) (e_sR (by decide) rfl (by decide)) ?_
  refine xb_eq (a := (me 4596 Ik_45 Rk_199)) (e_nwA hz_4595_45_199 rfl rfl rfl (by decide)) ?_
  refine xb_eq (a := (me 4596 Ik_45 Rk_200)) (e_sR (by decide) rfl (by decide)) ?_
  refine xb_eq (a := (me 4597 Ik_45 Rk_200)) (e_nwA hz_4596_45_200 rfl rfl rfl (by decide)) ?_
  refine xb_eq (a := (me 4597 Ik_45 Rk_201)) (e_sR (by decide) rfl (by decide)) ?_
  refine xb_eq (a := (me 4598 Ik_45 Rk_201)) (e_nwA hz_4597_45_201 rfl rfl rfl (by decide)) ?_
  refine xb_eq (a := (me 4598 Ik_45 Rk_202)) (e_sR (by decide) rfl (by decide)) ?_
  refine xb_eq (a := (me 4599 Ik_45 Rk_202)) (e_nwA hz_4598_45_202 rfl rfl rfl (by decide)) ?_
  refine xb_eq (a := (me 4599 Ik_45 Rk_203)) (e_sR (by decide) rfl (by decide)) ?_
  refine xb_eq (a := (me 4600 Ik_45 Rk_203)) (e_nwA hz_4599_45_203 rfl rfl rfl (by decide)) ?_
  refine xb_eq (a := (me 4600 Ik_45 Rk_204)) (e_sR (by decide) rfl (by decide)) ?_
  refine xb_eq (a := (me 4601 Ik_45 Rk_204)) (e_nwA hz_4600_45_204 rfl rfl rfl (by decide)) ?_
  refine xb_eq (a := (me 4601 Ik_45 Rk_205)) (e_sR (by decide) rfl (by decide)) ?_
  refine xb_eq (a := (me 4602 Ik_45 Rk_205)) (e_nwA hz_4601_45_205 rfl rfl rfl (by decide)) ?_
  refine xb_eq (a := (me 4602 Ik_45 Rk_206)) (e_sR (by decide) rfl (by decide)) ?_
  refine xb_eq (a := (me 4603 Ik_45 Rk_206)) (e_nwA hz_4602_45_206 rfl rfl rfl (by decide)) ?_
  refine xb_eq (a := (me 4603 Ik_45 Rk_207)) (e_sR (by decide) rfl (by decide)) ?_
  refine xb_eq (a := (me 4604 Ik_45 Rk_207)) (e_nwA hz_4603_45_207 rfl rfl rfl (by decide)) ?_
  refine xb_eq (a := (me 4604 Ik_45 Rk_208)) (e_sR (by decide) rfl (by decide)) ?_
  refine xb_eq (a := (me 4605 Ik_45 Rk_208)) (e_nwA hz_4604_45_208 rfl rfl rfl (by decide)) ?_
  refine xb_eq (a := (me 4605 Ik_45 Rk_209)) (e_sR (by decide) rfl (by decide)) ?_
  refine xb_eq (a := (me 4606 Ik_45 Rk_209)) (e_nwA hz_4605_45_209 rfl rfl rfl (by decide)) ?_
  refine xb_eq (a := (me 4606 Ik_45 Rk_210)) (e_sR (by decide) rfl (by decide)) ?_
  refine xb_eq (a := (me 4607 Ik_45 Rk_210)) (e_nwA hz_4606_45_210 rfl rfl rfl (by decide)) ?_
  refine xb_eq (a := (me 4607 Ik_45 Rk_211)) (e_sR (by decide) rfl (by decide)) ?_
  refine xb_eq (a := (me 4608 Ik_45 Rk_211)) (e_nwA hz_4607_45_211 rfl rfl rfl (by decide)) ?_
  refine xb_eq (a := (me 4608 Ik_45 Rk_212)) (e_sR (by decide) rfl (by decide)) ?_
  refine xb_eq (a := (me 4609 Ik_45 Rk_212)) (e_nwA hz_4608_45_212 rfl rfl rfl (by decide)) ?_
  refine xb_eq (a := (me 4609 Ik_45 Rk_213)) (e_sR (by decide) rfl (by decide)) ?_
  refine xb_eq (a := (me 4610 Ik_45 Rk_213)) (e_nwA hz_4609_45_213 rfl rfl rfl (by decide)) ?_
  refine xb_eq (a := (me 4610 Ik_45 Rk_214)) (e_sR (by decide) rfl (by decide)) ?_
  refine xb_eq (a := (me 4611 Ik_45 Rk_214)) (e_nwA hz_4610_45_214 rfl rfl rfl (by decide)) ?_
  refine xb_eq (a := (me 4611 Ik_45 Rk_215)) (e_sR (by decide) rfl (by decide)) ?_
  refine xb_eq (a := (me 4612 Ik_45 Rk_215)) (e_nwA hz_4611_45_215 rfl rfl rfl (by decide)) ?_
  refine xb_eq (a := (me 4612 Ik_45 Rk_216)) (e_sR (by decide) rfl (by decide)) ?_
  refine xb_eq (a := (me 4613 Ik_45 Rk_216)) (e_nwA hz_4612_45_216 rfl rfl rfl (by decide)) ?_
  refine xb_eq (a := (me 4613 Ik_45 Rk_217)) (e_sR (by decide) rfl (by decide)) ?_
  refine xb_eq (a := (me 4614 Ik_45 Rk_217)) (e_nwA hz_4613_45_217 rfl rfl rfl (by decide)) ?_
  refine xb_eq (a := (me 4614 Ik_45 Rk_218)) (e_sR (by decide) rfl (by decide)) ?_
  refine xb_eq (a := (me 4615 Ik_45 Rk_218)) (e_nwA hz_4614_45_218 rfl rfl rfl (by decide)) ?_
  refine xb_eq (a := (me 4615 Ik_45 Rk_219)) (e_sR (by decide) rfl (by decide)) ?_
  refine xb_eq (a := (me 4616 Ik_45 Rk_219)) (e_nwA hz_4615_45_219 rfl rfl rfl (by decide)) ?_
  refine xb_eq (a := (me 4616 Ik_45 Rk_220)) (e_sR (by decide) rfl (by decide)) ?_
  refine xb_eq (a := (me 4617 Ik_45 Rk_220)) (e_nwA hz_4616_45_220 rfl rfl rfl (by decide)) ?_
  refine xb_eq (a := (me 4617 Ik_45 Rk_221)) (e_sR (by decide) rfl (by decide)) ?_
  refine xb_eq (a := (me 4618 Ik_45 Rk_221)) (e_nwA hz_4617_45_221 rfl rfl rfl (by decide)) ?_
  refine xb_eq (a := (me 4618 Ik_45 Rk_222)) (e_sR (by decide) rfl (by decide)) ?_
  refine xb_eq (a := (me 4619 Ik_45 Rk_222)) (e_nwA hz_4618_45_222 rfl rfl rfl (by decide)) ?_
  refine xb_eq (a := (me 4619 Ik_45 Rk_223)) (e_sR (by decide) rfl (by decide)) ?_
  refine xb_eq (a := (me 4620 Ik_45 Rk_223)) (e_nwA hz_4619_45_223 rfl rfl rfl (by decide)) ?_
  refine xb_eq (a := (me 4620 Ik_45 Rk_224)) (e_sR (by decide) rfl (by decide)) ?_
  refine xb_eq (a := (me 4621 Ik_45 Rk_224)) (e_nwA hz_4620_45_224 rfl rfl rfl (by decide)) ?_
  refine xb_eq (a := (me 4621 Ik_45 Rk_225)) (e_sR (by decide) rfl (by decide)) ?_
  refine xb_eq (a := (me 4622 Ik_45 Rk_225)) (e_nwA hz_4621_45_225 rfl rfl rfl (by decide)) ?_
  refine xb_eq (a := (me 4622 Ik_45 Rk_226)) (e_sR (by decide) rfl (by decide)) ?_
  refine xb_eq (a := (me 4623 Ik_45 Rk_226)) (e_nwA hz_4622_45_226 rfl rfl rfl (by decide)) ?_
  refine xb_eq (a := (me 4623 Ik_45 Rk_227)) (e_sR (by decide) rfl (by decide)) ?_
  refine xb_eq (a := (me 4624 Ik_45 Rk_227)) (e_nwA hz_4623_45_227 rfl rfl rfl (by decide)) ?_
  refine xb_eq (a := (me 4624 Ik_45 Rk_228)) (e_sR (by decide) rfl (by decide)) ?_
  refine xb_iq (me_xk (by decide) rfl) ?_
  refine xb_eq (a := (me 4624 Ik_46 Rk_228)) (e_tellFirst 8 2 (by decide) rfl rfl rfl (fun _ => rfl) (by decide)) ?_
  refine xb_eq (a := (me 4624 Ik_46 Rk_228)) (e_cdo rfl (by decide)) ?_
  refine xb_iq (me_xk (by decide) rfl) ?_
  refine xb_eq (a := (me 4624 Ik_47 Rk_228)) (e_tellFirst 7 2 (by decide) rfl rfl rfl (fun _ => rfl) (by decide)) ?_
  refine xb_eq (a := (me 4624 Ik_47 Rk_228)) (e_cdo rfl (by decide)) ?_
  refine xb_iq (me_xk (by decide) rfl) ?_
  refine xb_eq (a := (me 4624 Ik_48 Rk_228)) (e_tellFirst 9 2 (by decide) rfl rfl rfl (fun _ => rfl) (by decide)) ?_
  refine xb_eq (a := (me 4624 Ik_48 Rk_228)) (e_cdo rfl (by decide)) ?_
  refine xb_iq (me_xk (by decide) rfl) ?_
  refine xb_eq (a := (me 4624 Ik_49 Rk_228)) (e_tellFirst 11 2 (by decide) rfl rfl rfl (fun _ => rfl) (by decide)) ?_
  refine xb_eq (a := (me 4624 Ik_49 Rk_228)) (e_cdo rfl (by decide)) ?_
  refine xb_iq (me_xk (by decide) rfl) ?_
  refine xb_eq (a := (me 4624 Ik_50 Rk_228)) (e_tellFirst 10 2 (by decide) rfl rfl rfl (fun _ => rfl) (by decide)) ?_
  refine xb_eq (a := (me 4624 Ik_50 Rk_228)) (e_cdo rfl (by decide)) ?_
  refine xb_iq (me_xk (by decide) rfl) ?_
  refine xb_eq (a := (me 4624 Ik_51 Rk_228)) (e_tellFirst 0 2 (by decide) rfl rfl rfl (fun _ => rfl) (by decide)) ?_
  refine xb_eq (a := (me 4624 Ik_51 Rk_228)) (e_cdo rfl (by decide)) ?_
  refine xb_iq (me_xk (by decide) rfl) ?_
  refine xb_eq (a := (me 4624 Ik_52 Rk_228)) (e_tellFirst 1 2 (by decide) rfl rfl rfl (fun _ => rfl) (by decide)) ?_
  refine xb_eq (a := (me 4624 Ik_52 Rk_228)) (e_cdo rfl (by decide)) ?_
  refine xb_iq (me_xk (by decide) rfl) ?_
  refine xb_eq (a := (me 4624 Ik_53 Rk_228)) (e_tellFirst 2 2 (by decide) rfl rfl rfl (fun _ => rfl) (by decide)) ?_
  refine xb_eq (a := (me 4624 Ik_53 Rk_228)) (e_cdo rfl (by decide)) ?_
  refine xb_iq (me_xk (by decide) rfl) ?_
  refine xb_eq (a := (me 4624 Ik_54 Rk_228)) (e_tellFirst 3 2 (by decide) rfl rfl rfl (fun _ => rfl) (by decide)) ?_
  refine xb_eq (a := (me 4624 Ik_54 Rk_228)) (e_cdo rfl (by decide)) ?_
  refine xb_iq (me_xk (by decide) rfl) ?_
  refine xb_eq (a := (me 4624 Ik_55 Rk_228)) (e_tellFirst 4 2 (by decide) rfl rfl rfl (fun _ => rfl) (by decide)) ?_
  refine xb_eq (a := (me 4624 Ik_55 Rk_228)) (e_cdo rfl (by decide)) ?_
  refine xb_iq (me_xk (by decide) rfl) ?_
  refine xb_eq (a := (me 4624 Ik_56 Rk_228)) (e_tellFirst 5 2 (by decide) rfl rfl rfl (fun _ => rfl) (by decide)) ?_
  refine xb_eq (a := (me 4624 Ik_56 Rk_228)) (e_cdo rfl (by decide)) ?_
  refine xb_iq (me_xk (by decide) rfl) ?_
  refine xb_eq (a := (me 4624 Ik_57 Rk_228)) (e_tellFirst 1 0 (by decide) rfl rfl rfl (fun _ => rfl) (by decide)) ?_
  refine xb_eq (a := (me 4624 Ik_57 Rk_228)) (e_cdo rfl (by decide)) ?_
  refine xb_iq (me_xk (by decide) rfl) ?_
  refine xb_eq (a := (me 4624 Ik_58 Rk_228)) (e_tellFirst 12 0 (by decide) rfl rfl rfl (fun _ => rfl) (by decide)) ?_
  refine xb_eq (a := (me 4624 Ik_58 Rk_228)) (e_cdo rfl (by decide)) ?_
  refine xb_iq (me_xk (by decide) rfl) ?_
  refine xb_eq (a := (me 4624 Ik_59 Rk_228)) (e_tellFirst 6 1 (by decide) rfl rfl rfl (fun _ => rfl) (by decide)) ?_
  refine xb_eq (a := (me 4624 Ik_59 Rk_228)) (e_cdo rfl (by decide)) ?_
  exact xb_eq h1 rfl
