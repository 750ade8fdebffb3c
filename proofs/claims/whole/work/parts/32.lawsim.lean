set_option maxRecDepth 100000 in
set_option maxHeartbeats 4000000 in
theorem sL_law {X : Cx} {b0 n : Nat} {xs : Nat → Int32} {σ : AH} (ok : Ok X mL_law) (lx : LX X b0 n xs) (h : Hr (fL_law n xs) σ LQ) : AT X mL_law 0 [some (.retAddr b0), none, none, none] [] σ := by
  unfold fL_law at h
  refine at_newO ok nw_9_7 dL_law_0 h fun v0 σ h => ?_
  refine at_dup ok dL_law_3 (cat_rf _) ?_
  refine at_cI (As := []) ok ct_L_law_9 dL_law_4 (by simp [cat_rf, cat_i, cat_l]) (s7_init v0  _) h fun v4 σ h => ?_
  refine at_astoren ok dL_law_7 rfl (lc_abs rfl) (by decide) ?_
  refine at_newO ok nw_9_10 dL_law_8 h fun v8 σ h => ?_
  refine at_dup ok dL_law_11 (cat_rf _) ?_
  refine at_cI (As := []) ok ct_L_law_12 dL_law_12 (by simp [cat_rf, cat_i, cat_l]) (s8_init v8  _) h fun v12 σ h => ?_
  refine at_astoren ok dL_law_15 rfl (lc_ref rfl) (by decide) ?_
  refine at_iconst (v := 0) ok dL_law_16 (by decide) ?_
  refine at_istoren ok dL_law_17 rfl (lc_ref rfl) (by decide) ?_
  refine at_weak (L' := [some (.retAddr (b0)), some (va_rf (v0)), some (va_rf (v8)), some (.int (0))]) (lw_s (lw_s (lw_s (lw_s lw_0)))) ?_
  refine at_loopS (fun x18 σ => AT X mL_law 18 [some (.retAddr (b0)), some (va_rf (v0)), some (va_rf (v8)), some (.int (x18))] [] σ) (fun y1075 σ => AT X mL_law 1075 [none, none, none, none] [] σ) h (fun y1075 σ h => ?_) (fun kx rec ih x18 σ h => ?_)
  · refine at_iconst (v := 1) ok dL_law_1075 (by decide) ?_
    exact at_lret ok lx dL_law_1076 h
  · unfold lL_law_18 at h
    refine at_iloadn ok dL_law_18 rfl ?_
    refine at_aloadns ok dL_law_19 rfl ?_
    refine at_slen ok lx dL_law_20 ?_
    refine at_bipush (v := 7) ok dL_law_21 (by decide) ?_
    refine at_isub ok dL_law_23 ?_
    refine bt_icmp_gt (tgt := 1075) ok dL_law_24 (by decide) h (fun hc h => ?_) (fun hc h => ?_)
    · exact at_weak (lw_n (lw_n (lw_n (lw_n lw_0)))) (by have z := hr_inr h; exact kx () _ z)
    · refine at_aloadns ok dL_law_27 rfl ?_
      refine at_iloadn ok dL_law_28 rfl ?_
      refine at_sld ok lx dL_law_29 h fun v29 h => ?_
      refine at_bipush (v := 31) ok dL_law_30 (by decide) ?_
      refine at_iand ok dL_law_32 ?_
      refine at_ite h (fun hc0 h => ?_) (fun hc0 h => ?_)
      · refine at_tsw (tgt := 140) ok dL_law_33 (tsw_in hc0 (by decide) rfl (by decide)) ?_
        refine at_aloadn ok dL_law_140 rfl ?_
        refine at_aloadns ok dL_law_141 rfl ?_
        refine at_iloadn ok dL_law_142 rfl ?_
        refine at_iconst (v := 1) ok dL_law_143 (by decide) ?_
        refine at_iadd ok dL_law_144 ?_
        refine at_sld ok lx dL_law_145 h fun v145 h => ?_
        refine at_cVi (As := [.int (v145)]) ok ct_L_law_13 dL_law_146 (by simp [cat_rf, cat_i, cat_l]) (s7_days v0 v145 _) h fun v146 σ h => ?_
        refine at_aloadn ok dL_law_149 rfl ?_
        refine at_aloadns ok dL_law_150 rfl ?_
        refine at_iloadn ok dL_law_151 rfl ?_
        refine at_iconst (v := 1) ok dL_law_152 (by decide) ?_
        refine at_iadd ok dL_law_153 ?_
        refine at_sld ok lx dL_law_154 h fun v154 h => ?_
        refine at_cVi (As := [.int (v154)]) ok ct_L_law_17 dL_law_155 (by simp [cat_rf, cat_i, cat_l]) (s8_days v8 v154 _) h fun v155 σ h => ?_
        refine bt_icmp_eq (tgt := 1069) ok dL_law_158 (by decide) h (fun hc h => ?_) (fun hc h => ?_)
        · refine at_iinc (v := x18 + 7) ok dL_law_1069 rfl rfl (lc_ref rfl) (by decide) ?_
          refine at_goto (tgt := 18) ok dL_law_1072 (by decide) ?_
          exact at_weak (lw_s (lw_s (lw_s (lw_s lw_0)))) (ih (x18 + 7) _ h)
        · refine at_iconst (v := 0) ok dL_law_161 (by decide) ?_
          exact at_lret ok lx dL_law_162 (hr_inl h)
      · refine at_ite h (fun hc1 h => ?_) (fun hc1 h => ?_)
        · refine at_tsw (tgt := 163) ok dL_law_33 (tsw_in hc1 (by decide) rfl (by decide)) ?_
          refine at_aloadn ok dL_law_163 rfl ?_
          refine at_aloadns ok dL_law_164 rfl ?_
          refine at_iloadn ok dL_law_165 rfl ?_
          refine at_iconst (v := 1) ok dL_law_166 (by decide) ?_
          refine at_iadd ok dL_law_167 ?_
          refine at_sld ok lx dL_law_168 h fun v168 h => ?_
          refine at_aloadns ok dL_law_169 rfl ?_
          refine at_iloadn ok dL_law_170 rfl ?_
          refine at_iconst (v := 2) ok dL_law_171 (by decide) ?_
          refine at_iadd ok dL_law_172 ?_
          refine at_sld ok lx dL_law_173 h fun v173 h => ?_
          refine at_aloadns ok dL_law_174 rfl ?_
          refine at_iloadn ok dL_law_175 rfl ?_
          refine at_iconst (v := 3) ok dL_law_176 (by decide) ?_
          refine at_iadd ok dL_law_177 ?_
          refine at_sld ok lx dL_law_178 h fun v178 h => ?_
          refine at_aloadns ok dL_law_179 rfl ?_
          refine at_iloadn ok dL_law_180 rfl ?_
          refine at_iconst (v := 4) ok dL_law_181 (by decide) ?_
          refine at_iadd ok dL_law_182 ?_
          refine at_sld ok lx dL_law_183 h fun v183 h => ?_
          refine at_aloadns ok dL_law_184 rfl ?_
          refine at_iloadn ok dL_law_185 rfl ?_
          refine at_iconst (v := 5) ok dL_law_186 (by decide) ?_
          refine at_iadd ok dL_law_187 ?_
          refine at_sld ok lx dL_law_188 h fun v188 h => ?_
          refine at_cVi (As := [.int (v168), .int (v173), .int (v178), .int (v183), .int (v188)]) ok ct_L_law_18 dL_law_189 (by simp [cat_rf, cat_i, cat_l]) (s7_feed v0 v168 v173 v178 v183 v188 _) h fun v189 σ h => ?_
          refine at_aloadn ok dL_law_192 rfl ?_
          refine at_aloadns ok dL_law_193 rfl ?_
          refine at_iloadn ok dL_law_194 rfl ?_
          refine at_iconst (v := 1) ok dL_law_195 (by decide) ?_
          refine at_iadd ok dL_law_196 ?_
          refine at_sld ok lx dL_law_197 h fun v197 h => ?_
          refine at_aloadns ok dL_law_198 rfl ?_
          refine at_iloadn ok dL_law_199 rfl ?_
          refine at_iconst (v := 2) ok dL_law_200 (by decide) ?_
          refine at_iadd ok dL_law_201 ?_
          refine at_sld ok lx dL_law_202 h fun v202 h => ?_
          refine at_aloadns ok dL_law_203 rfl ?_
          refine at_iloadn ok dL_law_204 rfl ?_
          refine at_iconst (v := 3) ok dL_law_205 (by decide) ?_
          refine at_iadd ok dL_law_206 ?_
          refine at_sld ok lx dL_law_207 h fun v207 h => ?_
          refine at_aloadns ok dL_law_208 rfl ?_
          refine at_iloadn ok dL_law_209 rfl ?_
          refine at_iconst (v := 4) ok dL_law_210 (by decide) ?_
          refine at_iadd ok dL_law_211 ?_
          refine at_sld ok lx dL_law_212 h fun v212 h => ?_
          refine at_aloadns ok dL_law_213 rfl ?_
          refine at_iloadn ok dL_law_214 rfl ?_
          refine at_iconst (v := 5) ok dL_law_215 (by decide) ?_
          refine at_iadd ok dL_law_216 ?_
          refine at_sld ok lx dL_law_217 h fun v217 h => ?_
          refine at_cVi (As := [.int (v197), .int (v202), .int (v207), .int (v212), .int (v217)]) ok ct_L_law_22 dL_law_218 (by simp [cat_rf, cat_i, cat_l]) (s8_feed v8 v197 v202 v207 v212 v217 _) h fun v218 σ h => ?_
          refine bt_icmp_eq (tgt := 1069) ok dL_law_221 (by decide) h (fun hc h => ?_) (fun hc h => ?_)
          · refine at_iinc (v := x18 + 7) ok dL_law_1069 rfl rfl (lc_ref rfl) (by decide) ?_
            refine at_goto (tgt := 18) ok dL_law_1072 (by decide) ?_
            exact at_weak (lw_s (lw_s (lw_s (lw_s lw_0)))) (ih (x18 + 7) _ h)
          · refine at_iconst (v := 0) ok dL_law_224 (by decide) ?_
            exact at_lret ok lx dL_law_225 (hr_inl h)
        · refine at_ite h (fun hc2 h => ?_) (fun hc2 h => ?_)
          · refine at_tsw (tgt := 226) ok dL_law_33 (tsw_in hc2 (by decide) rfl (by decide)) ?_
            refine at_aloadn ok dL_law_226 rfl ?_
            refine at_aloadns ok dL_law_227 rfl ?_
            refine at_iloadn ok dL_law_228 rfl ?_
            refine at_iconst (v := 1) ok dL_law_229 (by decide) ?_
            refine at_iadd ok dL_law_230 ?_
            refine at_sld ok lx dL_law_231 h fun v231 h => ?_
            refine at_cVi (As := [.int (v231)]) ok ct_L_law_23 dL_law_232 (by simp [cat_rf, cat_i, cat_l]) (s7_end v0 v231 _) h fun v232 σ h => ?_
            refine at_aloadn ok dL_law_235 rfl ?_
            refine at_aloadns ok dL_law_236 rfl ?_
            refine at_iloadn ok dL_law_237 rfl ?_
            refine at_iconst (v := 1) ok dL_law_238 (by decide) ?_
            refine at_iadd ok dL_law_239 ?_
            refine at_sld ok lx dL_law_240 h fun v240 h => ?_
            refine at_cVi (As := [.int (v240)]) ok ct_L_law_27 dL_law_241 (by simp [cat_rf, cat_i, cat_l]) (s8_end v8 v240 _) h fun v241 σ h => ?_
            refine bt_icmp_eq (tgt := 1069) ok dL_law_244 (by decide) h (fun hc h => ?_) (fun hc h => ?_)
            · refine at_iinc (v := x18 + 7) ok dL_law_1069 rfl rfl (lc_ref rfl) (by decide) ?_
              refine at_goto (tgt := 18) ok dL_law_1072 (by decide) ?_
              exact at_weak (lw_s (lw_s (lw_s (lw_s lw_0)))) (ih (x18 + 7) _ h)
            · refine at_iconst (v := 0) ok dL_law_247 (by decide) ?_
              exact at_lret ok lx dL_law_248 (hr_inl h)
          · refine at_ite h (fun hc3 h => ?_) (fun hc3 h => ?_)
            · refine at_tsw (tgt := 249) ok dL_law_33 (tsw_in hc3 (by decide) rfl (by decide)) ?_
              refine at_aloadn ok dL_law_249 rfl ?_
              refine at_aloadns ok dL_law_250 rfl ?_
              refine at_iloadn ok dL_law_251 rfl ?_
              refine at_iconst (v := 1) ok dL_law_252 (by decide) ?_
              refine at_iadd ok dL_law_253 ?_
              refine at_sld ok lx dL_law_254 h fun v254 h => ?_
              refine at_cVi (As := [.int (v254)]) ok ct_L_law_28 dL_law_255 (by simp [cat_rf, cat_i, cat_l]) (s7_keep v0 v254 _) h fun v255 σ h => ?_
              refine at_aloadn ok dL_law_258 rfl ?_
              refine at_aloadns ok dL_law_259 rfl ?_
              refine at_iloadn ok dL_law_260 rfl ?_
              refine at_iconst (v := 1) ok dL_law_261 (by decide) ?_
              refine at_iadd ok dL_law_262 ?_
              refine at_sld ok lx dL_law_263 h fun v263 h => ?_
              refine at_cVi (As := [.int (v263)]) ok ct_L_law_31 dL_law_264 (by simp [cat_rf, cat_i, cat_l]) (s8_keep v8 v263 _) h fun v264 σ h => ?_
              refine bt_icmp_eq (tgt := 1069) ok dL_law_267 (by decide) h (fun hc h => ?_) (fun hc h => ?_)
              · refine at_iinc (v := x18 + 7) ok dL_law_1069 rfl rfl (lc_ref rfl) (by decide) ?_
                refine at_goto (tgt := 18) ok dL_law_1072 (by decide) ?_
                exact at_weak (lw_s (lw_s (lw_s (lw_s lw_0)))) (ih (x18 + 7) _ h)
              · refine at_iconst (v := 0) ok dL_law_270 (by decide) ?_
                exact at_lret ok lx dL_law_271 (hr_inl h)
            · refine at_ite h (fun hc4 h => ?_) (fun hc4 h => ?_)
              · refine at_tsw (tgt := 272) ok dL_law_33 (tsw_in hc4 (by decide) rfl (by decide)) ?_
                refine at_aloadn ok dL_law_272 rfl ?_
                refine at_aloadns ok dL_law_273 rfl ?_
                refine at_iloadn ok dL_law_274 rfl ?_
                refine at_iconst (v := 1) ok dL_law_275 (by decide) ?_
                refine at_iadd ok dL_law_276 ?_
                refine at_sld ok lx dL_law_277 h fun v277 h => ?_
                refine at_cVi (As := [.int (v277)]) ok ct_L_law_32 dL_law_278 (by simp [cat_rf, cat_i, cat_l]) (s7_mark v0 v277 _) h fun v278 σ h => ?_
                refine at_aloadn ok dL_law_281 rfl ?_
                refine at_aloadns ok dL_law_282 rfl ?_
                refine at_iloadn ok dL_law_283 rfl ?_
                refine at_iconst (v := 1) ok dL_law_284 (by decide) ?_
                refine at_iadd ok dL_law_285 ?_
                refine at_sld ok lx dL_law_286 h fun v286 h => ?_
                refine at_cVi (As := [.int (v286)]) ok ct_L_law_35 dL_law_287 (by simp [cat_rf, cat_i, cat_l]) (s8_mark v8 v286 _) h fun v287 σ h => ?_
                refine bt_icmp_eq (tgt := 1069) ok dL_law_290 (by decide) h (fun hc h => ?_) (fun hc h => ?_)
                · refine at_iinc (v := x18 + 7) ok dL_law_1069 rfl rfl (lc_ref rfl) (by decide) ?_
                  refine at_goto (tgt := 18) ok dL_law_1072 (by decide) ?_
                  exact at_weak (lw_s (lw_s (lw_s (lw_s lw_0)))) (ih (x18 + 7) _ h)
                · refine at_iconst (v := 0) ok dL_law_293 (by decide) ?_
                  exact at_lret ok lx dL_law_294 (hr_inl h)
              · refine at_ite h (fun hc5 h => ?_) (fun hc5 h => ?_)
                · refine at_tsw (tgt := 295) ok dL_law_33 (tsw_in hc5 (by decide) rfl (by decide)) ?_
                  refine at_aloadn ok dL_law_295 rfl ?_
                  refine at_aloadns ok dL_law_296 rfl ?_
                  refine at_iloadn ok dL_law_297 rfl ?_
                  refine at_iconst (v := 1) ok dL_law_298 (by decide) ?_
                  refine at_iadd ok dL_law_299 ?_
                  refine at_sld ok lx dL_law_300 h fun v300 h => ?_
                  refine at_aloadns ok dL_law_301 rfl ?_
                  refine at_iloadn ok dL_law_302 rfl ?_
                  refine at_iconst (v := 2) ok dL_law_303 (by decide) ?_
                  refine at_iadd ok dL_law_304 ?_
                  refine at_sld ok lx dL_law_305 h fun v305 h => ?_
                  refine at_aloadns ok dL_law_306 rfl ?_
                  refine at_iloadn ok dL_law_307 rfl ?_
                  refine at_iconst (v := 3) ok dL_law_308 (by decide) ?_
                  refine at_iadd ok dL_law_309 ?_
                  refine at_sld ok lx dL_law_310 h fun v310 h => ?_
                  refine at_cVi (As := [.int (v300), .int (v305), .int (v310)]) ok ct_L_law_36 dL_law_311 (by simp [cat_rf, cat_i, cat_l]) (s7_near v0 v300 v305 v310 _) h fun v311 σ h => ?_
                  refine at_aloadn ok dL_law_314 rfl ?_
                  refine at_aloadns ok dL_law_315 rfl ?_
                  refine at_iloadn ok dL_law_316 rfl ?_
                  refine at_iconst (v := 1) ok dL_law_317 (by decide) ?_
                  refine at_iadd ok dL_law_318 ?_
                  refine at_sld ok lx dL_law_319 h fun v319 h => ?_
                  refine at_aloadns ok dL_law_320 rfl ?_
                  refine at_iloadn ok dL_law_321 rfl ?_
                  refine at_iconst (v := 2) ok dL_law_322 (by decide) ?_
                  refine at_iadd ok dL_law_323 ?_
                  refine at_sld ok lx dL_law_324 h fun v324 h => ?_
                  refine at_aloadns ok dL_law_325 rfl ?_
                  refine at_iloadn ok dL_law_326 rfl ?_
                  refine at_iconst (v := 3) ok dL_law_327 (by decide) ?_
                  refine at_iadd ok dL_law_328 ?_
                  refine at_sld ok lx dL_law_329 h fun v329 h => ?_
                  refine at_cVi (As := [.int (v319), .int (v324), .int (v329)]) ok ct_L_law_40 dL_law_330 (by simp [cat_rf, cat_i, cat_l]) (s8_near v8 v319 v324 v329 _) h fun v330 σ h => ?_
                  refine bt_icmp_eq (tgt := 1069) ok dL_law_333 (by decide) h (fun hc h => ?_) (fun hc h => ?_)
                  · refine at_iinc (v := x18 + 7) ok dL_law_1069 rfl rfl (lc_ref rfl) (by decide) ?_
                    refine at_goto (tgt := 18) ok dL_law_1072 (by decide) ?_
                    exact at_weak (lw_s (lw_s (lw_s (lw_s lw_0)))) (ih (x18 + 7) _ h)
                  · refine at_iconst (v := 0) ok dL_law_336 (by decide) ?_
                    exact at_lret ok lx dL_law_337 (hr_inl h)
                · refine at_ite h (fun hc6 h => ?_) (fun hc6 h => ?_)
                  · refine at_tsw (tgt := 338) ok dL_law_33 (tsw_in hc6 (by decide) rfl (by decide)) ?_
                    refine at_aloadn ok dL_law_338 rfl ?_
                    refine at_aloadns ok dL_law_339 rfl ?_
                    refine at_iloadn ok dL_law_340 rfl ?_
                    refine at_iconst (v := 1) ok dL_law_341 (by decide) ?_
                    refine at_iadd ok dL_law_342 ?_
                    refine at_sld ok lx dL_law_343 h fun v343 h => ?_
                    refine at_aloadns ok dL_law_344 rfl ?_
                    refine at_iloadn ok dL_law_345 rfl ?_
                    refine at_iconst (v := 2) ok dL_law_346 (by decide) ?_
                    refine at_iadd ok dL_law_347 ?_
                    refine at_sld ok lx dL_law_348 h fun v348 h => ?_
                    refine at_cVi (As := [.int (v343), .int (v348)]) ok ct_L_law_41 dL_law_349 (by simp [cat_rf, cat_i, cat_l]) (s7_count v0 v343 v348 _) h fun v349 σ h => ?_
                    refine at_aloadn ok dL_law_352 rfl ?_
                    refine at_aloadns ok dL_law_353 rfl ?_
                    refine at_iloadn ok dL_law_354 rfl ?_
                    refine at_iconst (v := 1) ok dL_law_355 (by decide) ?_
                    refine at_iadd ok dL_law_356 ?_
                    refine at_sld ok lx dL_law_357 h fun v357 h => ?_
                    refine at_aloadns ok dL_law_358 rfl ?_
                    refine at_iloadn ok dL_law_359 rfl ?_
                    refine at_iconst (v := 2) ok dL_law_360 (by decide) ?_
                    refine at_iadd ok dL_law_361 ?_
                    refine at_sld ok lx dL_law_362 h fun v362 h => ?_
                    refine at_cVi (As := [.int (v357), .int (v362)]) ok ct_L_law_45 dL_law_363 (by simp [cat_rf, cat_i, cat_l]) (s8_count v8 v357 v362 _) h fun v363 σ h => ?_
                    refine bt_icmp_eq (tgt := 1069) ok dL_law_366 (by decide) h (fun hc h => ?_) (fun hc h => ?_)
                    · refine at_iinc (v := x18 + 7) ok dL_law_1069 rfl rfl (lc_ref rfl) (by decide) ?_
                      refine at_goto (tgt := 18) ok dL_law_1072 (by decide) ?_
                      exact at_weak (lw_s (lw_s (lw_s (lw_s lw_0)))) (ih (x18 + 7) _ h)
                    · refine at_iconst (v := 0) ok dL_law_369 (by decide) ?_
                      exact at_lret ok lx dL_law_370 (hr_inl h)
                  · refine at_ite h (fun hc7 h => ?_) (fun hc7 h => ?_)
                    · refine at_tsw (tgt := 371) ok dL_law_33 (tsw_in hc7 (by decide) rfl (by decide)) ?_
                      refine at_aloadn ok dL_law_371 rfl ?_
                      refine at_aloadns ok dL_law_372 rfl ?_
                      refine at_iloadn ok dL_law_373 rfl ?_
                      refine at_iconst (v := 1) ok dL_law_374 (by decide) ?_
                      refine at_iadd ok dL_law_375 ?_
                      refine at_sld ok lx dL_law_376 h fun v376 h => ?_
                      refine at_aloadns ok dL_law_377 rfl ?_
                      refine at_iloadn ok dL_law_378 rfl ?_
                      refine at_iconst (v := 2) ok dL_law_379 (by decide) ?_
                      refine at_iadd ok dL_law_380 ?_
                      refine at_sld ok lx dL_law_381 h fun v381 h => ?_
                      refine at_aloadns ok dL_law_382 rfl ?_
                      refine at_iloadn ok dL_law_383 rfl ?_
                      refine at_iconst (v := 3) ok dL_law_384 (by decide) ?_
                      refine at_iadd ok dL_law_385 ?_
                      refine at_sld ok lx dL_law_386 h fun v386 h => ?_
                      refine at_aloadns ok dL_law_387 rfl ?_
                      refine at_iloadn ok dL_law_388 rfl ?_
                      refine at_iconst (v := 4) ok dL_law_389 (by decide) ?_
                      refine at_iadd ok dL_law_390 ?_
                      refine at_sld ok lx dL_law_391 h fun v391 h => ?_
                      refine at_aloadns ok dL_law_392 rfl ?_
                      refine at_iloadn ok dL_law_393 rfl ?_
                      refine at_iconst (v := 5) ok dL_law_394 (by decide) ?_
                      refine at_iadd ok dL_law_395 ?_
                      refine at_sld ok lx dL_law_396 h fun v396 h => ?_
                      refine at_cVi (As := [.int (v376), .int (v381), .int (v386), .int (v391), .int (v396)]) ok ct_L_law_46 dL_law_397 (by simp [cat_rf, cat_i, cat_l]) (s7_pieces v0 v376 v381 v386 v391 v396 _) h fun v397 σ h => ?_
                      refine at_aloadn ok dL_law_400 rfl ?_
                      refine at_aloadns ok dL_law_401 rfl ?_
                      refine at_iloadn ok dL_law_402 rfl ?_
                      refine at_iconst (v := 1) ok dL_law_403 (by decide) ?_
                      refine at_iadd ok dL_law_404 ?_
                      refine at_sld ok lx dL_law_405 h fun v405 h => ?_
                      refine at_aloadns ok dL_law_406 rfl ?_
                      refine at_iloadn ok dL_law_407 rfl ?_
                      refine at_iconst (v := 2) ok dL_law_408 (by decide) ?_
                      refine at_iadd ok dL_law_409 ?_
                      refine at_sld ok lx dL_law_410 h fun v410 h => ?_
                      refine at_aloadns ok dL_law_411 rfl ?_
                      refine at_iloadn ok dL_law_412 rfl ?_
                      refine at_iconst (v := 3) ok dL_law_413 (by decide) ?_
                      refine at_iadd ok dL_law_414 ?_
                      refine at_sld ok lx dL_law_415 h fun v415 h => ?_
                      refine at_aloadns ok dL_law_416 rfl ?_
                      refine at_iloadn ok dL_law_417 rfl ?_
                      refine at_iconst (v := 4) ok dL_law_418 (by decide) ?_
                      refine at_iadd ok dL_law_419 ?_
                      refine at_sld ok lx dL_law_420 h fun v420 h => ?_
                      refine at_aloadns ok dL_law_421 rfl ?_
                      refine at_iloadn ok dL_law_422 rfl ?_
                      refine at_iconst (v := 5) ok dL_law_423 (by decide) ?_
                      refine at_iadd ok dL_law_424 ?_
                      refine at_sld ok lx dL_law_425 h fun v425 h => ?_
                      refine at_cVi (As := [.int (v405), .int (v410), .int (v415), .int (v420), .int (v425)]) ok ct_L_law_50 dL_law_426 (by simp [cat_rf, cat_i, cat_l]) (s8_pieces v8 v405 v410 v415 v420 v425 _) h fun v426 σ h => ?_
                      refine bt_icmp_eq (tgt := 1069) ok dL_law_429 (by decide) h (fun hc h => ?_) (fun hc h => ?_)
                      · refine at_iinc (v := x18 + 7) ok dL_law_1069 rfl rfl (lc_ref rfl) (by decide) ?_
                        refine at_goto (tgt := 18) ok dL_law_1072 (by decide) ?_
                        exact at_weak (lw_s (lw_s (lw_s (lw_s lw_0)))) (ih (x18 + 7) _ h)
                      · refine at_iconst (v := 0) ok dL_law_432 (by decide) ?_
                        exact at_lret ok lx dL_law_433 (hr_inl h)
                    · refine at_ite h (fun hc8 h => ?_) (fun hc8 h => ?_)
                      · refine at_tsw (tgt := 434) ok dL_law_33 (tsw_in hc8 (by decide) rfl (by decide)) ?_
                        refine at_aloadn ok dL_law_434 rfl ?_
                        refine at_aloadns ok dL_law_435 rfl ?_
                        refine at_iloadn ok dL_law_436 rfl ?_
                        refine at_iconst (v := 1) ok dL_law_437 (by decide) ?_
                        refine at_iadd ok dL_law_438 ?_
                        refine at_sld ok lx dL_law_439 h fun v439 h => ?_
                        refine at_aloadns ok dL_law_440 rfl ?_
                        refine at_iloadn ok dL_law_441 rfl ?_
                        refine at_iconst (v := 2) ok dL_law_442 (by decide) ?_
                        refine at_iadd ok dL_law_443 ?_
                        refine at_sld ok lx dL_law_444 h fun v444 h => ?_
                        refine at_aloadns ok dL_law_445 rfl ?_
                        refine at_iloadn ok dL_law_446 rfl ?_
                        refine at_iconst (v := 3) ok dL_law_447 (by decide) ?_
                        refine at_iadd ok dL_law_448 ?_
                        refine at_sld ok lx dL_law_449 h fun v449 h => ?_
                        refine at_aloadns ok dL_law_450 rfl ?_
                        refine at_iloadn ok dL_law_451 rfl ?_
                        refine at_iconst (v := 4) ok dL_law_452 (by decide) ?_
                        refine at_iadd ok dL_law_453 ?_
                        refine at_sld ok lx dL_law_454 h fun v454 h => ?_
                        refine at_join (fun y463 σ => AT X mL_law 463 [some (.retAddr (b0)), some (va_rf (v0)), some (va_rf (v8)), some (.int (x18))] [.int (y463), .int (v449), .int (v444), .int (v439), va_rf (v0)] σ) h (fun y463 σ h => ?_) (fun h j463 => ?_)
                        · refine at_cVi (As := [.int (v439), .int (v444), .int (v449), .int (y463)]) ok ct_L_law_51 dL_law_463 (by simp [cat_rf, cat_i, cat_l]) (s7_allow v0 v439 v444 v449 y463 _) h fun v463 σ h => ?_
                          refine at_aloadn ok dL_law_466 rfl ?_
                          refine at_aloadns ok dL_law_467 rfl ?_
                          refine at_iloadn ok dL_law_468 rfl ?_
                          refine at_iconst (v := 1) ok dL_law_469 (by decide) ?_
                          refine at_iadd ok dL_law_470 ?_
                          refine at_sld ok lx dL_law_471 h fun v471 h => ?_
                          refine at_aloadns ok dL_law_472 rfl ?_
                          refine at_iloadn ok dL_law_473 rfl ?_
                          refine at_iconst (v := 2) ok dL_law_474 (by decide) ?_
                          refine at_iadd ok dL_law_475 ?_
                          refine at_sld ok lx dL_law_476 h fun v476 h => ?_
                          refine at_aloadns ok dL_law_477 rfl ?_
                          refine at_iloadn ok dL_law_478 rfl ?_
                          refine at_iconst (v := 3) ok dL_law_479 (by decide) ?_
                          refine at_iadd ok dL_law_480 ?_
                          refine at_sld ok lx dL_law_481 h fun v481 h => ?_
                          refine at_aloadns ok dL_law_482 rfl ?_
                          refine at_iloadn ok dL_law_483 rfl ?_
                          refine at_iconst (v := 4) ok dL_law_484 (by decide) ?_
                          refine at_iadd ok dL_law_485 ?_
                          refine at_sld ok lx dL_law_486 h fun v486 h => ?_
                          refine at_join (fun y495 σ => AT X mL_law 495 [some (.retAddr (b0)), some (va_rf (v0)), some (va_rf (v8)), some (.int (x18))] [.int (y495), .int (v481), .int (v476), .int (v471), va_rf (v8), .int (v463)] σ) h (fun y495 σ h => ?_) (fun h j495 => ?_)
                          · refine at_cVi (As := [.int (v471), .int (v476), .int (v481), .int (y495)]) ok ct_L_law_55 dL_law_495 (by simp [cat_rf, cat_i, cat_l]) (s8_allow v8 v471 v476 v481 y495 _) h fun v495 σ h => ?_
                            refine bt_icmp_eq (tgt := 1069) ok dL_law_498 (by decide) h (fun hc h => ?_) (fun hc h => ?_)
                            · refine at_iinc (v := x18 + 7) ok dL_law_1069 rfl rfl (lc_ref rfl) (by decide) ?_
                              refine at_goto (tgt := 18) ok dL_law_1072 (by decide) ?_
                              exact at_weak (lw_s (lw_s (lw_s (lw_s lw_0)))) (ih (x18 + 7) _ h)
                            · refine at_iconst (v := 0) ok dL_law_501 (by decide) ?_
                              exact at_lret ok lx dL_law_502 (hr_inl h)
                          · refine bt_if_eq (tgt := 494) ok dL_law_487 (by decide) h (fun hc h => ?_) (fun hc h => ?_)
                            · refine at_iconst (v := 0) ok dL_law_494 (by decide) ?_
                              exact at_weak (lw_s (lw_s (lw_s (lw_s lw_0)))) (j495 0 _ (hr_rt.mp h))
                            · refine at_iconst (v := 1) ok dL_law_490 (by decide) ?_
                              refine at_goto (tgt := 495) ok dL_law_491 (by decide) ?_
                              exact at_weak (lw_s (lw_s (lw_s (lw_s lw_0)))) (j495 1 _ (hr_rt.mp h))
                        · refine bt_if_eq (tgt := 462) ok dL_law_455 (by decide) h (fun hc h => ?_) (fun hc h => ?_)
                          · refine at_iconst (v := 0) ok dL_law_462 (by decide) ?_
                            exact at_weak (lw_s (lw_s (lw_s (lw_s lw_0)))) (j463 0 _ (hr_rt.mp h))
                          · refine at_iconst (v := 1) ok dL_law_458 (by decide) ?_
                            refine at_goto (tgt := 463) ok dL_law_459 (by decide) ?_
                            exact at_weak (lw_s (lw_s (lw_s (lw_s lw_0)))) (j463 1 _ (hr_rt.mp h))
                      · refine at_ite h (fun hc9 h => ?_) (fun hc9 h => ?_)
                        · refine at_tsw (tgt := 503) ok dL_law_33 (tsw_in hc9 (by decide) rfl (by decide)) ?_
                          refine at_aloadn ok dL_law_503 rfl ?_
                          refine at_aloadns ok dL_law_504 rfl ?_
                          refine at_iloadn ok dL_law_505 rfl ?_
                          refine at_iconst (v := 1) ok dL_law_506 (by decide) ?_
                          refine at_iadd ok dL_law_507 ?_
                          refine at_sld ok lx dL_law_508 h fun v508 h => ?_
                          refine at_aloadns ok dL_law_509 rfl ?_
                          refine at_iloadn ok dL_law_510 rfl ?_
                          refine at_iconst (v := 2) ok dL_law_511 (by decide) ?_
                          refine at_iadd ok dL_law_512 ?_
                          refine at_sld ok lx dL_law_513 h fun v513 h => ?_
                          refine at_aloadns ok dL_law_514 rfl ?_
                          refine at_iloadn ok dL_law_515 rfl ?_
                          refine at_iconst (v := 3) ok dL_law_516 (by decide) ?_
                          refine at_iadd ok dL_law_517 ?_
                          refine at_sld ok lx dL_law_518 h fun v518 h => ?_
                          refine at_aloadns ok dL_law_519 rfl ?_
                          refine at_iloadn ok dL_law_520 rfl ?_
                          refine at_iconst (v := 4) ok dL_law_521 (by decide) ?_
                          refine at_iadd ok dL_law_522 ?_
                          refine at_sld ok lx dL_law_523 h fun v523 h => ?_
                          refine at_aloadns ok dL_law_524 rfl ?_
                          refine at_iloadn ok dL_law_525 rfl ?_
                          refine at_iconst (v := 5) ok dL_law_526 (by decide) ?_
                          refine at_iadd ok dL_law_527 ?_
                          refine at_sld ok lx dL_law_528 h fun v528 h => ?_
                          refine at_cVi (As := [.int (v508), .int (v513), .int (v518), .int (v523), .int (v528)]) ok ct_L_law_56 dL_law_529 (by simp [cat_rf, cat_i, cat_l]) (s7_rule v0 v508 v513 v518 v523 v528 _) h fun v529 σ h => ?_
                          refine at_aloadn ok dL_law_532 rfl ?_
                          refine at_aloadns ok dL_law_533 rfl ?_
                          refine at_iloadn ok dL_law_534 rfl ?_
                          refine at_iconst (v := 1) ok dL_law_535 (by decide) ?_
                          refine at_iadd ok dL_law_536 ?_
                          refine at_sld ok lx dL_law_537 h fun v537 h => ?_
                          refine at_aloadns ok dL_law_538 rfl ?_
                          refine at_iloadn ok dL_law_539 rfl ?_
                          refine at_iconst (v := 2) ok dL_law_540 (by decide) ?_
                          refine at_iadd ok dL_law_541 ?_
                          refine at_sld ok lx dL_law_542 h fun v542 h => ?_
                          refine at_aloadns ok dL_law_543 rfl ?_
                          refine at_iloadn ok dL_law_544 rfl ?_
                          refine at_iconst (v := 3) ok dL_law_545 (by decide) ?_
                          refine at_iadd ok dL_law_546 ?_
                          refine at_sld ok lx dL_law_547 h fun v547 h => ?_
                          refine at_aloadns ok dL_law_548 rfl ?_
                          refine at_iloadn ok dL_law_549 rfl ?_
                          refine at_iconst (v := 4) ok dL_law_550 (by decide) ?_
                          refine at_iadd ok dL_law_551 ?_
                          refine at_sld ok lx dL_law_552 h fun v552 h => ?_
                          refine at_aloadns ok dL_law_553 rfl ?_
                          refine at_iloadn ok dL_law_554 rfl ?_
                          refine at_iconst (v := 5) ok dL_law_555 (by decide) ?_
                          refine at_iadd ok dL_law_556 ?_
                          refine at_sld ok lx dL_law_557 h fun v557 h => ?_
                          refine at_cVi (As := [.int (v537), .int (v542), .int (v547), .int (v552), .int (v557)]) ok ct_L_law_59 dL_law_558 (by simp [cat_rf, cat_i, cat_l]) (s8_rule v8 v537 v542 v547 v552 v557 _) h fun v558 σ h => ?_
                          refine bt_icmp_eq (tgt := 1069) ok dL_law_561 (by decide) h (fun hc h => ?_) (fun hc h => ?_)
                          · refine at_iinc (v := x18 + 7) ok dL_law_1069 rfl rfl (lc_ref rfl) (by decide) ?_
                            refine at_goto (tgt := 18) ok dL_law_1072 (by decide) ?_
                            exact at_weak (lw_s (lw_s (lw_s (lw_s lw_0)))) (ih (x18 + 7) _ h)
                          · refine at_iconst (v := 0) ok dL_law_564 (by decide) ?_
                            exact at_lret ok lx dL_law_565 (hr_inl h)
                        · refine at_ite h (fun hc10 h => ?_) (fun hc10 h => ?_)
                          · refine at_tsw (tgt := 566) ok dL_law_33 (tsw_in hc10 (by decide) rfl (by decide)) ?_
                            refine at_aloadn ok dL_law_566 rfl ?_
                            refine at_aloadns ok dL_law_567 rfl ?_
                            refine at_iloadn ok dL_law_568 rfl ?_
                            refine at_iconst (v := 1) ok dL_law_569 (by decide) ?_
                            refine at_iadd ok dL_law_570 ?_
                            refine at_sld ok lx dL_law_571 h fun v571 h => ?_
                            refine at_cVi (As := [.int (v571)]) ok ct_L_law_60 dL_law_572 (by simp [cat_rf, cat_i, cat_l]) (s7_drop v0 v571 _) h fun v572 σ h => ?_
                            refine at_aloadn ok dL_law_575 rfl ?_
                            refine at_aloadns ok dL_law_576 rfl ?_
                            refine at_iloadn ok dL_law_577 rfl ?_
                            refine at_iconst (v := 1) ok dL_law_578 (by decide) ?_
                            refine at_iadd ok dL_law_579 ?_
                            refine at_sld ok lx dL_law_580 h fun v580 h => ?_
                            refine at_cVi (As := [.int (v580)]) ok ct_L_law_63 dL_law_581 (by simp [cat_rf, cat_i, cat_l]) (s8_drop v8 v580 _) h fun v581 σ h => ?_
                            refine bt_icmp_eq (tgt := 1069) ok dL_law_584 (by decide) h (fun hc h => ?_) (fun hc h => ?_)
                            · refine at_iinc (v := x18 + 7) ok dL_law_1069 rfl rfl (lc_ref rfl) (by decide) ?_
                              refine at_goto (tgt := 18) ok dL_law_1072 (by decide) ?_
                              exact at_weak (lw_s (lw_s (lw_s (lw_s lw_0)))) (ih (x18 + 7) _ h)
                            · refine at_iconst (v := 0) ok dL_law_587 (by decide) ?_
                              exact at_lret ok lx dL_law_588 (hr_inl h)
                          · refine at_ite h (fun hc11 h => ?_) (fun hc11 h => ?_)
                            · refine at_tsw (tgt := 589) ok dL_law_33 (tsw_in hc11 (by decide) rfl (by decide)) ?_
                              refine at_aloadn ok dL_law_589 rfl ?_
                              refine at_aloadns ok dL_law_590 rfl ?_
                              refine at_iloadn ok dL_law_591 rfl ?_
                              refine at_iconst (v := 1) ok dL_law_592 (by decide) ?_
                              refine at_iadd ok dL_law_593 ?_
                              refine at_sld ok lx dL_law_594 h fun v594 h => ?_
                              refine at_aloadns ok dL_law_595 rfl ?_
                              refine at_iloadn ok dL_law_596 rfl ?_
                              refine at_iconst (v := 2) ok dL_law_597 (by decide) ?_
                              refine at_iadd ok dL_law_598 ?_
                              refine at_sld ok lx dL_law_599 h fun v599 h => ?_
                              refine at_aloadns ok dL_law_600 rfl ?_
                              refine at_iloadn ok dL_law_601 rfl ?_
                              refine at_iconst (v := 3) ok dL_law_602 (by decide) ?_
                              refine at_iadd ok dL_law_603 ?_
                              refine at_sld ok lx dL_law_604 h fun v604 h => ?_
                              refine at_cVi (As := [.int (v594), .int (v599), .int (v604)]) ok ct_L_law_64 dL_law_605 (by simp [cat_rf, cat_i, cat_l]) (s7_send v0 v594 v599 v604 _) h fun v605 σ h => ?_
                              refine at_aloadn ok dL_law_608 rfl ?_
                              refine at_aloadns ok dL_law_609 rfl ?_
                              refine at_iloadn ok dL_law_610 rfl ?_
                              refine at_iconst (v := 1) ok dL_law_611 (by decide) ?_
                              refine at_iadd ok dL_law_612 ?_
                              refine at_sld ok lx dL_law_613 h fun v613 h => ?_
                              refine at_aloadns ok dL_law_614 rfl ?_
                              refine at_iloadn ok dL_law_615 rfl ?_
                              refine at_iconst (v := 2) ok dL_law_616 (by decide) ?_
                              refine at_iadd ok dL_law_617 ?_
                              refine at_sld ok lx dL_law_618 h fun v618 h => ?_
                              refine at_aloadns ok dL_law_619 rfl ?_
                              refine at_iloadn ok dL_law_620 rfl ?_
                              refine at_iconst (v := 3) ok dL_law_621 (by decide) ?_
                              refine at_iadd ok dL_law_622 ?_
                              refine at_sld ok lx dL_law_623 h fun v623 h => ?_
                              refine at_cVi (As := [.int (v613), .int (v618), .int (v623)]) ok ct_L_law_68 dL_law_624 (by simp [cat_rf, cat_i, cat_l]) (s8_send v8 v613 v618 v623 _) h fun v624 σ h => ?_
                              refine bt_icmp_eq (tgt := 1069) ok dL_law_627 (by decide) h (fun hc h => ?_) (fun hc h => ?_)
                              · refine at_iinc (v := x18 + 7) ok dL_law_1069 rfl rfl (lc_ref rfl) (by decide) ?_
                                refine at_goto (tgt := 18) ok dL_law_1072 (by decide) ?_
                                exact at_weak (lw_s (lw_s (lw_s (lw_s lw_0)))) (ih (x18 + 7) _ h)
                              · refine at_iconst (v := 0) ok dL_law_630 (by decide) ?_
                                exact at_lret ok lx dL_law_631 (hr_inl h)
                            · refine at_ite h (fun hc12 h => ?_) (fun hc12 h => ?_)
                              · refine at_tsw (tgt := 632) ok dL_law_33 (tsw_in hc12 (by decide) rfl (by decide)) ?_
                                refine at_aloadn ok dL_law_632 rfl ?_
                                refine at_aloadns ok dL_law_633 rfl ?_
                                refine at_iloadn ok dL_law_634 rfl ?_
                                refine at_iconst (v := 1) ok dL_law_635 (by decide) ?_
                                refine at_iadd ok dL_law_636 ?_
                                refine at_sld ok lx dL_law_637 h fun v637 h => ?_
                                refine at_aloadns ok dL_law_638 rfl ?_
                                refine at_iloadn ok dL_law_639 rfl ?_
                                refine at_iconst (v := 2) ok dL_law_640 (by decide) ?_
                                refine at_iadd ok dL_law_641 ?_
                                refine at_sld ok lx dL_law_642 h fun v642 h => ?_
                                refine at_join (fun y651 σ => AT X mL_law 651 [some (.retAddr (b0)), some (va_rf (v0)), some (va_rf (v8)), some (.int (x18))] [.int (y651), .int (v637), va_rf (v0)] σ) h (fun y651 σ h => ?_) (fun h j651 => ?_)
                                · refine at_cVi (As := [.int (v637), .int (y651)]) ok ct_L_law_69 dL_law_651 (by simp [cat_rf, cat_i, cat_l]) (s7_answer v0 v637 y651 _) h fun v651 σ h => ?_
                                  refine at_aloadn ok dL_law_654 rfl ?_
                                  refine at_aloadns ok dL_law_655 rfl ?_
                                  refine at_iloadn ok dL_law_656 rfl ?_
                                  refine at_iconst (v := 1) ok dL_law_657 (by decide) ?_
                                  refine at_iadd ok dL_law_658 ?_
                                  refine at_sld ok lx dL_law_659 h fun v659 h => ?_
                                  refine at_aloadns ok dL_law_660 rfl ?_
                                  refine at_iloadn ok dL_law_661 rfl ?_
                                  refine at_iconst (v := 2) ok dL_law_662 (by decide) ?_
                                  refine at_iadd ok dL_law_663 ?_
                                  refine at_sld ok lx dL_law_664 h fun v664 h => ?_
                                  refine at_join (fun y673 σ => AT X mL_law 673 [some (.retAddr (b0)), some (va_rf (v0)), some (va_rf (v8)), some (.int (x18))] [.int (y673), .int (v659), va_rf (v8), .int (v651)] σ) h (fun y673 σ h => ?_) (fun h j673 => ?_)
                                  · refine at_cVi (As := [.int (v659), .int (y673)]) ok ct_L_law_73 dL_law_673 (by simp [cat_rf, cat_i, cat_l]) (s8_answer v8 v659 y673 _) h fun v673 σ h => ?_
                                    refine bt_icmp_eq (tgt := 1069) ok dL_law_676 (by decide) h (fun hc h => ?_) (fun hc h => ?_)
                                    · refine at_iinc (v := x18 + 7) ok dL_law_1069 rfl rfl (lc_ref rfl) (by decide) ?_
                                      refine at_goto (tgt := 18) ok dL_law_1072 (by decide) ?_
                                      exact at_weak (lw_s (lw_s (lw_s (lw_s lw_0)))) (ih (x18 + 7) _ h)
                                    · refine at_iconst (v := 0) ok dL_law_679 (by decide) ?_
                                      exact at_lret ok lx dL_law_680 (hr_inl h)
                                  · refine bt_if_eq (tgt := 672) ok dL_law_665 (by decide) h (fun hc h => ?_) (fun hc h => ?_)
                                    · refine at_iconst (v := 0) ok dL_law_672 (by decide) ?_
                                      exact at_weak (lw_s (lw_s (lw_s (lw_s lw_0)))) (j673 0 _ (hr_rt.mp h))
                                    · refine at_iconst (v := 1) ok dL_law_668 (by decide) ?_
                                      refine at_goto (tgt := 673) ok dL_law_669 (by decide) ?_
                                      exact at_weak (lw_s (lw_s (lw_s (lw_s lw_0)))) (j673 1 _ (hr_rt.mp h))
                                · refine bt_if_eq (tgt := 650) ok dL_law_643 (by decide) h (fun hc h => ?_) (fun hc h => ?_)
                                  · refine at_iconst (v := 0) ok dL_law_650 (by decide) ?_
                                    exact at_weak (lw_s (lw_s (lw_s (lw_s lw_0)))) (j651 0 _ (hr_rt.mp h))
                                  · refine at_iconst (v := 1) ok dL_law_646 (by decide) ?_
                                    refine at_goto (tgt := 651) ok dL_law_647 (by decide) ?_
                                    exact at_weak (lw_s (lw_s (lw_s (lw_s lw_0)))) (j651 1 _ (hr_rt.mp h))
                              · refine at_ite h (fun hc13 h => ?_) (fun hc13 h => ?_)
                                · refine at_tsw (tgt := 681) ok dL_law_33 (tsw_in hc13 (by decide) rfl (by decide)) ?_
                                  refine at_aloadn ok dL_law_681 rfl ?_
                                  refine at_aloadns ok dL_law_682 rfl ?_
                                  refine at_iloadn ok dL_law_683 rfl ?_
                                  refine at_iconst (v := 1) ok dL_law_684 (by decide) ?_
                                  refine at_iadd ok dL_law_685 ?_
                                  refine at_sld ok lx dL_law_686 h fun v686 h => ?_
                                  refine at_aloadns ok dL_law_687 rfl ?_
                                  refine at_iloadn ok dL_law_688 rfl ?_
                                  refine at_iconst (v := 2) ok dL_law_689 (by decide) ?_
                                  refine at_iadd ok dL_law_690 ?_
                                  refine at_sld ok lx dL_law_691 h fun v691 h => ?_
                                  refine at_cVi (As := [.int (v686), .int (v691)]) ok ct_L_law_74 dL_law_692 (by simp [cat_rf, cat_i, cat_l]) (s7_told v0 v686 v691 _) h fun v692 σ h => ?_
                                  refine at_aloadn ok dL_law_695 rfl ?_
                                  refine at_aloadns ok dL_law_696 rfl ?_
                                  refine at_iloadn ok dL_law_697 rfl ?_
                                  refine at_iconst (v := 1) ok dL_law_698 (by decide) ?_
                                  refine at_iadd ok dL_law_699 ?_
                                  refine at_sld ok lx dL_law_700 h fun v700 h => ?_
                                  refine at_aloadns ok dL_law_701 rfl ?_
                                  refine at_iloadn ok dL_law_702 rfl ?_
                                  refine at_iconst (v := 2) ok dL_law_703 (by decide) ?_
                                  refine at_iadd ok dL_law_704 ?_
                                  refine at_sld ok lx dL_law_705 h fun v705 h => ?_
                                  refine at_cVi (As := [.int (v700), .int (v705)]) ok ct_L_law_78 dL_law_706 (by simp [cat_rf, cat_i, cat_l]) (s8_told v8 v700 v705 _) h fun v706 σ h => ?_
                                  refine bt_icmp_eq (tgt := 1069) ok dL_law_709 (by decide) h (fun hc h => ?_) (fun hc h => ?_)
                                  · refine at_iinc (v := x18 + 7) ok dL_law_1069 rfl rfl (lc_ref rfl) (by decide) ?_
                                    refine at_goto (tgt := 18) ok dL_law_1072 (by decide) ?_
                                    exact at_weak (lw_s (lw_s (lw_s (lw_s lw_0)))) (ih (x18 + 7) _ h)
                                  · refine at_iconst (v := 0) ok dL_law_712 (by decide) ?_
                                    exact at_lret ok lx dL_law_713 (hr_inl h)
                                · refine at_ite h (fun hc14 h => ?_) (fun hc14 h => ?_)
                                  · refine at_tsw (tgt := 714) ok dL_law_33 (tsw_in hc14 (by decide) rfl (by decide)) ?_
                                    refine at_aloadn ok dL_law_714 rfl ?_
                                    refine at_aloadns ok dL_law_715 rfl ?_
                                    refine at_iloadn ok dL_law_716 rfl ?_
                                    refine at_iconst (v := 1) ok dL_law_717 (by decide) ?_
                                    refine at_iadd ok dL_law_718 ?_
                                    refine at_sld ok lx dL_law_719 h fun v719 h => ?_
                                    refine at_aloadns ok dL_law_720 rfl ?_
                                    refine at_iloadn ok dL_law_721 rfl ?_
                                    refine at_iconst (v := 2) ok dL_law_722 (by decide) ?_
                                    refine at_iadd ok dL_law_723 ?_
                                    refine at_sld ok lx dL_law_724 h fun v724 h => ?_
                                    refine at_aloadns ok dL_law_725 rfl ?_
                                    refine at_iloadn ok dL_law_726 rfl ?_
                                    refine at_iconst (v := 3) ok dL_law_727 (by decide) ?_
                                    refine at_iadd ok dL_law_728 ?_
                                    refine at_sld ok lx dL_law_729 h fun v729 h => ?_
                                    refine at_join (fun y738 σ => AT X mL_law 738 [some (.retAddr (b0)), some (va_rf (v0)), some (va_rf (v8)), some (.int (x18))] [.int (y738), .int (v724), .int (v719), va_rf (v0)] σ) h (fun y738 σ h => ?_) (fun h j738 => ?_)
                                    · refine at_cVi (As := [.int (v719), .int (v724), .int (y738)]) ok ct_L_law_79 dL_law_738 (by simp [cat_rf, cat_i, cat_l]) (s7_at v0 v719 v724 y738 _) h fun v738 σ h => ?_
                                      refine at_aloadn ok dL_law_741 rfl ?_
                                      refine at_aloadns ok dL_law_742 rfl ?_
                                      refine at_iloadn ok dL_law_743 rfl ?_
                                      refine at_iconst (v := 1) ok dL_law_744 (by decide) ?_
                                      refine at_iadd ok dL_law_745 ?_
                                      refine at_sld ok lx dL_law_746 h fun v746 h => ?_
                                      refine at_aloadns ok dL_law_747 rfl ?_
                                      refine at_iloadn ok dL_law_748 rfl ?_
                                      refine at_iconst (v := 2) ok dL_law_749 (by decide) ?_
                                      refine at_iadd ok dL_law_750 ?_
                                      refine at_sld ok lx dL_law_751 h fun v751 h => ?_
                                      refine at_aloadns ok dL_law_752 rfl ?_
                                      refine at_iloadn ok dL_law_753 rfl ?_
                                      refine at_iconst (v := 3) ok dL_law_754 (by decide) ?_
                                      refine at_iadd ok dL_law_755 ?_
                                      refine at_sld ok lx dL_law_756 h fun v756 h => ?_
                                      refine at_join (fun y765 σ => AT X mL_law 765 [some (.retAddr (b0)), some (va_rf (v0)), some (va_rf (v8)), some (.int (x18))] [.int (y765), .int (v751), .int (v746), va_rf (v8), .int (v738)] σ) h (fun y765 σ h => ?_) (fun h j765 => ?_)
                                      · refine at_cVi (As := [.int (v746), .int (v751), .int (y765)]) ok ct_L_law_83 dL_law_765 (by simp [cat_rf, cat_i, cat_l]) (s8_at v8 v746 v751 y765 _) h fun v765 σ h => ?_
                                        refine bt_icmp_eq (tgt := 1069) ok dL_law_768 (by decide) h (fun hc h => ?_) (fun hc h => ?_)
                                        · refine at_iinc (v := x18 + 7) ok dL_law_1069 rfl rfl (lc_ref rfl) (by decide) ?_
                                          refine at_goto (tgt := 18) ok dL_law_1072 (by decide) ?_
                                          exact at_weak (lw_s (lw_s (lw_s (lw_s lw_0)))) (ih (x18 + 7) _ h)
                                        · refine at_iconst (v := 0) ok dL_law_771 (by decide) ?_
                                          exact at_lret ok lx dL_law_772 (hr_inl h)
                                      · refine bt_if_eq (tgt := 764) ok dL_law_757 (by decide) h (fun hc h => ?_) (fun hc h => ?_)
                                        · refine at_iconst (v := 0) ok dL_law_764 (by decide) ?_
                                          exact at_weak (lw_s (lw_s (lw_s (lw_s lw_0)))) (j765 0 _ (hr_rt.mp h))
                                        · refine at_iconst (v := 1) ok dL_law_760 (by decide) ?_
                                          refine at_goto (tgt := 765) ok dL_law_761 (by decide) ?_
                                          exact at_weak (lw_s (lw_s (lw_s (lw_s lw_0)))) (j765 1 _ (hr_rt.mp h))
                                    · refine bt_if_eq (tgt := 737) ok dL_law_730 (by decide) h (fun hc h => ?_) (fun hc h => ?_)
                                      · refine at_iconst (v := 0) ok dL_law_737 (by decide) ?_
                                        exact at_weak (lw_s (lw_s (lw_s (lw_s lw_0)))) (j738 0 _ (hr_rt.mp h))
                                      · refine at_iconst (v := 1) ok dL_law_733 (by decide) ?_
                                        refine at_goto (tgt := 738) ok dL_law_734 (by decide) ?_
                                        exact at_weak (lw_s (lw_s (lw_s (lw_s lw_0)))) (j738 1 _ (hr_rt.mp h))
                                  · refine at_ite h (fun hc15 h => ?_) (fun hc15 h => ?_)
                                    · refine at_tsw (tgt := 773) ok dL_law_33 (tsw_in hc15 (by decide) rfl (by decide)) ?_
                                      refine at_aloadn ok dL_law_773 rfl ?_
                                      refine at_aloadns ok dL_law_774 rfl ?_
                                      refine at_iloadn ok dL_law_775 rfl ?_
                                      refine at_iconst (v := 1) ok dL_law_776 (by decide) ?_
                                      refine at_iadd ok dL_law_777 ?_
                                      refine at_sld ok lx dL_law_778 h fun v778 h => ?_
                                      refine at_aloadns ok dL_law_779 rfl ?_
                                      refine at_iloadn ok dL_law_780 rfl ?_
                                      refine at_iconst (v := 2) ok dL_law_781 (by decide) ?_
                                      refine at_iadd ok dL_law_782 ?_
                                      refine at_sld ok lx dL_law_783 h fun v783 h => ?_
                                      refine at_aloadns ok dL_law_784 rfl ?_
                                      refine at_iloadn ok dL_law_785 rfl ?_
                                      refine at_iconst (v := 3) ok dL_law_786 (by decide) ?_
                                      refine at_iadd ok dL_law_787 ?_
                                      refine at_sld ok lx dL_law_788 h fun v788 h => ?_
                                      refine at_cVi (As := [.int (v778), .int (v783), .int (v788)]) ok ct_L_law_84 dL_law_789 (by simp [cat_rf, cat_i, cat_l]) (s7_found v0 v778 v783 v788 _) h fun v789 σ h => ?_
                                      refine at_aloadn ok dL_law_792 rfl ?_
                                      refine at_aloadns ok dL_law_793 rfl ?_
                                      refine at_iloadn ok dL_law_794 rfl ?_
                                      refine at_iconst (v := 1) ok dL_law_795 (by decide) ?_
                                      refine at_iadd ok dL_law_796 ?_
                                      refine at_sld ok lx dL_law_797 h fun v797 h => ?_
                                      refine at_aloadns ok dL_law_798 rfl ?_
                                      refine at_iloadn ok dL_law_799 rfl ?_
                                      refine at_iconst (v := 2) ok dL_law_800 (by decide) ?_
                                      refine at_iadd ok dL_law_801 ?_
                                      refine at_sld ok lx dL_law_802 h fun v802 h => ?_
                                      refine at_aloadns ok dL_law_803 rfl ?_
                                      refine at_iloadn ok dL_law_804 rfl ?_
                                      refine at_iconst (v := 3) ok dL_law_805 (by decide) ?_
                                      refine at_iadd ok dL_law_806 ?_
                                      refine at_sld ok lx dL_law_807 h fun v807 h => ?_
                                      refine at_cVi (As := [.int (v797), .int (v802), .int (v807)]) ok ct_L_law_87 dL_law_808 (by simp [cat_rf, cat_i, cat_l]) (s8_found_ v8 v797 v802 v807 _) h fun v808 σ h => ?_
                                      refine bt_icmp_eq (tgt := 1069) ok dL_law_811 (by decide) h (fun hc h => ?_) (fun hc h => ?_)
                                      · refine at_iinc (v := x18 + 7) ok dL_law_1069 rfl rfl (lc_ref rfl) (by decide) ?_
                                        refine at_goto (tgt := 18) ok dL_law_1072 (by decide) ?_
                                        exact at_weak (lw_s (lw_s (lw_s (lw_s lw_0)))) (ih (x18 + 7) _ h)
                                      · refine at_iconst (v := 0) ok dL_law_814 (by decide) ?_
                                        exact at_lret ok lx dL_law_815 (hr_inl h)
                                    · refine at_ite h (fun hc16 h => ?_) (fun hc16 h => ?_)
                                      · refine at_tsw (tgt := 816) ok dL_law_33 (tsw_in hc16 (by decide) rfl (by decide)) ?_
                                        refine at_aloadn ok dL_law_816 rfl ?_
                                        refine at_cVi (As := []) ok ct_L_law_88 dL_law_817 (by simp [cat_rf, cat_i, cat_l]) (s7_words v0  _) h fun v817 σ h => ?_
                                        refine at_aloadn ok dL_law_820 rfl ?_
                                        refine at_cVi (As := []) ok ct_L_law_92 dL_law_821 (by simp [cat_rf, cat_i, cat_l]) (s8_words v8  _) h fun v821 σ h => ?_
                                        refine bt_icmp_eq (tgt := 1069) ok dL_law_824 (by decide) h (fun hc h => ?_) (fun hc h => ?_)
                                        · refine at_iinc (v := x18 + 7) ok dL_law_1069 rfl rfl (lc_ref rfl) (by decide) ?_
                                          refine at_goto (tgt := 18) ok dL_law_1072 (by decide) ?_
                                          exact at_weak (lw_s (lw_s (lw_s (lw_s lw_0)))) (ih (x18 + 7) _ h)
                                        · refine at_iconst (v := 0) ok dL_law_827 (by decide) ?_
                                          exact at_lret ok lx dL_law_828 (hr_inl h)
                                      · refine at_ite h (fun hc17 h => ?_) (fun hc17 h => ?_)
                                        · refine at_tsw (tgt := 829) ok dL_law_33 (tsw_in hc17 (by decide) rfl (by decide)) ?_
                                          refine at_aloadn ok dL_law_829 rfl ?_
                                          refine at_cVi (As := []) ok ct_L_law_93 dL_law_830 (by simp [cat_rf, cat_i, cat_l]) (s7_numbers v0  _) h fun v830 σ h => ?_
                                          refine at_aloadn ok dL_law_833 rfl ?_
                                          refine at_cVi (As := []) ok ct_L_law_96 dL_law_834 (by simp [cat_rf, cat_i, cat_l]) (s8_numbers v8  _) h fun v834 σ h => ?_
                                          refine bt_icmp_eq (tgt := 1069) ok dL_law_837 (by decide) h (fun hc h => ?_) (fun hc h => ?_)
                                          · refine at_iinc (v := x18 + 7) ok dL_law_1069 rfl rfl (lc_ref rfl) (by decide) ?_
                                            refine at_goto (tgt := 18) ok dL_law_1072 (by decide) ?_
                                            exact at_weak (lw_s (lw_s (lw_s (lw_s lw_0)))) (ih (x18 + 7) _ h)
                                          · refine at_iconst (v := 0) ok dL_law_840 (by decide) ?_
                                            exact at_lret ok lx dL_law_841 (hr_inl h)
                                        · refine at_ite h (fun hc18 h => ?_) (fun hc18 h => ?_)
                                          · refine at_tsw (tgt := 842) ok dL_law_33 (tsw_in hc18 (by decide) rfl (by decide)) ?_
                                            refine at_aloadn ok dL_law_842 rfl ?_
                                            refine at_aloadns ok dL_law_843 rfl ?_
                                            refine at_iloadn ok dL_law_844 rfl ?_
                                            refine at_iconst (v := 1) ok dL_law_845 (by decide) ?_
                                            refine at_iadd ok dL_law_846 ?_
                                            refine at_sld ok lx dL_law_847 h fun v847 h => ?_
                                            refine at_aloadns ok dL_law_848 rfl ?_
                                            refine at_iloadn ok dL_law_849 rfl ?_
                                            refine at_iconst (v := 2) ok dL_law_850 (by decide) ?_
                                            refine at_iadd ok dL_law_851 ?_
                                            refine at_sld ok lx dL_law_852 h fun v852 h => ?_
                                            refine at_cVi (As := [.int (v847), .int (v852)]) ok ct_L_law_97 dL_law_853 (by simp [cat_rf, cat_i, cat_l]) (s7_parts v0 v847 v852 _) h fun v853 σ h => ?_
                                            refine at_aloadn ok dL_law_856 rfl ?_
                                            refine at_aloadns ok dL_law_857 rfl ?_
                                            refine at_iloadn ok dL_law_858 rfl ?_
                                            refine at_iconst (v := 1) ok dL_law_859 (by decide) ?_
                                            refine at_iadd ok dL_law_860 ?_
                                            refine at_sld ok lx dL_law_861 h fun v861 h => ?_
                                            refine at_aloadns ok dL_law_862 rfl ?_
                                            refine at_iloadn ok dL_law_863 rfl ?_
                                            refine at_iconst (v := 2) ok dL_law_864 (by decide) ?_
                                            refine at_iadd ok dL_law_865 ?_
                                            refine at_sld ok lx dL_law_866 h fun v866 h => ?_
                                            refine at_cVi (As := [.int (v861), .int (v866)]) ok ct_L_law_100 dL_law_867 (by simp [cat_rf, cat_i, cat_l]) (s8_parts v8 v861 v866 _) h fun v867 σ h => ?_
                                            refine bt_icmp_eq (tgt := 1069) ok dL_law_870 (by decide) h (fun hc h => ?_) (fun hc h => ?_)
                                            · refine at_iinc (v := x18 + 7) ok dL_law_1069 rfl rfl (lc_ref rfl) (by decide) ?_
                                              refine at_goto (tgt := 18) ok dL_law_1072 (by decide) ?_
                                              exact at_weak (lw_s (lw_s (lw_s (lw_s lw_0)))) (ih (x18 + 7) _ h)
                                            · refine at_iconst (v := 0) ok dL_law_873 (by decide) ?_
                                              exact at_lret ok lx dL_law_874 (hr_inl h)
                                          · refine at_ite h (fun hc19 h => ?_) (fun hc19 h => ?_)
                                            · refine at_tsw (tgt := 875) ok dL_law_33 (tsw_in hc19 (by decide) rfl (by decide)) ?_
                                              refine at_aloadn ok dL_law_875 rfl ?_
                                              refine at_aloadns ok dL_law_876 rfl ?_
                                              refine at_iloadn ok dL_law_877 rfl ?_
                                              refine at_iconst (v := 1) ok dL_law_878 (by decide) ?_
                                              refine at_iadd ok dL_law_879 ?_
                                              refine at_sld ok lx dL_law_880 h fun v880 h => ?_
                                              refine at_aloadns ok dL_law_881 rfl ?_
                                              refine at_iloadn ok dL_law_882 rfl ?_
                                              refine at_iconst (v := 2) ok dL_law_883 (by decide) ?_
                                              refine at_iadd ok dL_law_884 ?_
                                              refine at_sld ok lx dL_law_885 h fun v885 h => ?_
                                              refine at_aloadns ok dL_law_886 rfl ?_
                                              refine at_iloadn ok dL_law_887 rfl ?_
                                              refine at_iconst (v := 3) ok dL_law_888 (by decide) ?_
                                              refine at_iadd ok dL_law_889 ?_
                                              refine at_sld ok lx dL_law_890 h fun v890 h => ?_
                                              refine at_aloadns ok dL_law_891 rfl ?_
                                              refine at_iloadn ok dL_law_892 rfl ?_
                                              refine at_iconst (v := 4) ok dL_law_893 (by decide) ?_
                                              refine at_iadd ok dL_law_894 ?_
                                              refine at_sld ok lx dL_law_895 h fun v895 h => ?_
                                              refine at_aloadns ok dL_law_896 rfl ?_
                                              refine at_iloadn ok dL_law_897 rfl ?_
                                              refine at_iconst (v := 5) ok dL_law_898 (by decide) ?_
                                              refine at_iadd ok dL_law_899 ?_
                                              refine at_sld ok lx dL_law_900 h fun v900 h => ?_
                                              refine at_cVi (As := [.int (v880), .int (v885), .int (v890), .int (v895), .int (v900)]) ok ct_L_law_101 dL_law_901 (by simp [cat_rf, cat_i, cat_l]) (s7_trial v0 v880 v885 v890 v895 v900 _) h fun v901 σ h => ?_
                                              refine at_aloadn ok dL_law_904 rfl ?_
                                              refine at_aloadns ok dL_law_905 rfl ?_
                                              refine at_iloadn ok dL_law_906 rfl ?_
                                              refine at_iconst (v := 1) ok dL_law_907 (by decide) ?_
                                              refine at_iadd ok dL_law_908 ?_
                                              refine at_sld ok lx dL_law_909 h fun v909 h => ?_
                                              refine at_aloadns ok dL_law_910 rfl ?_
                                              refine at_iloadn ok dL_law_911 rfl ?_
                                              refine at_iconst (v := 2) ok dL_law_912 (by decide) ?_
                                              refine at_iadd ok dL_law_913 ?_
                                              refine at_sld ok lx dL_law_914 h fun v914 h => ?_
                                              refine at_aloadns ok dL_law_915 rfl ?_
                                              refine at_iloadn ok dL_law_916 rfl ?_
                                              refine at_iconst (v := 3) ok dL_law_917 (by decide) ?_
                                              refine at_iadd ok dL_law_918 ?_
                                              refine at_sld ok lx dL_law_919 h fun v919 h => ?_
                                              refine at_aloadns ok dL_law_920 rfl ?_
                                              refine at_iloadn ok dL_law_921 rfl ?_
                                              refine at_iconst (v := 4) ok dL_law_922 (by decide) ?_
                                              refine at_iadd ok dL_law_923 ?_
                                              refine at_sld ok lx dL_law_924 h fun v924 h => ?_
                                              refine at_aloadns ok dL_law_925 rfl ?_
                                              refine at_iloadn ok dL_law_926 rfl ?_
                                              refine at_iconst (v := 5) ok dL_law_927 (by decide) ?_
                                              refine at_iadd ok dL_law_928 ?_
                                              refine at_sld ok lx dL_law_929 h fun v929 h => ?_
                                              refine at_cVi (As := [.int (v909), .int (v914), .int (v919), .int (v924), .int (v929)]) ok ct_L_law_104 dL_law_930 (by simp [cat_rf, cat_i, cat_l]) (s8_trial v8 v909 v914 v919 v924 v929 _) h fun v930 σ h => ?_
                                              refine bt_icmp_eq (tgt := 1069) ok dL_law_933 (by decide) h (fun hc h => ?_) (fun hc h => ?_)
                                              · refine at_iinc (v := x18 + 7) ok dL_law_1069 rfl rfl (lc_ref rfl) (by decide) ?_
                                                refine at_goto (tgt := 18) ok dL_law_1072 (by decide) ?_
                                                exact at_weak (lw_s (lw_s (lw_s (lw_s lw_0)))) (ih (x18 + 7) _ h)
                                              · refine at_iconst (v := 0) ok dL_law_936 (by decide) ?_
                                                exact at_lret ok lx dL_law_937 (hr_inl h)
                                            · refine at_ite h (fun hc20 h => ?_) (fun hc20 h => ?_)
                                              · refine at_tsw (tgt := 938) ok dL_law_33 (tsw_in hc20 (by decide) rfl (by decide)) ?_
                                                refine at_aloadn ok dL_law_938 rfl ?_
                                                refine at_aloadns ok dL_law_939 rfl ?_
                                                refine at_iloadn ok dL_law_940 rfl ?_
                                                refine at_iconst (v := 1) ok dL_law_941 (by decide) ?_
                                                refine at_iadd ok dL_law_942 ?_
                                                refine at_sld ok lx dL_law_943 h fun v943 h => ?_
                                                refine at_aloadns ok dL_law_944 rfl ?_
                                                refine at_iloadn ok dL_law_945 rfl ?_
                                                refine at_iconst (v := 2) ok dL_law_946 (by decide) ?_
                                                refine at_iadd ok dL_law_947 ?_
                                                refine at_sld ok lx dL_law_948 h fun v948 h => ?_
                                                refine at_aloadns ok dL_law_949 rfl ?_
                                                refine at_iloadn ok dL_law_950 rfl ?_
                                                refine at_iconst (v := 3) ok dL_law_951 (by decide) ?_
                                                refine at_iadd ok dL_law_952 ?_
                                                refine at_sld ok lx dL_law_953 h fun v953 h => ?_
                                                refine at_aloadns ok dL_law_954 rfl ?_
                                                refine at_iloadn ok dL_law_955 rfl ?_
                                                refine at_iconst (v := 4) ok dL_law_956 (by decide) ?_
                                                refine at_iadd ok dL_law_957 ?_
                                                refine at_sld ok lx dL_law_958 h fun v958 h => ?_
                                                refine at_aloadns ok dL_law_959 rfl ?_
                                                refine at_iloadn ok dL_law_960 rfl ?_
                                                refine at_iconst (v := 5) ok dL_law_961 (by decide) ?_
                                                refine at_iadd ok dL_law_962 ?_
                                                refine at_sld ok lx dL_law_963 h fun v963 h => ?_
                                                refine at_aloadns ok dL_law_964 rfl ?_
                                                refine at_iloadn ok dL_law_965 rfl ?_
                                                refine at_bipush (v := 6) ok dL_law_966 (by decide) ?_
                                                refine at_iadd ok dL_law_968 ?_
                                                refine at_sld ok lx dL_law_969 h fun v969 h => ?_
                                                refine at_cVi (As := [.int (v943), .int (v948), .int (v953), .int (v958), .int (v963), .int (v969)]) ok ct_L_law_105 dL_law_970 (by simp [cat_rf, cat_i, cat_l]) (s7_tried v0 v943 v948 v953 v958 v963 v969 _) h fun v970 σ h => ?_
                                                refine at_aloadn ok dL_law_973 rfl ?_
                                                refine at_aloadns ok dL_law_974 rfl ?_
                                                refine at_iloadn ok dL_law_975 rfl ?_
                                                refine at_iconst (v := 1) ok dL_law_976 (by decide) ?_
                                                refine at_iadd ok dL_law_977 ?_
                                                refine at_sld ok lx dL_law_978 h fun v978 h => ?_
                                                refine at_aloadns ok dL_law_979 rfl ?_
                                                refine at_iloadn ok dL_law_980 rfl ?_
                                                refine at_iconst (v := 2) ok dL_law_981 (by decide) ?_
                                                refine at_iadd ok dL_law_982 ?_
                                                refine at_sld ok lx dL_law_983 h fun v983 h => ?_
                                                refine at_aloadns ok dL_law_984 rfl ?_
                                                refine at_iloadn ok dL_law_985 rfl ?_
                                                refine at_iconst (v := 3) ok dL_law_986 (by decide) ?_
                                                refine at_iadd ok dL_law_987 ?_
                                                refine at_sld ok lx dL_law_988 h fun v988 h => ?_
                                                refine at_aloadns ok dL_law_989 rfl ?_
                                                refine at_iloadn ok dL_law_990 rfl ?_
                                                refine at_iconst (v := 4) ok dL_law_991 (by decide) ?_
                                                refine at_iadd ok dL_law_992 ?_
                                                refine at_sld ok lx dL_law_993 h fun v993 h => ?_
                                                refine at_aloadns ok dL_law_994 rfl ?_
                                                refine at_iloadn ok dL_law_995 rfl ?_
                                                refine at_iconst (v := 5) ok dL_law_996 (by decide) ?_
                                                refine at_iadd ok dL_law_997 ?_
                                                refine at_sld ok lx dL_law_998 h fun v998 h => ?_
                                                refine at_aloadns ok dL_law_999 rfl ?_
                                                refine at_iloadn ok dL_law_1000 rfl ?_
                                                refine at_bipush (v := 6) ok dL_law_1001 (by decide) ?_
                                                refine at_iadd ok dL_law_1003 ?_
                                                refine at_sld ok lx dL_law_1004 h fun v1004 h => ?_
                                                refine at_cVi (As := [.int (v978), .int (v983), .int (v988), .int (v993), .int (v998), .int (v1004)]) ok ct_L_law_109 dL_law_1005 (by simp [cat_rf, cat_i, cat_l]) (s8_tried v8 v978 v983 v988 v993 v998 v1004 _) h fun v1005 σ h => ?_
                                                refine bt_icmp_eq (tgt := 1069) ok dL_law_1008 (by decide) h (fun hc h => ?_) (fun hc h => ?_)
                                                · refine at_iinc (v := x18 + 7) ok dL_law_1069 rfl rfl (lc_ref rfl) (by decide) ?_
                                                  refine at_goto (tgt := 18) ok dL_law_1072 (by decide) ?_
                                                  exact at_weak (lw_s (lw_s (lw_s (lw_s lw_0)))) (ih (x18 + 7) _ h)
                                                · refine at_iconst (v := 0) ok dL_law_1011 (by decide) ?_
                                                  exact at_lret ok lx dL_law_1012 (hr_inl h)
                                              · refine at_ite h (fun hc21 h => ?_) (fun hc21 h => ?_)
                                                · refine at_tsw (tgt := 1013) ok dL_law_33 (tsw_in hc21 (by decide) rfl (by decide)) ?_
                                                  refine at_aloadn ok dL_law_1013 rfl ?_
                                                  refine at_aloadns ok dL_law_1014 rfl ?_
                                                  refine at_iloadn ok dL_law_1015 rfl ?_
                                                  refine at_iconst (v := 1) ok dL_law_1016 (by decide) ?_
                                                  refine at_iadd ok dL_law_1017 ?_
                                                  refine at_sld ok lx dL_law_1018 h fun v1018 h => ?_
                                                  refine at_aloadns ok dL_law_1019 rfl ?_
                                                  refine at_iloadn ok dL_law_1020 rfl ?_
                                                  refine at_iconst (v := 2) ok dL_law_1021 (by decide) ?_
                                                  refine at_iadd ok dL_law_1022 ?_
                                                  refine at_sld ok lx dL_law_1023 h fun v1023 h => ?_
                                                  refine at_cVi (As := [.int (v1018), .int (v1023)]) ok ct_L_law_110 dL_law_1024 (by simp [cat_rf, cat_i, cat_l]) (s7_quarrel v0 v1018 v1023 _) h fun v1024 σ h => ?_
                                                  refine at_aloadn ok dL_law_1027 rfl ?_
                                                  refine at_aloadns ok dL_law_1028 rfl ?_
                                                  refine at_iloadn ok dL_law_1029 rfl ?_
                                                  refine at_iconst (v := 1) ok dL_law_1030 (by decide) ?_
                                                  refine at_iadd ok dL_law_1031 ?_
                                                  refine at_sld ok lx dL_law_1032 h fun v1032 h => ?_
                                                  refine at_aloadns ok dL_law_1033 rfl ?_
                                                  refine at_iloadn ok dL_law_1034 rfl ?_
                                                  refine at_iconst (v := 2) ok dL_law_1035 (by decide) ?_
                                                  refine at_iadd ok dL_law_1036 ?_
                                                  refine at_sld ok lx dL_law_1037 h fun v1037 h => ?_
                                                  refine at_cVi (As := [.int (v1032), .int (v1037)]) ok ct_L_law_113 dL_law_1038 (by simp [cat_rf, cat_i, cat_l]) (s8_quarrel v8 v1032 v1037 _) h fun v1038 σ h => ?_
                                                  refine bt_icmp_eq (tgt := 1069) ok dL_law_1041 (by decide) h (fun hc h => ?_) (fun hc h => ?_)
                                                  · refine at_iinc (v := x18 + 7) ok dL_law_1069 rfl rfl (lc_ref rfl) (by decide) ?_
                                                    refine at_goto (tgt := 18) ok dL_law_1072 (by decide) ?_
                                                    exact at_weak (lw_s (lw_s (lw_s (lw_s lw_0)))) (ih (x18 + 7) _ h)
                                                  · refine at_iconst (v := 0) ok dL_law_1044 (by decide) ?_
                                                    exact at_lret ok lx dL_law_1045 (hr_inl h)
                                                · refine at_ite h (fun hc22 h => ?_) (fun hc22 h => ?_)
                                                  · refine at_tsw (tgt := 1046) ok dL_law_33 (tsw_in hc22 (by decide) rfl (by decide)) ?_
                                                    refine at_aloadn ok dL_law_1046 rfl ?_
                                                    refine at_aloadns ok dL_law_1047 rfl ?_
                                                    refine at_iloadn ok dL_law_1048 rfl ?_
                                                    refine at_iconst (v := 1) ok dL_law_1049 (by decide) ?_
                                                    refine at_iadd ok dL_law_1050 ?_
                                                    refine at_sld ok lx dL_law_1051 h fun v1051 h => ?_
                                                    refine at_cVi (As := [.int (v1051)]) ok ct_L_law_114 dL_law_1052 (by simp [cat_rf, cat_i, cat_l]) (s7_state v0 v1051 _) h fun v1052 σ h => ?_
                                                    refine at_aloadn ok dL_law_1055 rfl ?_
                                                    refine at_aloadns ok dL_law_1056 rfl ?_
                                                    refine at_iloadn ok dL_law_1057 rfl ?_
                                                    refine at_iconst (v := 1) ok dL_law_1058 (by decide) ?_
                                                    refine at_iadd ok dL_law_1059 ?_
                                                    refine at_sld ok lx dL_law_1060 h fun v1060 h => ?_
                                                    refine at_cVi (As := [.int (v1060)]) ok ct_L_law_117 dL_law_1061 (by simp [cat_rf, cat_i, cat_l]) (s8_state v8 v1060 _) h fun v1061 σ h => ?_
                                                    refine bt_icmp_eq (tgt := 1069) ok dL_law_1064 (by decide) h (fun hc h => ?_) (fun hc h => ?_)
                                                    · refine at_iinc (v := x18 + 7) ok dL_law_1069 rfl rfl (lc_ref rfl) (by decide) ?_
                                                      refine at_goto (tgt := 18) ok dL_law_1072 (by decide) ?_
                                                      exact at_weak (lw_s (lw_s (lw_s (lw_s lw_0)))) (ih (x18 + 7) _ h)
                                                    · refine at_iconst (v := 0) ok dL_law_1067 (by decide) ?_
                                                      exact at_lret ok lx dL_law_1068 (hr_inl h)
                                                  · refine at_tsw (tgt := 1069) ok dL_law_33 (tsw_out (by have i0 := i32_ne (k := 0) (by decide) hc0; have i1 := i32_ne (k := 1) (by decide) hc1; have i2 := i32_ne (k := 2) (by decide) hc2; have i3 := i32_ne (k := 3) (by decide) hc3; have i4 := i32_ne (k := 4) (by decide) hc4; have i5 := i32_ne (k := 5) (by decide) hc5; have i6 := i32_ne (k := 6) (by decide) hc6; have i7 := i32_ne (k := 7) (by decide) hc7; have i8 := i32_ne (k := 8) (by decide) hc8; have i9 := i32_ne (k := 9) (by decide) hc9; have i10 := i32_ne (k := 10) (by decide) hc10; have i11 := i32_ne (k := 11) (by decide) hc11; have i12 := i32_ne (k := 12) (by decide) hc12; have i13 := i32_ne (k := 13) (by decide) hc13; have i14 := i32_ne (k := 14) (by decide) hc14; have i15 := i32_ne (k := 15) (by decide) hc15; have i16 := i32_ne (k := 16) (by decide) hc16; have i17 := i32_ne (k := 17) (by decide) hc17; have i18 := i32_ne (k := 18) (by decide) hc18; have i19 := i32_ne (k := 19) (by decide) hc19; have i20 := i32_ne (k := 20) (by decide) hc20; have i21 := i32_ne (k := 21) (by decide) hc21; have i22 := i32_ne (k := 22) (by decide) hc22; omega) (by decide)) ?_
                                                    refine at_iinc (v := x18 + 7) ok dL_law_1069 rfl rfl (lc_ref rfl) (by decide) ?_
                                                    refine at_goto (tgt := 18) ok dL_law_1072 (by decide) ?_
                                                    exact at_weak (lw_s (lw_s (lw_s (lw_s lw_0)))) (ih (x18 + 7) _ h)
