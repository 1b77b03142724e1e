/-! ===== the law's cases ===== -/
section MyCases
variable {cy : Nat → ClassId} {D : va_G} {p : Program} {l : Launch} {e : Env} {s : State} {m : MethodId} {below : List Frame} {meth : Method} {c : Code} {Q : State → Prop} {b L : Nat} {xs : Nat → Int32} {adC adR : Nat → Nat} {i : Nat} {σ τ : St} {M : Mo}
set_option maxHeartbeats 4000000 in
set_option maxRecDepth 100000 in
theorem lc_dimension (hc : CX p s m #[Value.ref b] c D cy cL_law 4 RL wsL_law) (hX : va_X b L xs s s.heap) (hbl : b < s.heap.size) (hL : L ≤ 2560) (hi : i + 5 ≤ L) (hC : CI σ M) (hR : RI τ M) (kk : ∀ (M' : Mo) (σ' τ' : St), CI σ' M' → RI τ' M' → WI D (fun q : Nat => s.heap.size ≤ q) p l e room_1 s m #[Value.ref b] below meth c 4 Q 66 84075 (wws TC cy adC 49 σ' ++ wws TR cy adR 17 τ') [some (.ref b), some (.ref (adC 48)), some (.ref (adR 0)), some (.int (nI i))] [] 943) : WI D (fun q : Nat => s.heap.size ≤ q) p l e room_1 s m #[Value.ref b] below meth c 4 Q 66 84075 (wws TC cy adC 49 σ ++ wws TR cy adR 17 τ) [some (.ref b), some (.ref (adC 48)), some (.ref (adR 0)), some (.int (nI i))] [] 156 := by
  obtain ⟨r, M', hs1, hs2⟩ := st_dimension hC.w (xs (i + 1))
  refine i_aload_n hc dL_law_156 rfl ?_
  refine i_rd hc hX hbl hL i 1 (by omega) rfl rfl dL_law_157 dL_law_158 dL_law_159 (by decide) dL_law_160 dL_law_161 ?_
  refine i_callWi (T := TC) (ad := adC) (n := 49) (kr := 48) (ci := 8) (C0 := RX8) (T0 := TX8) (N := 8) (As := [.int (xs (i + 1))]) (post := fun x u => x = r ∧ CI u M') hc (zX8_dimension (Nat.le_refl 49) σ (xs (i + 1))) (hs1 σ _ hC (fun _ h => ⟨rfl, h⟩)) (by decide) rfl rfl rfl (cwV 1 hc.2.2.2.2.1 gL_law_X8_dimension rfl rfl rfl qX8_dimension ⟨(Nat.le_of_ble_eq_true rfl), (Nat.le_of_ble_eq_true rfl)⟩) rfl rfl (Nat.le_of_ble_eq_true rfl) dL_law_162 ⟨(Nat.le_of_ble_eq_true rfl), (Nat.le_of_ble_eq_true rfl)⟩ (fun r8 u8 h8 => ?_)
  obtain ⟨e8, hC'⟩ := h8
  rw [e8]
  refine i_aload_n hc dL_law_165 rfl ?_
  refine i_rd hc hX hbl hL i 1 (by omega) rfl rfl dL_law_166 dL_law_167 dL_law_168 (by decide) dL_law_169 dL_law_170 ?_
  refine i_callWi (T := TR) (ad := adR) (n := 17) (kr := 0) (ci := 9) (C0 := RX9) (T0 := TX9) (N := 25) (As := [.int (xs (i + 1))]) (post := fun x u => x = r ∧ RI u M') hc (zX9_dimension (Nat.le_refl 17) τ (xs (i + 1))) (hs2 τ _ hR (fun _ h => ⟨rfl, h⟩)) (by decide) rfl rfl rfl (cwV 1 hc.2.2.2.2.1 gL_law_X9_dimension rfl rfl rfl qX9_dimension ⟨(Nat.le_of_ble_eq_true rfl), (Nat.le_of_ble_eq_true rfl)⟩) rfl rfl (Nat.le_of_ble_eq_true rfl) dL_law_171 ⟨(Nat.le_of_ble_eq_true rfl), (Nat.le_of_ble_eq_true rfl)⟩ (fun r9 u9 h9 => ?_)
  obtain ⟨e9, hR'⟩ := h9
  rw [e9]
  exact i_icmp_eq (tgt := 943) hc dL_law_174 (by decide) (fun _ => kk M' _ _ hC' hR') (fun q => absurd rfl q)
set_option maxHeartbeats 4000000 in
set_option maxRecDepth 100000 in
theorem lc_level (hc : CX p s m #[Value.ref b] c D cy cL_law 4 RL wsL_law) (hX : va_X b L xs s s.heap) (hbl : b < s.heap.size) (hL : L ≤ 2560) (hi : i + 5 ≤ L) (hC : CI σ M) (hR : RI τ M) (kk : ∀ (M' : Mo) (σ' τ' : St), CI σ' M' → RI τ' M' → WI D (fun q : Nat => s.heap.size ≤ q) p l e room_1 s m #[Value.ref b] below meth c 4 Q 66 84075 (wws TC cy adC 49 σ' ++ wws TR cy adR 17 τ') [some (.ref b), some (.ref (adC 48)), some (.ref (adR 0)), some (.int (nI i))] [] 943) : WI D (fun q : Nat => s.heap.size ≤ q) p l e room_1 s m #[Value.ref b] below meth c 4 Q 66 84075 (wws TC cy adC 49 σ ++ wws TR cy adR 17 τ) [some (.ref b), some (.ref (adC 48)), some (.ref (adR 0)), some (.int (nI i))] [] 179 := by
  obtain ⟨r, M', hs1, hs2⟩ := st_level hC.w (xs (i + 1)) (xs (i + 2))
  refine i_aload_n hc dL_law_179 rfl ?_
  refine i_rd hc hX hbl hL i 1 (by omega) rfl rfl dL_law_180 dL_law_181 dL_law_182 (by decide) dL_law_183 dL_law_184 ?_
  refine i_rd hc hX hbl hL i 2 (by omega) rfl rfl dL_law_185 dL_law_186 dL_law_187 (by decide) dL_law_188 dL_law_189 ?_
  refine i_callWi (T := TC) (ad := adC) (n := 49) (kr := 48) (ci := 8) (C0 := RX8) (T0 := TX8) (N := 8) (As := [.int (xs (i + 1)), .int (xs (i + 2))]) (post := fun x u => x = r ∧ CI u M') hc (zX8_level (Nat.le_refl 49) σ (xs (i + 1)) (xs (i + 2))) (hs1 σ _ hC (fun _ h => ⟨rfl, h⟩)) (by decide) rfl rfl rfl (cwV 2 hc.2.2.2.2.1 gL_law_X8_level rfl rfl rfl qX8_level ⟨(Nat.le_of_ble_eq_true rfl), (Nat.le_of_ble_eq_true rfl)⟩) rfl rfl (Nat.le_of_ble_eq_true rfl) dL_law_190 ⟨(Nat.le_of_ble_eq_true rfl), (Nat.le_of_ble_eq_true rfl)⟩ (fun r8 u8 h8 => ?_)
  obtain ⟨e8, hC'⟩ := h8
  rw [e8]
  refine i_aload_n hc dL_law_193 rfl ?_
  refine i_rd hc hX hbl hL i 1 (by omega) rfl rfl dL_law_194 dL_law_195 dL_law_196 (by decide) dL_law_197 dL_law_198 ?_
  refine i_rd hc hX hbl hL i 2 (by omega) rfl rfl dL_law_199 dL_law_200 dL_law_201 (by decide) dL_law_202 dL_law_203 ?_
  refine i_callWi (T := TR) (ad := adR) (n := 17) (kr := 0) (ci := 9) (C0 := RX9) (T0 := TX9) (N := 25) (As := [.int (xs (i + 1)), .int (xs (i + 2))]) (post := fun x u => x = r ∧ RI u M') hc (zX9_level (Nat.le_refl 17) τ (xs (i + 1)) (xs (i + 2))) (hs2 τ _ hR (fun _ h => ⟨rfl, h⟩)) (by decide) rfl rfl rfl (cwV 2 hc.2.2.2.2.1 gL_law_X9_level rfl rfl rfl qX9_level ⟨(Nat.le_of_ble_eq_true rfl), (Nat.le_of_ble_eq_true rfl)⟩) rfl rfl (Nat.le_of_ble_eq_true rfl) dL_law_204 ⟨(Nat.le_of_ble_eq_true rfl), (Nat.le_of_ble_eq_true rfl)⟩ (fun r9 u9 h9 => ?_)
  obtain ⟨e9, hR'⟩ := h9
  rw [e9]
  exact i_icmp_eq (tgt := 943) hc dL_law_207 (by decide) (fun _ => kk M' _ _ hC' hR') (fun q => absurd rfl q)
set_option maxHeartbeats 4000000 in
set_option maxRecDepth 100000 in
theorem lc_parent (hc : CX p s m #[Value.ref b] c D cy cL_law 4 RL wsL_law) (hX : va_X b L xs s s.heap) (hbl : b < s.heap.size) (hL : L ≤ 2560) (hi : i + 5 ≤ L) (hC : CI σ M) (hR : RI τ M) (kk : ∀ (M' : Mo) (σ' τ' : St), CI σ' M' → RI τ' M' → WI D (fun q : Nat => s.heap.size ≤ q) p l e room_1 s m #[Value.ref b] below meth c 4 Q 66 84075 (wws TC cy adC 49 σ' ++ wws TR cy adR 17 τ') [some (.ref b), some (.ref (adC 48)), some (.ref (adR 0)), some (.int (nI i))] [] 943) : WI D (fun q : Nat => s.heap.size ≤ q) p l e room_1 s m #[Value.ref b] below meth c 4 Q 66 84075 (wws TC cy adC 49 σ ++ wws TR cy adR 17 τ) [some (.ref b), some (.ref (adC 48)), some (.ref (adR 0)), some (.int (nI i))] [] 212 := by
  obtain ⟨r, M', hs1, hs2⟩ := st_parent hC.w (xs (i + 1)) (xs (i + 2)) (xs (i + 3)) (xs (i + 4))
  refine i_aload_n hc dL_law_212 rfl ?_
  refine i_rd hc hX hbl hL i 1 (by omega) rfl rfl dL_law_213 dL_law_214 dL_law_215 (by decide) dL_law_216 dL_law_217 ?_
  refine i_rd hc hX hbl hL i 2 (by omega) rfl rfl dL_law_218 dL_law_219 dL_law_220 (by decide) dL_law_221 dL_law_222 ?_
  refine i_rd hc hX hbl hL i 3 (by omega) rfl rfl dL_law_223 dL_law_224 dL_law_225 (by decide) dL_law_226 dL_law_227 ?_
  refine i_rd hc hX hbl hL i 4 (by omega) rfl rfl dL_law_228 dL_law_229 dL_law_230 (by decide) dL_law_231 dL_law_232 ?_
  refine i_callWi (T := TC) (ad := adC) (n := 49) (kr := 48) (ci := 8) (C0 := RX8) (T0 := TX8) (N := 8) (As := [.int (xs (i + 1)), .int (xs (i + 2)), .int (xs (i + 3)), .int (xs (i + 4))]) (post := fun x u => x = r ∧ CI u M') hc (zX8_parent (Nat.le_refl 49) σ (xs (i + 1)) (xs (i + 2)) (xs (i + 3)) (xs (i + 4))) (hs1 σ _ hC (fun _ h => ⟨rfl, h⟩)) (by decide) rfl rfl rfl (cwV 4 hc.2.2.2.2.1 gL_law_X8_parent rfl rfl rfl qX8_parent ⟨(Nat.le_of_ble_eq_true rfl), (Nat.le_of_ble_eq_true rfl)⟩) rfl rfl (Nat.le_of_ble_eq_true rfl) dL_law_233 ⟨(Nat.le_of_ble_eq_true rfl), (Nat.le_of_ble_eq_true rfl)⟩ (fun r8 u8 h8 => ?_)
  obtain ⟨e8, hC'⟩ := h8
  rw [e8]
  refine i_aload_n hc dL_law_236 rfl ?_
  refine i_rd hc hX hbl hL i 1 (by omega) rfl rfl dL_law_237 dL_law_238 dL_law_239 (by decide) dL_law_240 dL_law_241 ?_
  refine i_rd hc hX hbl hL i 2 (by omega) rfl rfl dL_law_242 dL_law_243 dL_law_244 (by decide) dL_law_245 dL_law_246 ?_
  refine i_rd hc hX hbl hL i 3 (by omega) rfl rfl dL_law_247 dL_law_248 dL_law_249 (by decide) dL_law_250 dL_law_251 ?_
  refine i_rd hc hX hbl hL i 4 (by omega) rfl rfl dL_law_252 dL_law_253 dL_law_254 (by decide) dL_law_255 dL_law_256 ?_
  refine i_callWi (T := TR) (ad := adR) (n := 17) (kr := 0) (ci := 9) (C0 := RX9) (T0 := TX9) (N := 25) (As := [.int (xs (i + 1)), .int (xs (i + 2)), .int (xs (i + 3)), .int (xs (i + 4))]) (post := fun x u => x = r ∧ RI u M') hc (zX9_parent (Nat.le_refl 17) τ (xs (i + 1)) (xs (i + 2)) (xs (i + 3)) (xs (i + 4))) (hs2 τ _ hR (fun _ h => ⟨rfl, h⟩)) (by decide) rfl rfl rfl (cwV 4 hc.2.2.2.2.1 gL_law_X9_parent rfl rfl rfl qX9_parent ⟨(Nat.le_of_ble_eq_true rfl), (Nat.le_of_ble_eq_true rfl)⟩) rfl rfl (Nat.le_of_ble_eq_true rfl) dL_law_257 ⟨(Nat.le_of_ble_eq_true rfl), (Nat.le_of_ble_eq_true rfl)⟩ (fun r9 u9 h9 => ?_)
  obtain ⟨e9, hR'⟩ := h9
  rw [e9]
  exact i_icmp_eq (tgt := 943) hc dL_law_260 (by decide) (fun _ => kk M' _ _ hC' hR') (fun q => absurd rfl q)
set_option maxHeartbeats 4000000 in
set_option maxRecDepth 100000 in
theorem lc_lies (hc : CX p s m #[Value.ref b] c D cy cL_law 4 RL wsL_law) (hX : va_X b L xs s s.heap) (hbl : b < s.heap.size) (hL : L ≤ 2560) (hi : i + 5 ≤ L) (hC : CI σ M) (hR : RI τ M) (kk : ∀ (M' : Mo) (σ' τ' : St), CI σ' M' → RI τ' M' → WI D (fun q : Nat => s.heap.size ≤ q) p l e room_1 s m #[Value.ref b] below meth c 4 Q 66 84075 (wws TC cy adC 49 σ' ++ wws TR cy adR 17 τ') [some (.ref b), some (.ref (adC 48)), some (.ref (adR 0)), some (.int (nI i))] [] 943) : WI D (fun q : Nat => s.heap.size ≤ q) p l e room_1 s m #[Value.ref b] below meth c 4 Q 66 84075 (wws TC cy adC 49 σ ++ wws TR cy adR 17 τ) [some (.ref b), some (.ref (adC 48)), some (.ref (adR 0)), some (.int (nI i))] [] 265 := by
  obtain ⟨r, M', hs1, hs2⟩ := st_lies hC.w (xs (i + 1)) (xs (i + 2)) (xs (i + 3))
  refine i_aload_n hc dL_law_265 rfl ?_
  refine i_rd hc hX hbl hL i 1 (by omega) rfl rfl dL_law_266 dL_law_267 dL_law_268 (by decide) dL_law_269 dL_law_270 ?_
  refine i_rd hc hX hbl hL i 2 (by omega) rfl rfl dL_law_271 dL_law_272 dL_law_273 (by decide) dL_law_274 dL_law_275 ?_
  refine i_rd hc hX hbl hL i 3 (by omega) rfl rfl dL_law_276 dL_law_277 dL_law_278 (by decide) dL_law_279 dL_law_280 ?_
  refine i_callWi (T := TC) (ad := adC) (n := 49) (kr := 48) (ci := 8) (C0 := RX8) (T0 := TX8) (N := 8) (As := [.int (xs (i + 1)), .int (xs (i + 2)), .int (xs (i + 3))]) (post := fun x u => x = r ∧ CI u M') hc (zX8_lies (Nat.le_refl 49) σ (xs (i + 1)) (xs (i + 2)) (xs (i + 3))) (hs1 σ _ hC (fun _ h => ⟨rfl, h⟩)) (by decide) rfl rfl rfl (cwV 3 hc.2.2.2.2.1 gL_law_X8_lies rfl rfl rfl qX8_lies ⟨(Nat.le_of_ble_eq_true rfl), (Nat.le_of_ble_eq_true rfl)⟩) rfl rfl (Nat.le_of_ble_eq_true rfl) dL_law_281 ⟨(Nat.le_of_ble_eq_true rfl), (Nat.le_of_ble_eq_true rfl)⟩ (fun r8 u8 h8 => ?_)
  obtain ⟨e8, hC'⟩ := h8
  rw [e8]
  refine i_aload_n hc dL_law_284 rfl ?_
  refine i_rd hc hX hbl hL i 1 (by omega) rfl rfl dL_law_285 dL_law_286 dL_law_287 (by decide) dL_law_288 dL_law_289 ?_
  refine i_rd hc hX hbl hL i 2 (by omega) rfl rfl dL_law_290 dL_law_291 dL_law_292 (by decide) dL_law_293 dL_law_294 ?_
  refine i_rd hc hX hbl hL i 3 (by omega) rfl rfl dL_law_295 dL_law_296 dL_law_297 (by decide) dL_law_298 dL_law_299 ?_
  refine i_callWi (T := TR) (ad := adR) (n := 17) (kr := 0) (ci := 9) (C0 := RX9) (T0 := TX9) (N := 25) (As := [.int (xs (i + 1)), .int (xs (i + 2)), .int (xs (i + 3))]) (post := fun x u => x = r ∧ RI u M') hc (zX9_lies (Nat.le_refl 17) τ (xs (i + 1)) (xs (i + 2)) (xs (i + 3))) (hs2 τ _ hR (fun _ h => ⟨rfl, h⟩)) (by decide) rfl rfl rfl (cwV 3 hc.2.2.2.2.1 gL_law_X9_lies rfl rfl rfl qX9_lies ⟨(Nat.le_of_ble_eq_true rfl), (Nat.le_of_ble_eq_true rfl)⟩) rfl rfl (Nat.le_of_ble_eq_true rfl) dL_law_300 ⟨(Nat.le_of_ble_eq_true rfl), (Nat.le_of_ble_eq_true rfl)⟩ (fun r9 u9 h9 => ?_)
  obtain ⟨e9, hR'⟩ := h9
  rw [e9]
  exact i_icmp_eq (tgt := 943) hc dL_law_303 (by decide) (fun _ => kk M' _ _ hC' hR') (fun q => absurd rfl q)
set_option maxHeartbeats 4000000 in
set_option maxRecDepth 100000 in
theorem lc_members (hc : CX p s m #[Value.ref b] c D cy cL_law 4 RL wsL_law) (hX : va_X b L xs s s.heap) (hbl : b < s.heap.size) (hL : L ≤ 2560) (hi : i + 5 ≤ L) (hC : CI σ M) (hR : RI τ M) (kk : ∀ (M' : Mo) (σ' τ' : St), CI σ' M' → RI τ' M' → WI D (fun q : Nat => s.heap.size ≤ q) p l e room_1 s m #[Value.ref b] below meth c 4 Q 66 84075 (wws TC cy adC 49 σ' ++ wws TR cy adR 17 τ') [some (.ref b), some (.ref (adC 48)), some (.ref (adR 0)), some (.int (nI i))] [] 943) : WI D (fun q : Nat => s.heap.size ≤ q) p l e room_1 s m #[Value.ref b] below meth c 4 Q 66 84075 (wws TC cy adC 49 σ ++ wws TR cy adR 17 τ) [some (.ref b), some (.ref (adC 48)), some (.ref (adR 0)), some (.int (nI i))] [] 308 := by
  obtain ⟨r, M', hs1, hs2⟩ := st_members hC.w (xs (i + 1)) (xs (i + 2))
  refine i_aload_n hc dL_law_308 rfl ?_
  refine i_rd hc hX hbl hL i 1 (by omega) rfl rfl dL_law_309 dL_law_310 dL_law_311 (by decide) dL_law_312 dL_law_313 ?_
  refine i_rd hc hX hbl hL i 2 (by omega) rfl rfl dL_law_314 dL_law_315 dL_law_316 (by decide) dL_law_317 dL_law_318 ?_
  refine i_callWi (T := TC) (ad := adC) (n := 49) (kr := 48) (ci := 8) (C0 := RX8) (T0 := TX8) (N := 8) (As := [.int (xs (i + 1)), .int (xs (i + 2))]) (post := fun x u => x = r ∧ CI u M') hc (zX8_members (Nat.le_refl 49) σ (xs (i + 1)) (xs (i + 2))) (hs1 σ _ hC (fun _ h => ⟨rfl, h⟩)) (by decide) rfl rfl rfl (cwV 2 hc.2.2.2.2.1 gL_law_X8_members rfl rfl rfl qX8_members ⟨(Nat.le_of_ble_eq_true rfl), (Nat.le_of_ble_eq_true rfl)⟩) rfl rfl (Nat.le_of_ble_eq_true rfl) dL_law_319 ⟨(Nat.le_of_ble_eq_true rfl), (Nat.le_of_ble_eq_true rfl)⟩ (fun r8 u8 h8 => ?_)
  obtain ⟨e8, hC'⟩ := h8
  rw [e8]
  refine i_aload_n hc dL_law_322 rfl ?_
  refine i_rd hc hX hbl hL i 1 (by omega) rfl rfl dL_law_323 dL_law_324 dL_law_325 (by decide) dL_law_326 dL_law_327 ?_
  refine i_rd hc hX hbl hL i 2 (by omega) rfl rfl dL_law_328 dL_law_329 dL_law_330 (by decide) dL_law_331 dL_law_332 ?_
  refine i_callWi (T := TR) (ad := adR) (n := 17) (kr := 0) (ci := 9) (C0 := RX9) (T0 := TX9) (N := 25) (As := [.int (xs (i + 1)), .int (xs (i + 2))]) (post := fun x u => x = r ∧ RI u M') hc (zX9_members (Nat.le_refl 17) τ (xs (i + 1)) (xs (i + 2))) (hs2 τ _ hR (fun _ h => ⟨rfl, h⟩)) (by decide) rfl rfl rfl (cwV 2 hc.2.2.2.2.1 gL_law_X9_members rfl rfl rfl qX9_members ⟨(Nat.le_of_ble_eq_true rfl), (Nat.le_of_ble_eq_true rfl)⟩) rfl rfl (Nat.le_of_ble_eq_true rfl) dL_law_333 ⟨(Nat.le_of_ble_eq_true rfl), (Nat.le_of_ble_eq_true rfl)⟩ (fun r9 u9 h9 => ?_)
  obtain ⟨e9, hR'⟩ := h9
  rw [e9]
  exact i_icmp_eq (tgt := 943) hc dL_law_336 (by decide) (fun _ => kk M' _ _ hC' hR') (fun q => absurd rfl q)
set_option maxHeartbeats 4000000 in
set_option maxRecDepth 100000 in
theorem lc_fact (hc : CX p s m #[Value.ref b] c D cy cL_law 4 RL wsL_law) (hX : va_X b L xs s s.heap) (hbl : b < s.heap.size) (hL : L ≤ 2560) (hi : i + 5 ≤ L) (hC : CI σ M) (hR : RI τ M) (kk : ∀ (M' : Mo) (σ' τ' : St), CI σ' M' → RI τ' M' → WI D (fun q : Nat => s.heap.size ≤ q) p l e room_1 s m #[Value.ref b] below meth c 4 Q 66 84075 (wws TC cy adC 49 σ' ++ wws TR cy adR 17 τ') [some (.ref b), some (.ref (adC 48)), some (.ref (adR 0)), some (.int (nI i))] [] 943) : WI D (fun q : Nat => s.heap.size ≤ q) p l e room_1 s m #[Value.ref b] below meth c 4 Q 66 84075 (wws TC cy adC 49 σ ++ wws TR cy adR 17 τ) [some (.ref b), some (.ref (adC 48)), some (.ref (adR 0)), some (.int (nI i))] [] 341 := by
  obtain ⟨r, M', hs1, hs2⟩ := st_fact hC.w (xs (i + 1))
  refine i_aload_n hc dL_law_341 rfl ?_
  refine i_rd hc hX hbl hL i 1 (by omega) rfl rfl dL_law_342 dL_law_343 dL_law_344 (by decide) dL_law_345 dL_law_346 ?_
  refine i_callWi (T := TC) (ad := adC) (n := 49) (kr := 48) (ci := 8) (C0 := RX8) (T0 := TX8) (N := 8) (As := [.int (xs (i + 1))]) (post := fun x u => x = r ∧ CI u M') hc (zX8_fact (Nat.le_refl 49) σ (xs (i + 1))) (hs1 σ _ hC (fun _ h => ⟨rfl, h⟩)) (by decide) rfl rfl rfl (cwV 1 hc.2.2.2.2.1 gL_law_X8_fact rfl rfl rfl qX8_fact ⟨(Nat.le_of_ble_eq_true rfl), (Nat.le_of_ble_eq_true rfl)⟩) rfl rfl (Nat.le_of_ble_eq_true rfl) dL_law_347 ⟨(Nat.le_of_ble_eq_true rfl), (Nat.le_of_ble_eq_true rfl)⟩ (fun r8 u8 h8 => ?_)
  obtain ⟨e8, hC'⟩ := h8
  rw [e8]
  refine i_aload_n hc dL_law_350 rfl ?_
  refine i_rd hc hX hbl hL i 1 (by omega) rfl rfl dL_law_351 dL_law_352 dL_law_353 (by decide) dL_law_354 dL_law_355 ?_
  refine i_callWi (T := TR) (ad := adR) (n := 17) (kr := 0) (ci := 9) (C0 := RX9) (T0 := TX9) (N := 25) (As := [.int (xs (i + 1))]) (post := fun x u => x = r ∧ RI u M') hc (zX9_fact (Nat.le_refl 17) τ (xs (i + 1))) (hs2 τ _ hR (fun _ h => ⟨rfl, h⟩)) (by decide) rfl rfl rfl (cwV 1 hc.2.2.2.2.1 gL_law_X9_fact rfl rfl rfl qX9_fact ⟨(Nat.le_of_ble_eq_true rfl), (Nat.le_of_ble_eq_true rfl)⟩) rfl rfl (Nat.le_of_ble_eq_true rfl) dL_law_356 ⟨(Nat.le_of_ble_eq_true rfl), (Nat.le_of_ble_eq_true rfl)⟩ (fun r9 u9 h9 => ?_)
  obtain ⟨e9, hR'⟩ := h9
  rw [e9]
  exact i_icmp_eq (tgt := 943) hc dL_law_359 (by decide) (fun _ => kk M' _ _ hC' hR') (fun q => absurd rfl q)
set_option maxHeartbeats 4000000 in
set_option maxRecDepth 100000 in
theorem lc_drop (hc : CX p s m #[Value.ref b] c D cy cL_law 4 RL wsL_law) (hX : va_X b L xs s s.heap) (hbl : b < s.heap.size) (hL : L ≤ 2560) (hi : i + 5 ≤ L) (hC : CI σ M) (hR : RI τ M) (kk : ∀ (M' : Mo) (σ' τ' : St), CI σ' M' → RI τ' M' → WI D (fun q : Nat => s.heap.size ≤ q) p l e room_1 s m #[Value.ref b] below meth c 4 Q 66 84075 (wws TC cy adC 49 σ' ++ wws TR cy adR 17 τ') [some (.ref b), some (.ref (adC 48)), some (.ref (adR 0)), some (.int (nI i))] [] 943) : WI D (fun q : Nat => s.heap.size ≤ q) p l e room_1 s m #[Value.ref b] below meth c 4 Q 66 84075 (wws TC cy adC 49 σ ++ wws TR cy adR 17 τ) [some (.ref b), some (.ref (adC 48)), some (.ref (adR 0)), some (.int (nI i))] [] 364 := by
  obtain ⟨r, M', hs1, hs2⟩ := st_drop hC.w (xs (i + 1))
  refine i_aload_n hc dL_law_364 rfl ?_
  refine i_rd hc hX hbl hL i 1 (by omega) rfl rfl dL_law_365 dL_law_366 dL_law_367 (by decide) dL_law_368 dL_law_369 ?_
  refine i_callWi (T := TC) (ad := adC) (n := 49) (kr := 48) (ci := 8) (C0 := RX8) (T0 := TX8) (N := 8) (As := [.int (xs (i + 1))]) (post := fun x u => x = r ∧ CI u M') hc (zX8_drop (Nat.le_refl 49) σ (xs (i + 1))) (hs1 σ _ hC (fun _ h => ⟨rfl, h⟩)) (by decide) rfl rfl rfl (cwV 1 hc.2.2.2.2.1 gL_law_X8_drop rfl rfl rfl qX8_drop ⟨(Nat.le_of_ble_eq_true rfl), (Nat.le_of_ble_eq_true rfl)⟩) rfl rfl (Nat.le_of_ble_eq_true rfl) dL_law_370 ⟨(Nat.le_of_ble_eq_true rfl), (Nat.le_of_ble_eq_true rfl)⟩ (fun r8 u8 h8 => ?_)
  obtain ⟨e8, hC'⟩ := h8
  rw [e8]
  refine i_aload_n hc dL_law_373 rfl ?_
  refine i_rd hc hX hbl hL i 1 (by omega) rfl rfl dL_law_374 dL_law_375 dL_law_376 (by decide) dL_law_377 dL_law_378 ?_
  refine i_callWi (T := TR) (ad := adR) (n := 17) (kr := 0) (ci := 9) (C0 := RX9) (T0 := TX9) (N := 25) (As := [.int (xs (i + 1))]) (post := fun x u => x = r ∧ RI u M') hc (zX9_drop (Nat.le_refl 17) τ (xs (i + 1))) (hs2 τ _ hR (fun _ h => ⟨rfl, h⟩)) (by decide) rfl rfl rfl (cwV 1 hc.2.2.2.2.1 gL_law_X9_drop rfl rfl rfl qX9_drop ⟨(Nat.le_of_ble_eq_true rfl), (Nat.le_of_ble_eq_true rfl)⟩) rfl rfl (Nat.le_of_ble_eq_true rfl) dL_law_379 ⟨(Nat.le_of_ble_eq_true rfl), (Nat.le_of_ble_eq_true rfl)⟩ (fun r9 u9 h9 => ?_)
  obtain ⟨e9, hR'⟩ := h9
  rw [e9]
  exact i_icmp_eq (tgt := 943) hc dL_law_382 (by decide) (fun _ => kk M' _ _ hC' hR') (fun q => absurd rfl q)
set_option maxHeartbeats 4000000 in
set_option maxRecDepth 100000 in
theorem lc_pick (hc : CX p s m #[Value.ref b] c D cy cL_law 4 RL wsL_law) (hX : va_X b L xs s s.heap) (hbl : b < s.heap.size) (hL : L ≤ 2560) (hi : i + 5 ≤ L) (hC : CI σ M) (hR : RI τ M) (kk : ∀ (M' : Mo) (σ' τ' : St), CI σ' M' → RI τ' M' → WI D (fun q : Nat => s.heap.size ≤ q) p l e room_1 s m #[Value.ref b] below meth c 4 Q 66 84075 (wws TC cy adC 49 σ' ++ wws TR cy adR 17 τ') [some (.ref b), some (.ref (adC 48)), some (.ref (adR 0)), some (.int (nI i))] [] 943) : WI D (fun q : Nat => s.heap.size ≤ q) p l e room_1 s m #[Value.ref b] below meth c 4 Q 66 84075 (wws TC cy adC 49 σ ++ wws TR cy adR 17 τ) [some (.ref b), some (.ref (adC 48)), some (.ref (adR 0)), some (.int (nI i))] [] 387 := by
  obtain ⟨r, M', hs1, hs2⟩ := st_pick hC.w (xs (i + 1)) (xs (i + 2))
  refine i_aload_n hc dL_law_387 rfl ?_
  refine i_rd hc hX hbl hL i 1 (by omega) rfl rfl dL_law_388 dL_law_389 dL_law_390 (by decide) dL_law_391 dL_law_392 ?_
  refine i_rd hc hX hbl hL i 2 (by omega) rfl rfl dL_law_393 dL_law_394 dL_law_395 (by decide) dL_law_396 dL_law_397 ?_
  refine i_callWi (T := TC) (ad := adC) (n := 49) (kr := 48) (ci := 8) (C0 := RX8) (T0 := TX8) (N := 8) (As := [.int (xs (i + 1)), .int (xs (i + 2))]) (post := fun x u => x = r ∧ CI u M') hc (zX8_pick (Nat.le_refl 49) σ (xs (i + 1)) (xs (i + 2))) (hs1 σ _ hC (fun _ h => ⟨rfl, h⟩)) (by decide) rfl rfl rfl (cwV 2 hc.2.2.2.2.1 gL_law_X8_pick rfl rfl rfl qX8_pick ⟨(Nat.le_of_ble_eq_true rfl), (Nat.le_of_ble_eq_true rfl)⟩) rfl rfl (Nat.le_of_ble_eq_true rfl) dL_law_398 ⟨(Nat.le_of_ble_eq_true rfl), (Nat.le_of_ble_eq_true rfl)⟩ (fun r8 u8 h8 => ?_)
  obtain ⟨e8, hC'⟩ := h8
  rw [e8]
  refine i_aload_n hc dL_law_401 rfl ?_
  refine i_rd hc hX hbl hL i 1 (by omega) rfl rfl dL_law_402 dL_law_403 dL_law_404 (by decide) dL_law_405 dL_law_406 ?_
  refine i_rd hc hX hbl hL i 2 (by omega) rfl rfl dL_law_407 dL_law_408 dL_law_409 (by decide) dL_law_410 dL_law_411 ?_
  refine i_callWi (T := TR) (ad := adR) (n := 17) (kr := 0) (ci := 9) (C0 := RX9) (T0 := TX9) (N := 25) (As := [.int (xs (i + 1)), .int (xs (i + 2))]) (post := fun x u => x = r ∧ RI u M') hc (zX9_pick (Nat.le_refl 17) τ (xs (i + 1)) (xs (i + 2))) (hs2 τ _ hR (fun _ h => ⟨rfl, h⟩)) (by decide) rfl rfl rfl (cwV 2 hc.2.2.2.2.1 gL_law_X9_pick rfl rfl rfl qX9_pick ⟨(Nat.le_of_ble_eq_true rfl), (Nat.le_of_ble_eq_true rfl)⟩) rfl rfl (Nat.le_of_ble_eq_true rfl) dL_law_412 ⟨(Nat.le_of_ble_eq_true rfl), (Nat.le_of_ble_eq_true rfl)⟩ (fun r9 u9 h9 => ?_)
  obtain ⟨e9, hR'⟩ := h9
  rw [e9]
  exact i_icmp_eq (tgt := 943) hc dL_law_415 (by decide) (fun _ => kk M' _ _ hC' hR') (fun q => absurd rfl q)
set_option maxHeartbeats 4000000 in
set_option maxRecDepth 100000 in
theorem lc_cuboids (hc : CX p s m #[Value.ref b] c D cy cL_law 4 RL wsL_law) (hX : va_X b L xs s s.heap) (hbl : b < s.heap.size) (hL : L ≤ 2560) (hi : i + 5 ≤ L) (hC : CI σ M) (hR : RI τ M) (kk : ∀ (M' : Mo) (σ' τ' : St), CI σ' M' → RI τ' M' → WI D (fun q : Nat => s.heap.size ≤ q) p l e room_1 s m #[Value.ref b] below meth c 4 Q 66 84075 (wws TC cy adC 49 σ' ++ wws TR cy adR 17 τ') [some (.ref b), some (.ref (adC 48)), some (.ref (adR 0)), some (.int (nI i))] [] 943) : WI D (fun q : Nat => s.heap.size ≤ q) p l e room_1 s m #[Value.ref b] below meth c 4 Q 66 84075 (wws TC cy adC 49 σ ++ wws TR cy adR 17 τ) [some (.ref b), some (.ref (adC 48)), some (.ref (adR 0)), some (.int (nI i))] [] 420 := by
  obtain ⟨r, M', hs1, hs2⟩ := st_cuboids (M := M)
  refine i_aload_n hc dL_law_420 rfl ?_
  refine i_callWi (T := TC) (ad := adC) (n := 49) (kr := 48) (ci := 8) (C0 := RX8) (T0 := TX8) (N := 8) (As := []) (post := fun x u => x = r ∧ CI u M') hc (zX8_cuboids (Nat.le_refl 49) σ) (hs1 σ _ hC (fun _ h => ⟨rfl, h⟩)) (by decide) rfl rfl rfl (cwV 0 hc.2.2.2.2.1 gL_law_X8_cuboids rfl rfl rfl qX8_cuboids ⟨(Nat.le_of_ble_eq_true rfl), (Nat.le_of_ble_eq_true rfl)⟩) rfl rfl (Nat.le_of_ble_eq_true rfl) dL_law_421 ⟨(Nat.le_of_ble_eq_true rfl), (Nat.le_of_ble_eq_true rfl)⟩ (fun r8 u8 h8 => ?_)
  obtain ⟨e8, hC'⟩ := h8
  rw [e8]
  refine i_aload_n hc dL_law_424 rfl ?_
  refine i_callWi (T := TR) (ad := adR) (n := 17) (kr := 0) (ci := 9) (C0 := RX9) (T0 := TX9) (N := 25) (As := []) (post := fun x u => x = r ∧ RI u M') hc (zX9_cuboids (Nat.le_refl 17) τ) (hs2 τ _ hR (fun _ h => ⟨rfl, h⟩)) (by decide) rfl rfl rfl (cwV 0 hc.2.2.2.2.1 gL_law_X9_cuboids rfl rfl rfl qX9_cuboids ⟨(Nat.le_of_ble_eq_true rfl), (Nat.le_of_ble_eq_true rfl)⟩) rfl rfl (Nat.le_of_ble_eq_true rfl) dL_law_425 ⟨(Nat.le_of_ble_eq_true rfl), (Nat.le_of_ble_eq_true rfl)⟩ (fun r9 u9 h9 => ?_)
  obtain ⟨e9, hR'⟩ := h9
  rw [e9]
  exact i_icmp_eq (tgt := 943) hc dL_law_428 (by decide) (fun _ => kk M' _ _ hC' hR') (fun q => absurd rfl q)
set_option maxHeartbeats 4000000 in
set_option maxRecDepth 100000 in
theorem lc_levelOf (hc : CX p s m #[Value.ref b] c D cy cL_law 4 RL wsL_law) (hX : va_X b L xs s s.heap) (hbl : b < s.heap.size) (hL : L ≤ 2560) (hi : i + 5 ≤ L) (hC : CI σ M) (hR : RI τ M) (kk : ∀ (M' : Mo) (σ' τ' : St), CI σ' M' → RI τ' M' → WI D (fun q : Nat => s.heap.size ≤ q) p l e room_1 s m #[Value.ref b] below meth c 4 Q 66 84075 (wws TC cy adC 49 σ' ++ wws TR cy adR 17 τ') [some (.ref b), some (.ref (adC 48)), some (.ref (adR 0)), some (.int (nI i))] [] 943) : WI D (fun q : Nat => s.heap.size ≤ q) p l e room_1 s m #[Value.ref b] below meth c 4 Q 66 84075 (wws TC cy adC 49 σ ++ wws TR cy adR 17 τ) [some (.ref b), some (.ref (adC 48)), some (.ref (adR 0)), some (.int (nI i))] [] 433 := by
  obtain ⟨r, M', hs1, hs2⟩ := st_levelOf hC.w (xs (i + 1)) (xs (i + 2))
  refine i_aload_n hc dL_law_433 rfl ?_
  refine i_rd hc hX hbl hL i 1 (by omega) rfl rfl dL_law_434 dL_law_435 dL_law_436 (by decide) dL_law_437 dL_law_438 ?_
  refine i_rd hc hX hbl hL i 2 (by omega) rfl rfl dL_law_439 dL_law_440 dL_law_441 (by decide) dL_law_442 dL_law_443 ?_
  refine i_callWi (T := TC) (ad := adC) (n := 49) (kr := 48) (ci := 8) (C0 := RX8) (T0 := TX8) (N := 8) (As := [.int (xs (i + 1)), .int (xs (i + 2))]) (post := fun x u => x = r ∧ CI u M') hc (zX8_levelOf (Nat.le_refl 49) σ (xs (i + 1)) (xs (i + 2))) (hs1 σ _ hC (fun _ h => ⟨rfl, h⟩)) (by decide) rfl rfl rfl (cwV 2 hc.2.2.2.2.1 gL_law_X8_levelOf rfl rfl rfl qX8_levelOf ⟨(Nat.le_of_ble_eq_true rfl), (Nat.le_of_ble_eq_true rfl)⟩) rfl rfl (Nat.le_of_ble_eq_true rfl) dL_law_444 ⟨(Nat.le_of_ble_eq_true rfl), (Nat.le_of_ble_eq_true rfl)⟩ (fun r8 u8 h8 => ?_)
  obtain ⟨e8, hC'⟩ := h8
  rw [e8]
  refine i_aload_n hc dL_law_447 rfl ?_
  refine i_rd hc hX hbl hL i 1 (by omega) rfl rfl dL_law_448 dL_law_449 dL_law_450 (by decide) dL_law_451 dL_law_452 ?_
  refine i_rd hc hX hbl hL i 2 (by omega) rfl rfl dL_law_453 dL_law_454 dL_law_455 (by decide) dL_law_456 dL_law_457 ?_
  refine i_callWi (T := TR) (ad := adR) (n := 17) (kr := 0) (ci := 9) (C0 := RX9) (T0 := TX9) (N := 25) (As := [.int (xs (i + 1)), .int (xs (i + 2))]) (post := fun x u => x = r ∧ RI u M') hc (zX9_levelOf (Nat.le_refl 17) τ (xs (i + 1)) (xs (i + 2))) (hs2 τ _ hR (fun _ h => ⟨rfl, h⟩)) (by decide) rfl rfl rfl (cwV 2 hc.2.2.2.2.1 gL_law_X9_levelOf rfl rfl rfl qX9_levelOf ⟨(Nat.le_of_ble_eq_true rfl), (Nat.le_of_ble_eq_true rfl)⟩) rfl rfl (Nat.le_of_ble_eq_true rfl) dL_law_458 ⟨(Nat.le_of_ble_eq_true rfl), (Nat.le_of_ble_eq_true rfl)⟩ (fun r9 u9 h9 => ?_)
  obtain ⟨e9, hR'⟩ := h9
  rw [e9]
  exact i_icmp_eq (tgt := 943) hc dL_law_461 (by decide) (fun _ => kk M' _ _ hC' hR') (fun q => absurd rfl q)
set_option maxHeartbeats 4000000 in
set_option maxRecDepth 100000 in
theorem lc_size (hc : CX p s m #[Value.ref b] c D cy cL_law 4 RL wsL_law) (hX : va_X b L xs s s.heap) (hbl : b < s.heap.size) (hL : L ≤ 2560) (hi : i + 5 ≤ L) (hC : CI σ M) (hR : RI τ M) (kk : ∀ (M' : Mo) (σ' τ' : St), CI σ' M' → RI τ' M' → WI D (fun q : Nat => s.heap.size ≤ q) p l e room_1 s m #[Value.ref b] below meth c 4 Q 66 84075 (wws TC cy adC 49 σ' ++ wws TR cy adR 17 τ') [some (.ref b), some (.ref (adC 48)), some (.ref (adR 0)), some (.int (nI i))] [] 943) : WI D (fun q : Nat => s.heap.size ≤ q) p l e room_1 s m #[Value.ref b] below meth c 4 Q 66 84075 (wws TC cy adC 49 σ ++ wws TR cy adR 17 τ) [some (.ref b), some (.ref (adC 48)), some (.ref (adR 0)), some (.int (nI i))] [] 466 := by
  obtain ⟨r, M', hs1, hs2⟩ := st_size hC.w (xs (i + 1))
  refine i_aload_n hc dL_law_466 rfl ?_
  refine i_rd hc hX hbl hL i 1 (by omega) rfl rfl dL_law_467 dL_law_468 dL_law_469 (by decide) dL_law_470 dL_law_471 ?_
  refine i_callWi (T := TC) (ad := adC) (n := 49) (kr := 48) (ci := 8) (C0 := RX8) (T0 := TX8) (N := 8) (As := [.int (xs (i + 1))]) (post := fun x u => x = r ∧ CI u M') hc (zX8_size (Nat.le_refl 49) σ (xs (i + 1))) (hs1 σ _ hC (fun _ h => ⟨rfl, h⟩)) (by decide) rfl rfl rfl (cwV 1 hc.2.2.2.2.1 gL_law_X8_size rfl rfl rfl qX8_size ⟨(Nat.le_of_ble_eq_true rfl), (Nat.le_of_ble_eq_true rfl)⟩) rfl rfl (Nat.le_of_ble_eq_true rfl) dL_law_472 ⟨(Nat.le_of_ble_eq_true rfl), (Nat.le_of_ble_eq_true rfl)⟩ (fun r8 u8 h8 => ?_)
  obtain ⟨e8, hC'⟩ := h8
  rw [e8]
  refine i_aload_n hc dL_law_475 rfl ?_
  refine i_rd hc hX hbl hL i 1 (by omega) rfl rfl dL_law_476 dL_law_477 dL_law_478 (by decide) dL_law_479 dL_law_480 ?_
  refine i_callWi (T := TR) (ad := adR) (n := 17) (kr := 0) (ci := 9) (C0 := RX9) (T0 := TX9) (N := 25) (As := [.int (xs (i + 1))]) (post := fun x u => x = r ∧ RI u M') hc (zX9_size (Nat.le_refl 17) τ (xs (i + 1))) (hs2 τ _ hR (fun _ h => ⟨rfl, h⟩)) (by decide) rfl rfl rfl (cwV 1 hc.2.2.2.2.1 gL_law_X9_size rfl rfl rfl qX9_size ⟨(Nat.le_of_ble_eq_true rfl), (Nat.le_of_ble_eq_true rfl)⟩) rfl rfl (Nat.le_of_ble_eq_true rfl) dL_law_481 ⟨(Nat.le_of_ble_eq_true rfl), (Nat.le_of_ble_eq_true rfl)⟩ (fun r9 u9 h9 => ?_)
  obtain ⟨e9, hR'⟩ := h9
  rw [e9]
  exact i_icmp_eq (tgt := 943) hc dL_law_484 (by decide) (fun _ => kk M' _ _ hC' hR') (fun q => absurd rfl q)
set_option maxHeartbeats 4000000 in
set_option maxRecDepth 100000 in
theorem lc_serves (hc : CX p s m #[Value.ref b] c D cy cL_law 4 RL wsL_law) (hX : va_X b L xs s s.heap) (hbl : b < s.heap.size) (hL : L ≤ 2560) (hi : i + 5 ≤ L) (hC : CI σ M) (hR : RI τ M) (kk : ∀ (M' : Mo) (σ' τ' : St), CI σ' M' → RI τ' M' → WI D (fun q : Nat => s.heap.size ≤ q) p l e room_1 s m #[Value.ref b] below meth c 4 Q 66 84075 (wws TC cy adC 49 σ' ++ wws TR cy adR 17 τ') [some (.ref b), some (.ref (adC 48)), some (.ref (adR 0)), some (.int (nI i))] [] 943) : WI D (fun q : Nat => s.heap.size ≤ q) p l e room_1 s m #[Value.ref b] below meth c 4 Q 66 84075 (wws TC cy adC 49 σ ++ wws TR cy adR 17 τ) [some (.ref b), some (.ref (adC 48)), some (.ref (adR 0)), some (.int (nI i))] [] 489 := by
  obtain ⟨r, M', hs1, hs2⟩ := st_serves hC.w (xs (i + 1)) (xs (i + 2))
  refine i_aload_n hc dL_law_489 rfl ?_
  refine i_rd hc hX hbl hL i 1 (by omega) rfl rfl dL_law_490 dL_law_491 dL_law_492 (by decide) dL_law_493 dL_law_494 ?_
  refine i_rd hc hX hbl hL i 2 (by omega) rfl rfl dL_law_495 dL_law_496 dL_law_497 (by decide) dL_law_498 dL_law_499 ?_
  refine i_callWi (T := TC) (ad := adC) (n := 49) (kr := 48) (ci := 8) (C0 := RX8) (T0 := TX8) (N := 8) (As := [.int (xs (i + 1)), .int (xs (i + 2))]) (post := fun x u => x = r ∧ CI u M') hc (zX8_serves (Nat.le_refl 49) σ (xs (i + 1)) (xs (i + 2))) (hs1 σ _ hC (fun _ h => ⟨rfl, h⟩)) (by decide) rfl rfl rfl (cwV 2 hc.2.2.2.2.1 gL_law_X8_serves rfl rfl rfl qX8_serves ⟨(Nat.le_of_ble_eq_true rfl), (Nat.le_of_ble_eq_true rfl)⟩) rfl rfl (Nat.le_of_ble_eq_true rfl) dL_law_500 ⟨(Nat.le_of_ble_eq_true rfl), (Nat.le_of_ble_eq_true rfl)⟩ (fun r8 u8 h8 => ?_)
  obtain ⟨e8, hC'⟩ := h8
  rw [e8]
  refine i_aload_n hc dL_law_503 rfl ?_
  refine i_rd hc hX hbl hL i 1 (by omega) rfl rfl dL_law_504 dL_law_505 dL_law_506 (by decide) dL_law_507 dL_law_508 ?_
  refine i_rd hc hX hbl hL i 2 (by omega) rfl rfl dL_law_509 dL_law_510 dL_law_511 (by decide) dL_law_512 dL_law_513 ?_
  refine i_callWi (T := TR) (ad := adR) (n := 17) (kr := 0) (ci := 9) (C0 := RX9) (T0 := TX9) (N := 25) (As := [.int (xs (i + 1)), .int (xs (i + 2))]) (post := fun x u => x = r ∧ RI u M') hc (zX9_serves (Nat.le_refl 17) τ (xs (i + 1)) (xs (i + 2))) (hs2 τ _ hR (fun _ h => ⟨rfl, h⟩)) (by decide) rfl rfl rfl (cwV 2 hc.2.2.2.2.1 gL_law_X9_serves rfl rfl rfl qX9_serves ⟨(Nat.le_of_ble_eq_true rfl), (Nat.le_of_ble_eq_true rfl)⟩) rfl rfl (Nat.le_of_ble_eq_true rfl) dL_law_514 ⟨(Nat.le_of_ble_eq_true rfl), (Nat.le_of_ble_eq_true rfl)⟩ (fun r9 u9 h9 => ?_)
  obtain ⟨e9, hR'⟩ := h9
  rw [e9]
  exact i_icmp_eq (tgt := 943) hc dL_law_517 (by decide) (fun _ => kk M' _ _ hC' hR') (fun q => absurd rfl q)
set_option maxHeartbeats 4000000 in
set_option maxRecDepth 100000 in
theorem lc_keep (hc : CX p s m #[Value.ref b] c D cy cL_law 4 RL wsL_law) (hX : va_X b L xs s s.heap) (hbl : b < s.heap.size) (hL : L ≤ 2560) (hi : i + 5 ≤ L) (hC : CI σ M) (hR : RI τ M) (kk : ∀ (M' : Mo) (σ' τ' : St), CI σ' M' → RI τ' M' → WI D (fun q : Nat => s.heap.size ≤ q) p l e room_1 s m #[Value.ref b] below meth c 4 Q 66 84075 (wws TC cy adC 49 σ' ++ wws TR cy adR 17 τ') [some (.ref b), some (.ref (adC 48)), some (.ref (adR 0)), some (.int (nI i))] [] 943) : WI D (fun q : Nat => s.heap.size ≤ q) p l e room_1 s m #[Value.ref b] below meth c 4 Q 66 84075 (wws TC cy adC 49 σ ++ wws TR cy adR 17 τ) [some (.ref b), some (.ref (adC 48)), some (.ref (adR 0)), some (.int (nI i))] [] 522 := by
  by_cases hz : xs (i + 2) = 0
  · obtain ⟨r, M', hs1, hs2⟩ := st_keep hC.w (xs (i + 1)) false
    refine i_aload_n hc dL_law_522 rfl ?_
    refine i_rd hc hX hbl hL i 1 (by omega) rfl rfl dL_law_523 dL_law_524 dL_law_525 (by decide) dL_law_526 dL_law_527 ?_
    refine i_rd hc hX hbl hL i 2 (by omega) rfl rfl dL_law_528 dL_law_529 dL_law_530 (by decide) dL_law_531 dL_law_532 ?_
    refine i_if_eq (tgt := 540) hc dL_law_533 (by decide) (fun _ => ?_) (fun q => absurd hz q)
    refine i_iconst (v := 0) hc dL_law_540 (by decide) ?_
    refine i_callWi (T := TC) (ad := adC) (n := 49) (kr := 48) (ci := 8) (C0 := RX8) (T0 := TX8) (N := 8) (As := [.int (xs (i + 1)), .int (b2i false)]) (post := fun x u => x = r ∧ CI u M') hc (zX8_keep (Nat.le_refl 49) σ (xs (i + 1)) (b2i false)) (hs1 σ _ hC (fun _ h => ⟨rfl, h⟩)) (by decide) rfl rfl rfl (cwV 2 hc.2.2.2.2.1 gL_law_X8_keep rfl rfl rfl qX8_keep ⟨(Nat.le_of_ble_eq_true rfl), (Nat.le_of_ble_eq_true rfl)⟩) rfl rfl (Nat.le_of_ble_eq_true rfl) dL_law_541 ⟨(Nat.le_of_ble_eq_true rfl), (Nat.le_of_ble_eq_true rfl)⟩ (fun r8 u8 h8 => ?_)
    obtain ⟨e8, hC'⟩ := h8
    rw [e8]
    refine i_aload_n hc dL_law_544 rfl ?_
    refine i_rd hc hX hbl hL i 1 (by omega) rfl rfl dL_law_545 dL_law_546 dL_law_547 (by decide) dL_law_548 dL_law_549 ?_
    refine i_rd hc hX hbl hL i 2 (by omega) rfl rfl dL_law_550 dL_law_551 dL_law_552 (by decide) dL_law_553 dL_law_554 ?_
    refine i_if_eq (tgt := 562) hc dL_law_555 (by decide) (fun _ => ?_) (fun q => absurd hz q)
    refine i_iconst (v := 0) hc dL_law_562 (by decide) ?_
    refine i_callWi (T := TR) (ad := adR) (n := 17) (kr := 0) (ci := 9) (C0 := RX9) (T0 := TX9) (N := 25) (As := [.int (xs (i + 1)), .int (b2i false)]) (post := fun x u => x = r ∧ RI u M') hc (zX9_keep (Nat.le_refl 17) τ (xs (i + 1)) (b2i false)) (hs2 τ _ hR (fun _ h => ⟨rfl, h⟩)) (by decide) rfl rfl rfl (cwV 2 hc.2.2.2.2.1 gL_law_X9_keep rfl rfl rfl qX9_keep ⟨(Nat.le_of_ble_eq_true rfl), (Nat.le_of_ble_eq_true rfl)⟩) rfl rfl (Nat.le_of_ble_eq_true rfl) dL_law_563 ⟨(Nat.le_of_ble_eq_true rfl), (Nat.le_of_ble_eq_true rfl)⟩ (fun r9 u9 h9 => ?_)
    obtain ⟨e9, hR'⟩ := h9
    rw [e9]
    exact i_icmp_eq (tgt := 943) hc dL_law_566 (by decide) (fun _ => kk M' _ _ hC' hR') (fun q => absurd rfl q)
  · obtain ⟨r, M', hs1, hs2⟩ := st_keep hC.w (xs (i + 1)) true
    refine i_aload_n hc dL_law_522 rfl ?_
    refine i_rd hc hX hbl hL i 1 (by omega) rfl rfl dL_law_523 dL_law_524 dL_law_525 (by decide) dL_law_526 dL_law_527 ?_
    refine i_rd hc hX hbl hL i 2 (by omega) rfl rfl dL_law_528 dL_law_529 dL_law_530 (by decide) dL_law_531 dL_law_532 ?_
    refine i_if_eq (tgt := 540) hc dL_law_533 (by decide) (fun q => absurd q hz) (fun _ => ?_)
    refine i_iconst (v := 1) hc dL_law_536 (by decide) ?_
    refine i_goto (tgt := 541) hc dL_law_537 (by decide) ?_
    refine i_callWi (T := TC) (ad := adC) (n := 49) (kr := 48) (ci := 8) (C0 := RX8) (T0 := TX8) (N := 8) (As := [.int (xs (i + 1)), .int (b2i true)]) (post := fun x u => x = r ∧ CI u M') hc (zX8_keep (Nat.le_refl 49) σ (xs (i + 1)) (b2i true)) (hs1 σ _ hC (fun _ h => ⟨rfl, h⟩)) (by decide) rfl rfl rfl (cwV 2 hc.2.2.2.2.1 gL_law_X8_keep rfl rfl rfl qX8_keep ⟨(Nat.le_of_ble_eq_true rfl), (Nat.le_of_ble_eq_true rfl)⟩) rfl rfl (Nat.le_of_ble_eq_true rfl) dL_law_541 ⟨(Nat.le_of_ble_eq_true rfl), (Nat.le_of_ble_eq_true rfl)⟩ (fun r8 u8 h8 => ?_)
    obtain ⟨e8, hC'⟩ := h8
    rw [e8]
    refine i_aload_n hc dL_law_544 rfl ?_
    refine i_rd hc hX hbl hL i 1 (by omega) rfl rfl dL_law_545 dL_law_546 dL_law_547 (by decide) dL_law_548 dL_law_549 ?_
    refine i_rd hc hX hbl hL i 2 (by omega) rfl rfl dL_law_550 dL_law_551 dL_law_552 (by decide) dL_law_553 dL_law_554 ?_
    refine i_if_eq (tgt := 562) hc dL_law_555 (by decide) (fun q => absurd q hz) (fun _ => ?_)
    refine i_iconst (v := 1) hc dL_law_558 (by decide) ?_
    refine i_goto (tgt := 563) hc dL_law_559 (by decide) ?_
    refine i_callWi (T := TR) (ad := adR) (n := 17) (kr := 0) (ci := 9) (C0 := RX9) (T0 := TX9) (N := 25) (As := [.int (xs (i + 1)), .int (b2i true)]) (post := fun x u => x = r ∧ RI u M') hc (zX9_keep (Nat.le_refl 17) τ (xs (i + 1)) (b2i true)) (hs2 τ _ hR (fun _ h => ⟨rfl, h⟩)) (by decide) rfl rfl rfl (cwV 2 hc.2.2.2.2.1 gL_law_X9_keep rfl rfl rfl qX9_keep ⟨(Nat.le_of_ble_eq_true rfl), (Nat.le_of_ble_eq_true rfl)⟩) rfl rfl (Nat.le_of_ble_eq_true rfl) dL_law_563 ⟨(Nat.le_of_ble_eq_true rfl), (Nat.le_of_ble_eq_true rfl)⟩ (fun r9 u9 h9 => ?_)
    obtain ⟨e9, hR'⟩ := h9
    rw [e9]
    exact i_icmp_eq (tgt := 943) hc dL_law_566 (by decide) (fun _ => kk M' _ _ hC' hR') (fun q => absurd rfl q)
set_option maxHeartbeats 4000000 in
set_option maxRecDepth 100000 in
theorem lc_kept (hc : CX p s m #[Value.ref b] c D cy cL_law 4 RL wsL_law) (hX : va_X b L xs s s.heap) (hbl : b < s.heap.size) (hL : L ≤ 2560) (hi : i + 5 ≤ L) (hC : CI σ M) (hR : RI τ M) (kk : ∀ (M' : Mo) (σ' τ' : St), CI σ' M' → RI τ' M' → WI D (fun q : Nat => s.heap.size ≤ q) p l e room_1 s m #[Value.ref b] below meth c 4 Q 66 84075 (wws TC cy adC 49 σ' ++ wws TR cy adR 17 τ') [some (.ref b), some (.ref (adC 48)), some (.ref (adR 0)), some (.int (nI i))] [] 943) : WI D (fun q : Nat => s.heap.size ≤ q) p l e room_1 s m #[Value.ref b] below meth c 4 Q 66 84075 (wws TC cy adC 49 σ ++ wws TR cy adR 17 τ) [some (.ref b), some (.ref (adC 48)), some (.ref (adR 0)), some (.int (nI i))] [] 571 := by
  obtain ⟨r, M', hs1, hs2⟩ := st_kept hC.w (xs (i + 1))
  refine i_aload_n hc dL_law_571 rfl ?_
  refine i_rd hc hX hbl hL i 1 (by omega) rfl rfl dL_law_572 dL_law_573 dL_law_574 (by decide) dL_law_575 dL_law_576 ?_
  refine i_callWi (T := TC) (ad := adC) (n := 49) (kr := 48) (ci := 8) (C0 := RX8) (T0 := TX8) (N := 8) (As := [.int (xs (i + 1))]) (post := fun x u => x = r ∧ CI u M') hc (zX8_kept (Nat.le_refl 49) σ (xs (i + 1))) (hs1 σ _ hC (fun _ h => ⟨rfl, h⟩)) (by decide) rfl rfl rfl (cwV 1 hc.2.2.2.2.1 gL_law_X8_kept rfl rfl rfl qX8_kept ⟨(Nat.le_of_ble_eq_true rfl), (Nat.le_of_ble_eq_true rfl)⟩) rfl rfl (Nat.le_of_ble_eq_true rfl) dL_law_577 ⟨(Nat.le_of_ble_eq_true rfl), (Nat.le_of_ble_eq_true rfl)⟩ (fun r8 u8 h8 => ?_)
  obtain ⟨e8, hC'⟩ := h8
  rw [e8]
  refine i_aload_n hc dL_law_580 rfl ?_
  refine i_rd hc hX hbl hL i 1 (by omega) rfl rfl dL_law_581 dL_law_582 dL_law_583 (by decide) dL_law_584 dL_law_585 ?_
  refine i_callWi (T := TR) (ad := adR) (n := 17) (kr := 0) (ci := 9) (C0 := RX9) (T0 := TX9) (N := 25) (As := [.int (xs (i + 1))]) (post := fun x u => x = r ∧ RI u M') hc (zX9_kept (Nat.le_refl 17) τ (xs (i + 1))) (hs2 τ _ hR (fun _ h => ⟨rfl, h⟩)) (by decide) rfl rfl rfl (cwV 1 hc.2.2.2.2.1 gL_law_X9_kept rfl rfl rfl qX9_kept ⟨(Nat.le_of_ble_eq_true rfl), (Nat.le_of_ble_eq_true rfl)⟩) rfl rfl (Nat.le_of_ble_eq_true rfl) dL_law_586 ⟨(Nat.le_of_ble_eq_true rfl), (Nat.le_of_ble_eq_true rfl)⟩ (fun r9 u9 h9 => ?_)
  obtain ⟨e9, hR'⟩ := h9
  rw [e9]
  exact i_icmp_eq (tgt := 943) hc dL_law_589 (by decide) (fun _ => kk M' _ _ hC' hR') (fun q => absurd rfl q)
set_option maxHeartbeats 4000000 in
set_option maxRecDepth 100000 in
theorem lc_cost (hc : CX p s m #[Value.ref b] c D cy cL_law 4 RL wsL_law) (hX : va_X b L xs s s.heap) (hbl : b < s.heap.size) (hL : L ≤ 2560) (hi : i + 5 ≤ L) (hC : CI σ M) (hR : RI τ M) (kk : ∀ (M' : Mo) (σ' τ' : St), CI σ' M' → RI τ' M' → WI D (fun q : Nat => s.heap.size ≤ q) p l e room_1 s m #[Value.ref b] below meth c 4 Q 66 84075 (wws TC cy adC 49 σ' ++ wws TR cy adR 17 τ') [some (.ref b), some (.ref (adC 48)), some (.ref (adR 0)), some (.int (nI i))] [] 943) : WI D (fun q : Nat => s.heap.size ≤ q) p l e room_1 s m #[Value.ref b] below meth c 4 Q 66 84075 (wws TC cy adC 49 σ ++ wws TR cy adR 17 τ) [some (.ref b), some (.ref (adC 48)), some (.ref (adR 0)), some (.int (nI i))] [] 594 := by
  obtain ⟨r, M', hs1, hs2⟩ := st_cost hC.w (xs (i + 1))
  refine i_aload_n hc dL_law_594 rfl ?_
  refine i_rd hc hX hbl hL i 1 (by omega) rfl rfl dL_law_595 dL_law_596 dL_law_597 (by decide) dL_law_598 dL_law_599 ?_
  refine i_callWi (T := TC) (ad := adC) (n := 49) (kr := 48) (ci := 8) (C0 := RX8) (T0 := TX8) (N := 8) (As := [.int (xs (i + 1))]) (post := fun x u => x = r ∧ CI u M') hc (zX8_cost (Nat.le_refl 49) σ (xs (i + 1))) (hs1 σ _ hC (fun _ h => ⟨rfl, h⟩)) (by decide) rfl rfl rfl (cwV 1 hc.2.2.2.2.1 gL_law_X8_cost rfl rfl rfl qX8_cost ⟨(Nat.le_of_ble_eq_true rfl), (Nat.le_of_ble_eq_true rfl)⟩) rfl rfl (Nat.le_of_ble_eq_true rfl) dL_law_600 ⟨(Nat.le_of_ble_eq_true rfl), (Nat.le_of_ble_eq_true rfl)⟩ (fun r8 u8 h8 => ?_)
  obtain ⟨e8, hC'⟩ := h8
  rw [e8]
  refine i_aload_n hc dL_law_603 rfl ?_
  refine i_rd hc hX hbl hL i 1 (by omega) rfl rfl dL_law_604 dL_law_605 dL_law_606 (by decide) dL_law_607 dL_law_608 ?_
  refine i_callWi (T := TR) (ad := adR) (n := 17) (kr := 0) (ci := 9) (C0 := RX9) (T0 := TX9) (N := 25) (As := [.int (xs (i + 1))]) (post := fun x u => x = r ∧ RI u M') hc (zX9_cost (Nat.le_refl 17) τ (xs (i + 1))) (hs2 τ _ hR (fun _ h => ⟨rfl, h⟩)) (by decide) rfl rfl rfl (cwV 1 hc.2.2.2.2.1 gL_law_X9_cost rfl rfl rfl qX9_cost ⟨(Nat.le_of_ble_eq_true rfl), (Nat.le_of_ble_eq_true rfl)⟩) rfl rfl (Nat.le_of_ble_eq_true rfl) dL_law_609 ⟨(Nat.le_of_ble_eq_true rfl), (Nat.le_of_ble_eq_true rfl)⟩ (fun r9 u9 h9 => ?_)
  obtain ⟨e9, hR'⟩ := h9
  rw [e9]
  exact i_icmp_eq (tgt := 943) hc dL_law_612 (by decide) (fun _ => kk M' _ _ hC' hR') (fun q => absurd rfl q)
set_option maxHeartbeats 4000000 in
set_option maxRecDepth 100000 in
theorem lc_server (hc : CX p s m #[Value.ref b] c D cy cL_law 4 RL wsL_law) (hX : va_X b L xs s s.heap) (hbl : b < s.heap.size) (hL : L ≤ 2560) (hi : i + 5 ≤ L) (hC : CI σ M) (hR : RI τ M) (kk : ∀ (M' : Mo) (σ' τ' : St), CI σ' M' → RI τ' M' → WI D (fun q : Nat => s.heap.size ≤ q) p l e room_1 s m #[Value.ref b] below meth c 4 Q 66 84075 (wws TC cy adC 49 σ' ++ wws TR cy adR 17 τ') [some (.ref b), some (.ref (adC 48)), some (.ref (adR 0)), some (.int (nI i))] [] 943) : WI D (fun q : Nat => s.heap.size ≤ q) p l e room_1 s m #[Value.ref b] below meth c 4 Q 66 84075 (wws TC cy adC 49 σ ++ wws TR cy adR 17 τ) [some (.ref b), some (.ref (adC 48)), some (.ref (adR 0)), some (.int (nI i))] [] 617 := by
  obtain ⟨r, M', hs1, hs2⟩ := st_server hC.w (xs (i + 1))
  refine i_aload_n hc dL_law_617 rfl ?_
  refine i_rd hc hX hbl hL i 1 (by omega) rfl rfl dL_law_618 dL_law_619 dL_law_620 (by decide) dL_law_621 dL_law_622 ?_
  refine i_callWi (T := TC) (ad := adC) (n := 49) (kr := 48) (ci := 8) (C0 := RX8) (T0 := TX8) (N := 8) (As := [.int (xs (i + 1))]) (post := fun x u => x = r ∧ CI u M') hc (zX8_server (Nat.le_refl 49) σ (xs (i + 1))) (hs1 σ _ hC (fun _ h => ⟨rfl, h⟩)) (by decide) rfl rfl rfl (cwV 1 hc.2.2.2.2.1 gL_law_X8_server rfl rfl rfl qX8_server ⟨(Nat.le_of_ble_eq_true rfl), (Nat.le_of_ble_eq_true rfl)⟩) rfl rfl (Nat.le_of_ble_eq_true rfl) dL_law_623 ⟨(Nat.le_of_ble_eq_true rfl), (Nat.le_of_ble_eq_true rfl)⟩ (fun r8 u8 h8 => ?_)
  obtain ⟨e8, hC'⟩ := h8
  rw [e8]
  refine i_aload_n hc dL_law_626 rfl ?_
  refine i_rd hc hX hbl hL i 1 (by omega) rfl rfl dL_law_627 dL_law_628 dL_law_629 (by decide) dL_law_630 dL_law_631 ?_
  refine i_callWi (T := TR) (ad := adR) (n := 17) (kr := 0) (ci := 9) (C0 := RX9) (T0 := TX9) (N := 25) (As := [.int (xs (i + 1))]) (post := fun x u => x = r ∧ RI u M') hc (zX9_server (Nat.le_refl 17) τ (xs (i + 1))) (hs2 τ _ hR (fun _ h => ⟨rfl, h⟩)) (by decide) rfl rfl rfl (cwV 1 hc.2.2.2.2.1 gL_law_X9_server rfl rfl rfl qX9_server ⟨(Nat.le_of_ble_eq_true rfl), (Nat.le_of_ble_eq_true rfl)⟩) rfl rfl (Nat.le_of_ble_eq_true rfl) dL_law_632 ⟨(Nat.le_of_ble_eq_true rfl), (Nat.le_of_ble_eq_true rfl)⟩ (fun r9 u9 h9 => ?_)
  obtain ⟨e9, hR'⟩ := h9
  rw [e9]
  exact i_icmp_eq (tgt := 943) hc dL_law_635 (by decide) (fun _ => kk M' _ _ hC' hR') (fun q => absurd rfl q)
set_option maxHeartbeats 4000000 in
set_option maxRecDepth 100000 in
theorem lc_gain (hc : CX p s m #[Value.ref b] c D cy cL_law 4 RL wsL_law) (hX : va_X b L xs s s.heap) (hbl : b < s.heap.size) (hL : L ≤ 2560) (hi : i + 5 ≤ L) (hC : CI σ M) (hR : RI τ M) (kk : ∀ (M' : Mo) (σ' τ' : St), CI σ' M' → RI τ' M' → WI D (fun q : Nat => s.heap.size ≤ q) p l e room_1 s m #[Value.ref b] below meth c 4 Q 66 84075 (wws TC cy adC 49 σ' ++ wws TR cy adR 17 τ') [some (.ref b), some (.ref (adC 48)), some (.ref (adR 0)), some (.int (nI i))] [] 943) : WI D (fun q : Nat => s.heap.size ≤ q) p l e room_1 s m #[Value.ref b] below meth c 4 Q 66 84075 (wws TC cy adC 49 σ ++ wws TR cy adR 17 τ) [some (.ref b), some (.ref (adC 48)), some (.ref (adR 0)), some (.int (nI i))] [] 640 := by
  obtain ⟨r, M', hs1, hs2⟩ := st_gain hC.w (xs (i + 1))
  refine i_aload_n hc dL_law_640 rfl ?_
  refine i_rd hc hX hbl hL i 1 (by omega) rfl rfl dL_law_641 dL_law_642 dL_law_643 (by decide) dL_law_644 dL_law_645 ?_
  refine i_callWi (T := TC) (ad := adC) (n := 49) (kr := 48) (ci := 8) (C0 := RX8) (T0 := TX8) (N := 8) (As := [.int (xs (i + 1))]) (post := fun x u => x = r ∧ CI u M') hc (zX8_gain (Nat.le_refl 49) σ (xs (i + 1))) (hs1 σ _ hC (fun _ h => ⟨rfl, h⟩)) (by decide) rfl rfl rfl (cwV 1 hc.2.2.2.2.1 gL_law_X8_gain rfl rfl rfl qX8_gain ⟨(Nat.le_of_ble_eq_true rfl), (Nat.le_of_ble_eq_true rfl)⟩) rfl rfl (Nat.le_of_ble_eq_true rfl) dL_law_646 ⟨(Nat.le_of_ble_eq_true rfl), (Nat.le_of_ble_eq_true rfl)⟩ (fun r8 u8 h8 => ?_)
  obtain ⟨e8, hC'⟩ := h8
  rw [e8]
  refine i_aload_n hc dL_law_649 rfl ?_
  refine i_rd hc hX hbl hL i 1 (by omega) rfl rfl dL_law_650 dL_law_651 dL_law_652 (by decide) dL_law_653 dL_law_654 ?_
  refine i_callWi (T := TR) (ad := adR) (n := 17) (kr := 0) (ci := 9) (C0 := RX9) (T0 := TX9) (N := 25) (As := [.int (xs (i + 1))]) (post := fun x u => x = r ∧ RI u M') hc (zX9_gain (Nat.le_refl 17) τ (xs (i + 1))) (hs2 τ _ hR (fun _ h => ⟨rfl, h⟩)) (by decide) rfl rfl rfl (cwV 1 hc.2.2.2.2.1 gL_law_X9_gain rfl rfl rfl qX9_gain ⟨(Nat.le_of_ble_eq_true rfl), (Nat.le_of_ble_eq_true rfl)⟩) rfl rfl (Nat.le_of_ble_eq_true rfl) dL_law_655 ⟨(Nat.le_of_ble_eq_true rfl), (Nat.le_of_ble_eq_true rfl)⟩ (fun r9 u9 h9 => ?_)
  obtain ⟨e9, hR'⟩ := h9
  rw [e9]
  exact i_icmp_eq (tgt := 943) hc dL_law_658 (by decide) (fun _ => kk M' _ _ hC' hR') (fun q => absurd rfl q)
set_option maxHeartbeats 4000000 in
set_option maxRecDepth 100000 in
theorem lc_choose (hc : CX p s m #[Value.ref b] c D cy cL_law 4 RL wsL_law) (hX : va_X b L xs s s.heap) (hbl : b < s.heap.size) (hL : L ≤ 2560) (hi : i + 5 ≤ L) (hC : CI σ M) (hR : RI τ M) (kk : ∀ (M' : Mo) (σ' τ' : St), CI σ' M' → RI τ' M' → WI D (fun q : Nat => s.heap.size ≤ q) p l e room_1 s m #[Value.ref b] below meth c 4 Q 66 84075 (wws TC cy adC 49 σ' ++ wws TR cy adR 17 τ') [some (.ref b), some (.ref (adC 48)), some (.ref (adR 0)), some (.int (nI i))] [] 943) : WI D (fun q : Nat => s.heap.size ≤ q) p l e room_1 s m #[Value.ref b] below meth c 4 Q 66 84075 (wws TC cy adC 49 σ ++ wws TR cy adR 17 τ) [some (.ref b), some (.ref (adC 48)), some (.ref (adR 0)), some (.int (nI i))] [] 663 := by
  obtain ⟨r, M', hs1, hs2⟩ := st_choose hC.w (xs (i + 1))
  refine i_aload_n hc dL_law_663 rfl ?_
  refine i_rd hc hX hbl hL i 1 (by omega) rfl rfl dL_law_664 dL_law_665 dL_law_666 (by decide) dL_law_667 dL_law_668 ?_
  refine i_callWi (T := TC) (ad := adC) (n := 49) (kr := 48) (ci := 8) (C0 := RX8) (T0 := TX8) (N := 8) (As := [.int (xs (i + 1))]) (post := fun x u => x = r ∧ CI u M') hc (zX8_choose (Nat.le_refl 49) σ (xs (i + 1))) (hs1 σ _ hC (fun _ h => ⟨rfl, h⟩)) (by decide) rfl rfl rfl (cwV 1 hc.2.2.2.2.1 gL_law_X8_choose rfl rfl rfl qX8_choose ⟨(Nat.le_of_ble_eq_true rfl), (Nat.le_of_ble_eq_true rfl)⟩) rfl rfl (Nat.le_of_ble_eq_true rfl) dL_law_669 ⟨(Nat.le_of_ble_eq_true rfl), (Nat.le_of_ble_eq_true rfl)⟩ (fun r8 u8 h8 => ?_)
  obtain ⟨e8, hC'⟩ := h8
  rw [e8]
  refine i_aload_n hc dL_law_672 rfl ?_
  refine i_rd hc hX hbl hL i 1 (by omega) rfl rfl dL_law_673 dL_law_674 dL_law_675 (by decide) dL_law_676 dL_law_677 ?_
  refine i_callWi (T := TR) (ad := adR) (n := 17) (kr := 0) (ci := 9) (C0 := RX9) (T0 := TX9) (N := 25) (As := [.int (xs (i + 1))]) (post := fun x u => x = r ∧ RI u M') hc (zX9_choose (Nat.le_refl 17) τ (xs (i + 1))) (hs2 τ _ hR (fun _ h => ⟨rfl, h⟩)) (by decide) rfl rfl rfl (cwV 1 hc.2.2.2.2.1 gL_law_X9_choose rfl rfl rfl qX9_choose ⟨(Nat.le_of_ble_eq_true rfl), (Nat.le_of_ble_eq_true rfl)⟩) rfl rfl (Nat.le_of_ble_eq_true rfl) dL_law_678 ⟨(Nat.le_of_ble_eq_true rfl), (Nat.le_of_ble_eq_true rfl)⟩ (fun r9 u9 h9 => ?_)
  obtain ⟨e9, hR'⟩ := h9
  rw [e9]
  exact i_icmp_eq (tgt := 943) hc dL_law_681 (by decide) (fun _ => kk M' _ _ hC' hR') (fun q => absurd rfl q)
set_option maxHeartbeats 4000000 in
set_option maxRecDepth 100000 in
theorem lc_best (hc : CX p s m #[Value.ref b] c D cy cL_law 4 RL wsL_law) (hX : va_X b L xs s s.heap) (hbl : b < s.heap.size) (hL : L ≤ 2560) (hi : i + 5 ≤ L) (hC : CI σ M) (hR : RI τ M) (kk : ∀ (M' : Mo) (σ' τ' : St), CI σ' M' → RI τ' M' → WI D (fun q : Nat => s.heap.size ≤ q) p l e room_1 s m #[Value.ref b] below meth c 4 Q 66 84075 (wws TC cy adC 49 σ' ++ wws TR cy adR 17 τ') [some (.ref b), some (.ref (adC 48)), some (.ref (adR 0)), some (.int (nI i))] [] 943) : WI D (fun q : Nat => s.heap.size ≤ q) p l e room_1 s m #[Value.ref b] below meth c 4 Q 66 84075 (wws TC cy adC 49 σ ++ wws TR cy adR 17 τ) [some (.ref b), some (.ref (adC 48)), some (.ref (adR 0)), some (.int (nI i))] [] 686 := by
  obtain ⟨r, M', hs1, hs2⟩ := st_best hC.w (xs (i + 1))
  refine i_aload_n hc dL_law_686 rfl ?_
  refine i_rd hc hX hbl hL i 1 (by omega) rfl rfl dL_law_687 dL_law_688 dL_law_689 (by decide) dL_law_690 dL_law_691 ?_
  refine i_callWi (T := TC) (ad := adC) (n := 49) (kr := 48) (ci := 8) (C0 := RX8) (T0 := TX8) (N := 8) (As := [.int (xs (i + 1))]) (post := fun x u => x = r ∧ CI u M') hc (zX8_best (Nat.le_refl 49) σ (xs (i + 1))) (hs1 σ _ hC (fun _ h => ⟨rfl, h⟩)) (by decide) rfl rfl rfl (cwV 1 hc.2.2.2.2.1 gL_law_X8_best rfl rfl rfl qX8_best ⟨(Nat.le_of_ble_eq_true rfl), (Nat.le_of_ble_eq_true rfl)⟩) rfl rfl (Nat.le_of_ble_eq_true rfl) dL_law_692 ⟨(Nat.le_of_ble_eq_true rfl), (Nat.le_of_ble_eq_true rfl)⟩ (fun r8 u8 h8 => ?_)
  obtain ⟨e8, hC'⟩ := h8
  rw [e8]
  refine i_aload_n hc dL_law_695 rfl ?_
  refine i_rd hc hX hbl hL i 1 (by omega) rfl rfl dL_law_696 dL_law_697 dL_law_698 (by decide) dL_law_699 dL_law_700 ?_
  refine i_callWi (T := TR) (ad := adR) (n := 17) (kr := 0) (ci := 9) (C0 := RX9) (T0 := TX9) (N := 25) (As := [.int (xs (i + 1))]) (post := fun x u => x = r ∧ RI u M') hc (zX9_best (Nat.le_refl 17) τ (xs (i + 1))) (hs2 τ _ hR (fun _ h => ⟨rfl, h⟩)) (by decide) rfl rfl rfl (cwV 1 hc.2.2.2.2.1 gL_law_X9_best rfl rfl rfl qX9_best ⟨(Nat.le_of_ble_eq_true rfl), (Nat.le_of_ble_eq_true rfl)⟩) rfl rfl (Nat.le_of_ble_eq_true rfl) dL_law_701 ⟨(Nat.le_of_ble_eq_true rfl), (Nat.le_of_ble_eq_true rfl)⟩ (fun r9 u9 h9 => ?_)
  obtain ⟨e9, hR'⟩ := h9
  rw [e9]
  exact i_icmp_eq (tgt := 943) hc dL_law_704 (by decide) (fun _ => kk M' _ _ hC' hR') (fun q => absurd rfl q)
set_option maxHeartbeats 4000000 in
set_option maxRecDepth 100000 in
theorem lc_ask (hc : CX p s m #[Value.ref b] c D cy cL_law 4 RL wsL_law) (hX : va_X b L xs s s.heap) (hbl : b < s.heap.size) (hL : L ≤ 2560) (hi : i + 5 ≤ L) (hC : CI σ M) (hR : RI τ M) (kk : ∀ (M' : Mo) (σ' τ' : St), CI σ' M' → RI τ' M' → WI D (fun q : Nat => s.heap.size ≤ q) p l e room_1 s m #[Value.ref b] below meth c 4 Q 66 84075 (wws TC cy adC 49 σ' ++ wws TR cy adR 17 τ') [some (.ref b), some (.ref (adC 48)), some (.ref (adR 0)), some (.int (nI i))] [] 943) : WI D (fun q : Nat => s.heap.size ≤ q) p l e room_1 s m #[Value.ref b] below meth c 4 Q 66 84075 (wws TC cy adC 49 σ ++ wws TR cy adR 17 τ) [some (.ref b), some (.ref (adC 48)), some (.ref (adR 0)), some (.int (nI i))] [] 709 := by
  obtain ⟨r, M', hs1, hs2⟩ := st_ask hC.w (xs (i + 1)) (xs (i + 2))
  refine i_aload_n hc dL_law_709 rfl ?_
  refine i_rd hc hX hbl hL i 1 (by omega) rfl rfl dL_law_710 dL_law_711 dL_law_712 (by decide) dL_law_713 dL_law_714 ?_
  refine i_rd hc hX hbl hL i 2 (by omega) rfl rfl dL_law_715 dL_law_716 dL_law_717 (by decide) dL_law_718 dL_law_719 ?_
  refine i_callWi (T := TC) (ad := adC) (n := 49) (kr := 48) (ci := 8) (C0 := RX8) (T0 := TX8) (N := 8) (As := [.int (xs (i + 1)), .int (xs (i + 2))]) (post := fun x u => x = r ∧ CI u M') hc (zX8_ask (Nat.le_refl 49) σ (xs (i + 1)) (xs (i + 2))) (hs1 σ _ hC (fun _ h => ⟨rfl, h⟩)) (by decide) rfl rfl rfl (cwV 2 hc.2.2.2.2.1 gL_law_X8_ask rfl rfl rfl qX8_ask ⟨(Nat.le_of_ble_eq_true rfl), (Nat.le_of_ble_eq_true rfl)⟩) rfl rfl (Nat.le_of_ble_eq_true rfl) dL_law_720 ⟨(Nat.le_of_ble_eq_true rfl), (Nat.le_of_ble_eq_true rfl)⟩ (fun r8 u8 h8 => ?_)
  obtain ⟨e8, hC'⟩ := h8
  rw [e8]
  refine i_aload_n hc dL_law_723 rfl ?_
  refine i_rd hc hX hbl hL i 1 (by omega) rfl rfl dL_law_724 dL_law_725 dL_law_726 (by decide) dL_law_727 dL_law_728 ?_
  refine i_rd hc hX hbl hL i 2 (by omega) rfl rfl dL_law_729 dL_law_730 dL_law_731 (by decide) dL_law_732 dL_law_733 ?_
  refine i_callWi (T := TR) (ad := adR) (n := 17) (kr := 0) (ci := 9) (C0 := RX9) (T0 := TX9) (N := 25) (As := [.int (xs (i + 1)), .int (xs (i + 2))]) (post := fun x u => x = r ∧ RI u M') hc (zX9_ask (Nat.le_refl 17) τ (xs (i + 1)) (xs (i + 2))) (hs2 τ _ hR (fun _ h => ⟨rfl, h⟩)) (by decide) rfl rfl rfl (cwV 2 hc.2.2.2.2.1 gL_law_X9_ask rfl rfl rfl qX9_ask ⟨(Nat.le_of_ble_eq_true rfl), (Nat.le_of_ble_eq_true rfl)⟩) rfl rfl (Nat.le_of_ble_eq_true rfl) dL_law_734 ⟨(Nat.le_of_ble_eq_true rfl), (Nat.le_of_ble_eq_true rfl)⟩ (fun r9 u9 h9 => ?_)
  obtain ⟨e9, hR'⟩ := h9
  rw [e9]
  exact i_icmp_eq (tgt := 943) hc dL_law_737 (by decide) (fun _ => kk M' _ _ hC' hR') (fun q => absurd rfl q)
set_option maxHeartbeats 4000000 in
set_option maxRecDepth 100000 in
theorem lc_group (hc : CX p s m #[Value.ref b] c D cy cL_law 4 RL wsL_law) (hX : va_X b L xs s s.heap) (hbl : b < s.heap.size) (hL : L ≤ 2560) (hi : i + 5 ≤ L) (hC : CI σ M) (hR : RI τ M) (kk : ∀ (M' : Mo) (σ' τ' : St), CI σ' M' → RI τ' M' → WI D (fun q : Nat => s.heap.size ≤ q) p l e room_1 s m #[Value.ref b] below meth c 4 Q 66 84075 (wws TC cy adC 49 σ' ++ wws TR cy adR 17 τ') [some (.ref b), some (.ref (adC 48)), some (.ref (adR 0)), some (.int (nI i))] [] 943) : WI D (fun q : Nat => s.heap.size ≤ q) p l e room_1 s m #[Value.ref b] below meth c 4 Q 66 84075 (wws TC cy adC 49 σ ++ wws TR cy adR 17 τ) [some (.ref b), some (.ref (adC 48)), some (.ref (adR 0)), some (.int (nI i))] [] 742 := by
  obtain ⟨r, M', hs1, hs2⟩ := st_group hC.w (xs (i + 1)) (xs (i + 2))
  refine i_aload_n hc dL_law_742 rfl ?_
  refine i_rd hc hX hbl hL i 1 (by omega) rfl rfl dL_law_743 dL_law_744 dL_law_745 (by decide) dL_law_746 dL_law_747 ?_
  refine i_rd hc hX hbl hL i 2 (by omega) rfl rfl dL_law_748 dL_law_749 dL_law_750 (by decide) dL_law_751 dL_law_752 ?_
  refine i_callWi (T := TC) (ad := adC) (n := 49) (kr := 48) (ci := 8) (C0 := RX8) (T0 := TX8) (N := 8) (As := [.int (xs (i + 1)), .int (xs (i + 2))]) (post := fun x u => x = r ∧ CI u M') hc (zX8_group (Nat.le_refl 49) σ (xs (i + 1)) (xs (i + 2))) (hs1 σ _ hC (fun _ h => ⟨rfl, h⟩)) (by decide) rfl rfl rfl (cwV 2 hc.2.2.2.2.1 gL_law_X8_group rfl rfl rfl qX8_group ⟨(Nat.le_of_ble_eq_true rfl), (Nat.le_of_ble_eq_true rfl)⟩) rfl rfl (Nat.le_of_ble_eq_true rfl) dL_law_753 ⟨(Nat.le_of_ble_eq_true rfl), (Nat.le_of_ble_eq_true rfl)⟩ (fun r8 u8 h8 => ?_)
  obtain ⟨e8, hC'⟩ := h8
  rw [e8]
  refine i_aload_n hc dL_law_756 rfl ?_
  refine i_rd hc hX hbl hL i 1 (by omega) rfl rfl dL_law_757 dL_law_758 dL_law_759 (by decide) dL_law_760 dL_law_761 ?_
  refine i_rd hc hX hbl hL i 2 (by omega) rfl rfl dL_law_762 dL_law_763 dL_law_764 (by decide) dL_law_765 dL_law_766 ?_
  refine i_callWi (T := TR) (ad := adR) (n := 17) (kr := 0) (ci := 9) (C0 := RX9) (T0 := TX9) (N := 25) (As := [.int (xs (i + 1)), .int (xs (i + 2))]) (post := fun x u => x = r ∧ RI u M') hc (zX9_group (Nat.le_refl 17) τ (xs (i + 1)) (xs (i + 2))) (hs2 τ _ hR (fun _ h => ⟨rfl, h⟩)) (by decide) rfl rfl rfl (cwV 2 hc.2.2.2.2.1 gL_law_X9_group rfl rfl rfl qX9_group ⟨(Nat.le_of_ble_eq_true rfl), (Nat.le_of_ble_eq_true rfl)⟩) rfl rfl (Nat.le_of_ble_eq_true rfl) dL_law_767 ⟨(Nat.le_of_ble_eq_true rfl), (Nat.le_of_ble_eq_true rfl)⟩ (fun r9 u9 h9 => ?_)
  obtain ⟨e9, hR'⟩ := h9
  rw [e9]
  exact i_icmp_eq (tgt := 943) hc dL_law_770 (by decide) (fun _ => kk M' _ _ hC' hR') (fun q => absurd rfl q)
set_option maxHeartbeats 4000000 in
set_option maxRecDepth 100000 in
theorem lc_read (hc : CX p s m #[Value.ref b] c D cy cL_law 4 RL wsL_law) (hX : va_X b L xs s s.heap) (hbl : b < s.heap.size) (hL : L ≤ 2560) (hi : i + 5 ≤ L) (hC : CI σ M) (hR : RI τ M) (kk : ∀ (M' : Mo) (σ' τ' : St), CI σ' M' → RI τ' M' → WI D (fun q : Nat => s.heap.size ≤ q) p l e room_1 s m #[Value.ref b] below meth c 4 Q 66 84075 (wws TC cy adC 49 σ' ++ wws TR cy adR 17 τ') [some (.ref b), some (.ref (adC 48)), some (.ref (adR 0)), some (.int (nI i))] [] 943) : WI D (fun q : Nat => s.heap.size ≤ q) p l e room_1 s m #[Value.ref b] below meth c 4 Q 66 84075 (wws TC cy adC 49 σ ++ wws TR cy adR 17 τ) [some (.ref b), some (.ref (adC 48)), some (.ref (adR 0)), some (.int (nI i))] [] 775 := by
  obtain ⟨r, M', hs1, hs2⟩ := st_read (M := M)
  refine i_aload_n hc dL_law_775 rfl ?_
  refine i_callWi (T := TC) (ad := adC) (n := 49) (kr := 48) (ci := 8) (C0 := RX8) (T0 := TX8) (N := 8) (As := []) (post := fun x u => x = r ∧ CI u M') hc (zX8_read (Nat.le_refl 49) σ) (hs1 σ _ hC (fun _ h => ⟨rfl, h⟩)) (by decide) rfl rfl rfl (cwV 0 hc.2.2.2.2.1 gL_law_X8_read rfl rfl rfl qX8_read ⟨(Nat.le_of_ble_eq_true rfl), (Nat.le_of_ble_eq_true rfl)⟩) rfl rfl (Nat.le_of_ble_eq_true rfl) dL_law_776 ⟨(Nat.le_of_ble_eq_true rfl), (Nat.le_of_ble_eq_true rfl)⟩ (fun r8 u8 h8 => ?_)
  obtain ⟨e8, hC'⟩ := h8
  rw [e8]
  refine i_aload_n hc dL_law_779 rfl ?_
  refine i_callWi (T := TR) (ad := adR) (n := 17) (kr := 0) (ci := 9) (C0 := RX9) (T0 := TX9) (N := 25) (As := []) (post := fun x u => x = r ∧ RI u M') hc (zX9_read (Nat.le_refl 17) τ) (hs2 τ _ hR (fun _ h => ⟨rfl, h⟩)) (by decide) rfl rfl rfl (cwV 0 hc.2.2.2.2.1 gL_law_X9_read rfl rfl rfl qX9_read ⟨(Nat.le_of_ble_eq_true rfl), (Nat.le_of_ble_eq_true rfl)⟩) rfl rfl (Nat.le_of_ble_eq_true rfl) dL_law_780 ⟨(Nat.le_of_ble_eq_true rfl), (Nat.le_of_ble_eq_true rfl)⟩ (fun r9 u9 h9 => ?_)
  obtain ⟨e9, hR'⟩ := h9
  rw [e9]
  exact i_icmp_eq (tgt := 943) hc dL_law_783 (by decide) (fun _ => kk M' _ _ hC' hR') (fun q => absurd rfl q)
set_option maxHeartbeats 4000000 in
set_option maxRecDepth 100000 in
theorem lc_filter (hc : CX p s m #[Value.ref b] c D cy cL_law 4 RL wsL_law) (hX : va_X b L xs s s.heap) (hbl : b < s.heap.size) (hL : L ≤ 2560) (hi : i + 5 ≤ L) (hC : CI σ M) (hR : RI τ M) (kk : ∀ (M' : Mo) (σ' τ' : St), CI σ' M' → RI τ' M' → WI D (fun q : Nat => s.heap.size ≤ q) p l e room_1 s m #[Value.ref b] below meth c 4 Q 66 84075 (wws TC cy adC 49 σ' ++ wws TR cy adR 17 τ') [some (.ref b), some (.ref (adC 48)), some (.ref (adR 0)), some (.int (nI i))] [] 943) : WI D (fun q : Nat => s.heap.size ≤ q) p l e room_1 s m #[Value.ref b] below meth c 4 Q 66 84075 (wws TC cy adC 49 σ ++ wws TR cy adR 17 τ) [some (.ref b), some (.ref (adC 48)), some (.ref (adR 0)), some (.int (nI i))] [] 788 := by
  obtain ⟨r, M', hs1, hs2⟩ := st_filter hC.w (xs (i + 1)) (xs (i + 2)) (xs (i + 3))
  refine i_aload_n hc dL_law_788 rfl ?_
  refine i_rd hc hX hbl hL i 1 (by omega) rfl rfl dL_law_789 dL_law_790 dL_law_791 (by decide) dL_law_792 dL_law_793 ?_
  refine i_rd hc hX hbl hL i 2 (by omega) rfl rfl dL_law_794 dL_law_795 dL_law_796 (by decide) dL_law_797 dL_law_798 ?_
  refine i_rd hc hX hbl hL i 3 (by omega) rfl rfl dL_law_799 dL_law_800 dL_law_801 (by decide) dL_law_802 dL_law_803 ?_
  refine i_callWi (T := TC) (ad := adC) (n := 49) (kr := 48) (ci := 8) (C0 := RX8) (T0 := TX8) (N := 8) (As := [.int (xs (i + 1)), .int (xs (i + 2)), .int (xs (i + 3))]) (post := fun x u => x = r ∧ CI u M') hc (zX8_filter (Nat.le_refl 49) σ (xs (i + 1)) (xs (i + 2)) (xs (i + 3))) (hs1 σ _ hC (fun _ h => ⟨rfl, h⟩)) (by decide) rfl rfl rfl (cwV 3 hc.2.2.2.2.1 gL_law_X8_filter rfl rfl rfl qX8_filter ⟨(Nat.le_of_ble_eq_true rfl), (Nat.le_of_ble_eq_true rfl)⟩) rfl rfl (Nat.le_of_ble_eq_true rfl) dL_law_804 ⟨(Nat.le_of_ble_eq_true rfl), (Nat.le_of_ble_eq_true rfl)⟩ (fun r8 u8 h8 => ?_)
  obtain ⟨e8, hC'⟩ := h8
  rw [e8]
  refine i_aload_n hc dL_law_807 rfl ?_
  refine i_rd hc hX hbl hL i 1 (by omega) rfl rfl dL_law_808 dL_law_809 dL_law_810 (by decide) dL_law_811 dL_law_812 ?_
  refine i_rd hc hX hbl hL i 2 (by omega) rfl rfl dL_law_813 dL_law_814 dL_law_815 (by decide) dL_law_816 dL_law_817 ?_
  refine i_rd hc hX hbl hL i 3 (by omega) rfl rfl dL_law_818 dL_law_819 dL_law_820 (by decide) dL_law_821 dL_law_822 ?_
  refine i_callWi (T := TR) (ad := adR) (n := 17) (kr := 0) (ci := 9) (C0 := RX9) (T0 := TX9) (N := 25) (As := [.int (xs (i + 1)), .int (xs (i + 2)), .int (xs (i + 3))]) (post := fun x u => x = r ∧ RI u M') hc (zX9_filter (Nat.le_refl 17) τ (xs (i + 1)) (xs (i + 2)) (xs (i + 3))) (hs2 τ _ hR (fun _ h => ⟨rfl, h⟩)) (by decide) rfl rfl rfl (cwV 3 hc.2.2.2.2.1 gL_law_X9_filter rfl rfl rfl qX9_filter ⟨(Nat.le_of_ble_eq_true rfl), (Nat.le_of_ble_eq_true rfl)⟩) rfl rfl (Nat.le_of_ble_eq_true rfl) dL_law_823 ⟨(Nat.le_of_ble_eq_true rfl), (Nat.le_of_ble_eq_true rfl)⟩ (fun r9 u9 h9 => ?_)
  obtain ⟨e9, hR'⟩ := h9
  rw [e9]
  exact i_icmp_eq (tgt := 943) hc dL_law_826 (by decide) (fun _ => kk M' _ _ hC' hR') (fun q => absurd rfl q)
set_option maxHeartbeats 4000000 in
set_option maxRecDepth 100000 in
theorem lc_total (hc : CX p s m #[Value.ref b] c D cy cL_law 4 RL wsL_law) (hX : va_X b L xs s s.heap) (hbl : b < s.heap.size) (hL : L ≤ 2560) (hi : i + 5 ≤ L) (hC : CI σ M) (hR : RI τ M) (kk : ∀ (M' : Mo) (σ' τ' : St), CI σ' M' → RI τ' M' → WI D (fun q : Nat => s.heap.size ≤ q) p l e room_1 s m #[Value.ref b] below meth c 4 Q 66 84075 (wws TC cy adC 49 σ' ++ wws TR cy adR 17 τ') [some (.ref b), some (.ref (adC 48)), some (.ref (adR 0)), some (.int (nI i))] [] 943) : WI D (fun q : Nat => s.heap.size ≤ q) p l e room_1 s m #[Value.ref b] below meth c 4 Q 66 84075 (wws TC cy adC 49 σ ++ wws TR cy adR 17 τ) [some (.ref b), some (.ref (adC 48)), some (.ref (adR 0)), some (.int (nI i))] [] 831 := by
  obtain ⟨r, M', hs1, hs2⟩ := st_total hC.w (xs (i + 1))
  refine i_aload_n hc dL_law_831 rfl ?_
  refine i_rd hc hX hbl hL i 1 (by omega) rfl rfl dL_law_832 dL_law_833 dL_law_834 (by decide) dL_law_835 dL_law_836 ?_
  refine i_callWi (T := TC) (ad := adC) (n := 49) (kr := 48) (ci := 8) (C0 := RX8) (T0 := TX8) (N := 8) (As := [.int (xs (i + 1))]) (post := fun x u => x = r ∧ CI u M') hc (zX8_total (Nat.le_refl 49) σ (xs (i + 1))) (hs1 σ _ hC (fun _ h => ⟨rfl, h⟩)) (by decide) rfl rfl rfl (cwV 1 hc.2.2.2.2.1 gL_law_X8_total rfl rfl rfl qX8_total ⟨(Nat.le_of_ble_eq_true rfl), (Nat.le_of_ble_eq_true rfl)⟩) rfl rfl (Nat.le_of_ble_eq_true rfl) dL_law_837 ⟨(Nat.le_of_ble_eq_true rfl), (Nat.le_of_ble_eq_true rfl)⟩ (fun r8 u8 h8 => ?_)
  obtain ⟨e8, hC'⟩ := h8
  rw [e8]
  refine i_aload_n hc dL_law_840 rfl ?_
  refine i_rd hc hX hbl hL i 1 (by omega) rfl rfl dL_law_841 dL_law_842 dL_law_843 (by decide) dL_law_844 dL_law_845 ?_
  refine i_callWi (T := TR) (ad := adR) (n := 17) (kr := 0) (ci := 9) (C0 := RX9) (T0 := TX9) (N := 25) (As := [.int (xs (i + 1))]) (post := fun x u => x = r ∧ RI u M') hc (zX9_total (Nat.le_refl 17) τ (xs (i + 1))) (hs2 τ _ hR (fun _ h => ⟨rfl, h⟩)) (by decide) rfl rfl rfl (cwV 1 hc.2.2.2.2.1 gL_law_X9_total rfl rfl rfl qX9_total ⟨(Nat.le_of_ble_eq_true rfl), (Nat.le_of_ble_eq_true rfl)⟩) rfl rfl (Nat.le_of_ble_eq_true rfl) dL_law_846 ⟨(Nat.le_of_ble_eq_true rfl), (Nat.le_of_ble_eq_true rfl)⟩ (fun r9 u9 h9 => ?_)
  obtain ⟨e9, hR'⟩ := h9
  rw [e9]
  exact i_icmp_eq (tgt := 943) hc dL_law_849 (by decide) (fun _ => kk M' _ _ hC' hR') (fun q => absurd rfl q)
set_option maxHeartbeats 4000000 in
set_option maxRecDepth 100000 in
theorem lc_table (hc : CX p s m #[Value.ref b] c D cy cL_law 4 RL wsL_law) (hX : va_X b L xs s s.heap) (hbl : b < s.heap.size) (hL : L ≤ 2560) (hi : i + 5 ≤ L) (hC : CI σ M) (hR : RI τ M) (kk : ∀ (M' : Mo) (σ' τ' : St), CI σ' M' → RI τ' M' → WI D (fun q : Nat => s.heap.size ≤ q) p l e room_1 s m #[Value.ref b] below meth c 4 Q 66 84075 (wws TC cy adC 49 σ' ++ wws TR cy adR 17 τ') [some (.ref b), some (.ref (adC 48)), some (.ref (adR 0)), some (.int (nI i))] [] 943) : WI D (fun q : Nat => s.heap.size ≤ q) p l e room_1 s m #[Value.ref b] below meth c 4 Q 66 84075 (wws TC cy adC 49 σ ++ wws TR cy adR 17 τ) [some (.ref b), some (.ref (adC 48)), some (.ref (adR 0)), some (.int (nI i))] [] 854 := by
  obtain ⟨r, M', hs1, hs2⟩ := st_table hC.w (xs (i + 1)) (xs (i + 2)) (xs (i + 3))
  refine i_aload_n hc dL_law_854 rfl ?_
  refine i_rd hc hX hbl hL i 1 (by omega) rfl rfl dL_law_855 dL_law_856 dL_law_857 (by decide) dL_law_858 dL_law_859 ?_
  refine i_rd hc hX hbl hL i 2 (by omega) rfl rfl dL_law_860 dL_law_861 dL_law_862 (by decide) dL_law_863 dL_law_864 ?_
  refine i_rd hc hX hbl hL i 3 (by omega) rfl rfl dL_law_865 dL_law_866 dL_law_867 (by decide) dL_law_868 dL_law_869 ?_
  refine i_callWi (T := TC) (ad := adC) (n := 49) (kr := 48) (ci := 8) (C0 := RX8) (T0 := TX8) (N := 8) (As := [.int (xs (i + 1)), .int (xs (i + 2)), .int (xs (i + 3))]) (post := fun x u => x = r ∧ CI u M') hc (zX8_table (Nat.le_refl 49) σ (xs (i + 1)) (xs (i + 2)) (xs (i + 3))) (hs1 σ _ hC (fun _ h => ⟨rfl, h⟩)) (by decide) rfl rfl rfl (cwV 3 hc.2.2.2.2.1 gL_law_X8_table rfl rfl rfl qX8_table ⟨(Nat.le_of_ble_eq_true rfl), (Nat.le_of_ble_eq_true rfl)⟩) rfl rfl (Nat.le_of_ble_eq_true rfl) dL_law_870 ⟨(Nat.le_of_ble_eq_true rfl), (Nat.le_of_ble_eq_true rfl)⟩ (fun r8 u8 h8 => ?_)
  obtain ⟨e8, hC'⟩ := h8
  rw [e8]
  refine i_aload_n hc dL_law_873 rfl ?_
  refine i_rd hc hX hbl hL i 1 (by omega) rfl rfl dL_law_874 dL_law_875 dL_law_876 (by decide) dL_law_877 dL_law_878 ?_
  refine i_rd hc hX hbl hL i 2 (by omega) rfl rfl dL_law_879 dL_law_880 dL_law_881 (by decide) dL_law_882 dL_law_883 ?_
  refine i_rd hc hX hbl hL i 3 (by omega) rfl rfl dL_law_884 dL_law_885 dL_law_886 (by decide) dL_law_887 dL_law_888 ?_
  refine i_callWi (T := TR) (ad := adR) (n := 17) (kr := 0) (ci := 9) (C0 := RX9) (T0 := TX9) (N := 25) (As := [.int (xs (i + 1)), .int (xs (i + 2)), .int (xs (i + 3))]) (post := fun x u => x = r ∧ RI u M') hc (zX9_table (Nat.le_refl 17) τ (xs (i + 1)) (xs (i + 2)) (xs (i + 3))) (hs2 τ _ hR (fun _ h => ⟨rfl, h⟩)) (by decide) rfl rfl rfl (cwV 3 hc.2.2.2.2.1 gL_law_X9_table rfl rfl rfl qX9_table ⟨(Nat.le_of_ble_eq_true rfl), (Nat.le_of_ble_eq_true rfl)⟩) rfl rfl (Nat.le_of_ble_eq_true rfl) dL_law_889 ⟨(Nat.le_of_ble_eq_true rfl), (Nat.le_of_ble_eq_true rfl)⟩ (fun r9 u9 h9 => ?_)
  obtain ⟨e9, hR'⟩ := h9
  rw [e9]
  exact i_icmp_eq (tgt := 943) hc dL_law_892 (by decide) (fun _ => kk M' _ _ hC' hR') (fun q => absurd rfl q)
set_option maxHeartbeats 4000000 in
set_option maxRecDepth 100000 in
theorem lc_out (hc : CX p s m #[Value.ref b] c D cy cL_law 4 RL wsL_law) (hX : va_X b L xs s s.heap) (hbl : b < s.heap.size) (hL : L ≤ 2560) (hi : i + 5 ≤ L) (hC : CI σ M) (hR : RI τ M) (kk : ∀ (M' : Mo) (σ' τ' : St), CI σ' M' → RI τ' M' → WI D (fun q : Nat => s.heap.size ≤ q) p l e room_1 s m #[Value.ref b] below meth c 4 Q 66 84075 (wws TC cy adC 49 σ' ++ wws TR cy adR 17 τ') [some (.ref b), some (.ref (adC 48)), some (.ref (adR 0)), some (.int (nI i))] [] 943) : WI D (fun q : Nat => s.heap.size ≤ q) p l e room_1 s m #[Value.ref b] below meth c 4 Q 66 84075 (wws TC cy adC 49 σ ++ wws TR cy adR 17 τ) [some (.ref b), some (.ref (adC 48)), some (.ref (adR 0)), some (.int (nI i))] [] 897 := by
  obtain ⟨r, M', hs1, hs2⟩ := st_out hC.w (xs (i + 1))
  refine i_aload_n hc dL_law_897 rfl ?_
  refine i_rd hc hX hbl hL i 1 (by omega) rfl rfl dL_law_898 dL_law_899 dL_law_900 (by decide) dL_law_901 dL_law_902 ?_
  refine i_callWi (T := TC) (ad := adC) (n := 49) (kr := 48) (ci := 8) (C0 := RX8) (T0 := TX8) (N := 8) (As := [.int (xs (i + 1))]) (post := fun x u => x = r ∧ CI u M') hc (zX8_out (Nat.le_refl 49) σ (xs (i + 1))) (hs1 σ _ hC (fun _ h => ⟨rfl, h⟩)) (by decide) rfl rfl rfl (cwV 1 hc.2.2.2.2.1 gL_law_X8_out rfl rfl rfl qX8_out ⟨(Nat.le_of_ble_eq_true rfl), (Nat.le_of_ble_eq_true rfl)⟩) rfl rfl (Nat.le_of_ble_eq_true rfl) dL_law_903 ⟨(Nat.le_of_ble_eq_true rfl), (Nat.le_of_ble_eq_true rfl)⟩ (fun r8 u8 h8 => ?_)
  obtain ⟨e8, hC'⟩ := h8
  rw [e8]
  refine i_aload_n hc dL_law_906 rfl ?_
  refine i_rd hc hX hbl hL i 1 (by omega) rfl rfl dL_law_907 dL_law_908 dL_law_909 (by decide) dL_law_910 dL_law_911 ?_
  refine i_callWi (T := TR) (ad := adR) (n := 17) (kr := 0) (ci := 9) (C0 := RX9) (T0 := TX9) (N := 25) (As := [.int (xs (i + 1))]) (post := fun x u => x = r ∧ RI u M') hc (zX9_out (Nat.le_refl 17) τ (xs (i + 1))) (hs2 τ _ hR (fun _ h => ⟨rfl, h⟩)) (by decide) rfl rfl rfl (cwV 1 hc.2.2.2.2.1 gL_law_X9_out rfl rfl rfl qX9_out ⟨(Nat.le_of_ble_eq_true rfl), (Nat.le_of_ble_eq_true rfl)⟩) rfl rfl (Nat.le_of_ble_eq_true rfl) dL_law_912 ⟨(Nat.le_of_ble_eq_true rfl), (Nat.le_of_ble_eq_true rfl)⟩ (fun r9 u9 h9 => ?_)
  obtain ⟨e9, hR'⟩ := h9
  rw [e9]
  exact i_icmp_eq (tgt := 943) hc dL_law_915 (by decide) (fun _ => kk M' _ _ hC' hR') (fun q => absurd rfl q)
set_option maxHeartbeats 4000000 in
set_option maxRecDepth 100000 in
theorem lc_count (hc : CX p s m #[Value.ref b] c D cy cL_law 4 RL wsL_law) (hX : va_X b L xs s s.heap) (hbl : b < s.heap.size) (hL : L ≤ 2560) (hi : i + 5 ≤ L) (hC : CI σ M) (hR : RI τ M) (kk : ∀ (M' : Mo) (σ' τ' : St), CI σ' M' → RI τ' M' → WI D (fun q : Nat => s.heap.size ≤ q) p l e room_1 s m #[Value.ref b] below meth c 4 Q 66 84075 (wws TC cy adC 49 σ' ++ wws TR cy adR 17 τ') [some (.ref b), some (.ref (adC 48)), some (.ref (adR 0)), some (.int (nI i))] [] 943) : WI D (fun q : Nat => s.heap.size ≤ q) p l e room_1 s m #[Value.ref b] below meth c 4 Q 66 84075 (wws TC cy adC 49 σ ++ wws TR cy adR 17 τ) [some (.ref b), some (.ref (adC 48)), some (.ref (adR 0)), some (.int (nI i))] [] 920 := by
  obtain ⟨r, M', hs1, hs2⟩ := st_count hC.w (xs (i + 1))
  refine i_aload_n hc dL_law_920 rfl ?_
  refine i_rd hc hX hbl hL i 1 (by omega) rfl rfl dL_law_921 dL_law_922 dL_law_923 (by decide) dL_law_924 dL_law_925 ?_
  refine i_callWi (T := TC) (ad := adC) (n := 49) (kr := 48) (ci := 8) (C0 := RX8) (T0 := TX8) (N := 8) (As := [.int (xs (i + 1))]) (post := fun x u => x = r ∧ CI u M') hc (zX8_count (Nat.le_refl 49) σ (xs (i + 1))) (hs1 σ _ hC (fun _ h => ⟨rfl, h⟩)) (by decide) rfl rfl rfl (cwV 1 hc.2.2.2.2.1 gL_law_X8_count rfl rfl rfl qX8_count ⟨(Nat.le_of_ble_eq_true rfl), (Nat.le_of_ble_eq_true rfl)⟩) rfl rfl (Nat.le_of_ble_eq_true rfl) dL_law_926 ⟨(Nat.le_of_ble_eq_true rfl), (Nat.le_of_ble_eq_true rfl)⟩ (fun r8 u8 h8 => ?_)
  obtain ⟨e8, hC'⟩ := h8
  rw [e8]
  refine i_aload_n hc dL_law_929 rfl ?_
  refine i_rd hc hX hbl hL i 1 (by omega) rfl rfl dL_law_930 dL_law_931 dL_law_932 (by decide) dL_law_933 dL_law_934 ?_
  refine i_callWi (T := TR) (ad := adR) (n := 17) (kr := 0) (ci := 9) (C0 := RX9) (T0 := TX9) (N := 25) (As := [.int (xs (i + 1))]) (post := fun x u => x = r ∧ RI u M') hc (zX9_count (Nat.le_refl 17) τ (xs (i + 1))) (hs2 τ _ hR (fun _ h => ⟨rfl, h⟩)) (by decide) rfl rfl rfl (cwV 1 hc.2.2.2.2.1 gL_law_X9_count rfl rfl rfl qX9_count ⟨(Nat.le_of_ble_eq_true rfl), (Nat.le_of_ble_eq_true rfl)⟩) rfl rfl (Nat.le_of_ble_eq_true rfl) dL_law_935 ⟨(Nat.le_of_ble_eq_true rfl), (Nat.le_of_ble_eq_true rfl)⟩ (fun r9 u9 h9 => ?_)
  obtain ⟨e9, hR'⟩ := h9
  rw [e9]
  exact i_icmp_eq (tgt := 943) hc dL_law_938 (by decide) (fun _ => kk M' _ _ hC' hR') (fun q => absurd rfl q)
end MyCases
