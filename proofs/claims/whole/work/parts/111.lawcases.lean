/-! THE LAW: its cases, printed by wip/whole/gen/mklaw.py -/
theorem r_flag {K : JK} {cc : ByteArray} {nL : Nat} {own : String} (hC : Cx K cc nL own) {pc : Nat} {l : List (Option WV)} {st : List WV} {σ : St} {n1 n2 : Nat} {x v off off2 : Int} {tz tc : Nat} (hv : v = if nm x = 0 then 0 else 1) (d0 : decode cc pc = .ok (.ifCond .eq off, 3)) (h0 : (pc : Int) + off = (tz : Int)) (d1 : decode cc (pc + 3) = .ok (.iconst 1, 1)) (d2 : decode cc (pc + 4) = .ok (.goto off2, 3)) (h2 : ((pc + 4 : Nat) : Int) + off2 = (tc : Int)) (d3 : decode cc tz = .ok (.iconst 0, 1)) (h3 : tz + 1 = tc) (k : J K tc l (wi v :: st) σ n1 n2) : J K pc l (wi x :: st) σ n1 n2 := by
  subst h3
  refine r_if_eq hC d0 h0 (fun hz => ?_) (fun hz => ?_)
  · rw [if_pos hz] at hv
    subst hv
    exact r_iconst hC d3 k
  · rw [if_neg hz] at hv
    subst hv
    exact r_iconst hC d1 (r_goto hC d2 h2 k)
set_option maxRecDepth 100000 in
set_option maxHeartbeats 4000000 in
theorem law_0 {K : JK} (hC : Cx K cL_law 4 RL) (hR : kRm K = room_1) {b L : Nat} {xs : Nat → Int32} (hs : Scr K b L xs) (hL : L ≤ 3584) {i k : Nat} {σ : St} {n1 n2 : Nat} (hi : i + 7 ≤ L) (hk : k ≤ 65536) (h : Sim k σ σ) (hn : n1 + 32 ≤ 600000 ∧ n2 + 1072 ≤ 7302250) (go : ∀ σ2, Sim (k + 1) σ2 σ2 → J K 1163 (LL i) [] σ2 (n1 + 32) (n2 + 1072)) : J K 140 (LL i) [] σ n1 n2 := by
  refine r_aload_n hC dL_law_140 rfl ?_
  refine r_arg hC hs (d := 1) (by omega) hL dL_law_141 dL_law_142 dL_law_143 dL_law_144 dL_law_145 ?_
  refine r_arg hC hs (d := 2) (by omega) hL dL_law_146 dL_law_147 dL_law_148 dL_law_149 dL_law_150 ?_
  have hw : wp_X7_process (xA xs (i + 1)) (xA xs (i + 2)) σ (fun r σ1 => wp_X8_process (xA xs (i + 1)) (xA xs (i + 2)) σ1 (fun r2 σ2 => r2 = r ∧ Sim (k + 1) σ2 σ2)) := both (wc := wp_X7_process (xA xs (i + 1)) (xA xs (i + 2)) σ) (wm := fun M => wp_X8_process (xA xs (i + 1)) (xA xs (i + 2)) M) h (fun n ls z => (op_process (nmA xs _) (nmA xs _) z).mono (Nat.le_succ k))
  refine cl_XL_13 hC (c_X7_process (kL K) hw) (⟨by rw [hR]; decide, by rw [hR]; exact ⟨by show n1 + 9 ≤ 600000; omega, by show n2 + 177 ≤ 7302250; omega⟩⟩) (Nat.le_of_ble_eq_true rfl) dL_law_151 (fun r1 σ1 hq => ?_)
  have hw : wp_X8_process (xA xs (i + 1)) (xA xs (i + 2)) σ1 (fun r2 σ2 => r2 = r1 ∧ Sim (k + 1) σ2 σ2) := hq
  refine r_aload_n hC dL_law_154 rfl ?_
  refine r_arg hC hs (d := 1) (by omega) hL dL_law_155 dL_law_156 dL_law_157 dL_law_158 dL_law_159 ?_
  refine r_arg hC hs (d := 2) (by omega) hL dL_law_160 dL_law_161 dL_law_162 dL_law_163 dL_law_164 ?_
  refine cl_XL_17 hC (c_X8_process (kL K) hw) (⟨by rw [hR]; decide, by rw [hR]; exact ⟨by show n1 + 9 + 0 ≤ 600000; omega, by show n2 + 177 + 0 ≤ 7302250; omega⟩⟩) (Nat.le_of_ble_eq_true rfl) dL_law_165 (fun r2 σ2 hq2 => ?_)
  obtain ⟨e9, h9⟩ := hq2
  subst e9
  exact r_icmp_eq hC dL_law_168 (by decide) (fun _ => J.widen (by omega) (by omega) (go _ h9)) (fun hz => absurd rfl hz)
set_option maxRecDepth 100000 in
set_option maxHeartbeats 4000000 in
theorem law_1 {K : JK} (hC : Cx K cL_law 4 RL) (hR : kRm K = room_1) {b L : Nat} {xs : Nat → Int32} (hs : Scr K b L xs) (hL : L ≤ 3584) {i k : Nat} {σ : St} {n1 n2 : Nat} (hi : i + 7 ≤ L) (hk : k ≤ 65536) (h : Sim k σ σ) (hn : n1 + 32 ≤ 600000 ∧ n2 + 1072 ≤ 7302250) (go : ∀ σ2, Sim (k + 1) σ2 σ2 → J K 1163 (LL i) [] σ2 (n1 + 32) (n2 + 1072)) : J K 173 (LL i) [] σ n1 n2 := by
  refine r_aload_n hC dL_law_173 rfl ?_
  refine r_arg hC hs (d := 1) (by omega) hL dL_law_174 dL_law_175 dL_law_176 dL_law_177 dL_law_178 ?_
  have hw : wp_X7_exit (xA xs (i + 1)) σ (fun r σ1 => wp_X8_exit (xA xs (i + 1)) σ1 (fun r2 σ2 => r2 = r ∧ Sim (k + 1) σ2 σ2)) := both (wc := wp_X7_exit (xA xs (i + 1)) σ) (wm := fun M => wp_X8_exit (xA xs (i + 1)) M) h (fun n ls z => (op_exit (nmA xs _) z).toW.mono (Nat.le_succ k))
  refine cl_XL_18 hC (c_X7_exit (kL K) hw) (⟨by rw [hR]; decide, by rw [hR]; exact ⟨by show n1 + 0 ≤ 600000; omega, by show n2 + 0 ≤ 7302250; omega⟩⟩) (Nat.le_of_ble_eq_true rfl) dL_law_179 (fun r1 σ1 hq => ?_)
  have hw : wp_X8_exit (xA xs (i + 1)) σ1 (fun r2 σ2 => r2 = r1 ∧ Sim (k + 1) σ2 σ2) := hq
  refine r_aload_n hC dL_law_182 rfl ?_
  refine r_arg hC hs (d := 1) (by omega) hL dL_law_183 dL_law_184 dL_law_185 dL_law_186 dL_law_187 ?_
  refine cl_XL_22 hC (c_X8_exit (kL K) hw) (⟨by rw [hR]; decide, by rw [hR]; exact ⟨by show n1 + 0 + 0 ≤ 600000; omega, by show n2 + 0 + 0 ≤ 7302250; omega⟩⟩) (Nat.le_of_ble_eq_true rfl) dL_law_188 (fun r2 σ2 hq2 => ?_)
  obtain ⟨e9, h9⟩ := hq2
  subst e9
  exact r_icmp_eq hC dL_law_191 (by decide) (fun _ => J.widen (by omega) (by omega) (go _ h9)) (fun hz => absurd rfl hz)
set_option maxRecDepth 100000 in
set_option maxHeartbeats 4000000 in
theorem law_2 {K : JK} (hC : Cx K cL_law 4 RL) (hR : kRm K = room_1) {b L : Nat} {xs : Nat → Int32} (hs : Scr K b L xs) (hL : L ≤ 3584) {i k : Nat} {σ : St} {n1 n2 : Nat} (hi : i + 7 ≤ L) (hk : k ≤ 65536) (h : Sim k σ σ) (hn : n1 + 32 ≤ 600000 ∧ n2 + 1072 ≤ 7302250) (go : ∀ σ2, Sim (k + 1) σ2 σ2 → J K 1163 (LL i) [] σ2 (n1 + 32) (n2 + 1072)) : J K 196 (LL i) [] σ n1 n2 := by
  refine r_aload_n hC dL_law_196 rfl ?_
  refine r_arg hC hs (d := 1) (by omega) hL dL_law_197 dL_law_198 dL_law_199 dL_law_200 dL_law_201 ?_
  have hw : wp_X7_signal (xA xs (i + 1)) σ (fun r σ1 => wp_X8_signal (xA xs (i + 1)) σ1 (fun r2 σ2 => r2 = r ∧ Sim (k + 1) σ2 σ2)) := both (wc := wp_X7_signal (xA xs (i + 1)) σ) (wm := fun M => wp_X8_signal (xA xs (i + 1)) M) h (fun n ls z => (op_signal (nmA xs _) z).toW.mono (Nat.le_succ k))
  refine cl_XL_23 hC (c_X7_signal (kL K) hw) (⟨by rw [hR]; decide, by rw [hR]; exact ⟨by show n1 + 0 ≤ 600000; omega, by show n2 + 0 ≤ 7302250; omega⟩⟩) (Nat.le_of_ble_eq_true rfl) dL_law_202 (fun r1 σ1 hq => ?_)
  have hw : wp_X8_signal (xA xs (i + 1)) σ1 (fun r2 σ2 => r2 = r1 ∧ Sim (k + 1) σ2 σ2) := hq
  refine r_aload_n hC dL_law_205 rfl ?_
  refine r_arg hC hs (d := 1) (by omega) hL dL_law_206 dL_law_207 dL_law_208 dL_law_209 dL_law_210 ?_
  refine cl_XL_26 hC (c_X8_signal (kL K) hw) (⟨by rw [hR]; decide, by rw [hR]; exact ⟨by show n1 + 0 + 0 ≤ 600000; omega, by show n2 + 0 + 0 ≤ 7302250; omega⟩⟩) (Nat.le_of_ble_eq_true rfl) dL_law_211 (fun r2 σ2 hq2 => ?_)
  obtain ⟨e9, h9⟩ := hq2
  subst e9
  exact r_icmp_eq hC dL_law_214 (by decide) (fun _ => J.widen (by omega) (by omega) (go _ h9)) (fun hz => absurd rfl hz)
set_option maxRecDepth 100000 in
set_option maxHeartbeats 4000000 in
theorem law_3 {K : JK} (hC : Cx K cL_law 4 RL) (hR : kRm K = room_1) {b L : Nat} {xs : Nat → Int32} (hs : Scr K b L xs) (hL : L ≤ 3584) {i k : Nat} {σ : St} {n1 n2 : Nat} (hi : i + 7 ≤ L) (hk : k ≤ 65536) (h : Sim k σ σ) (hn : n1 + 32 ≤ 600000 ∧ n2 + 1072 ≤ 7302250) (go : ∀ σ2, Sim (k + 1) σ2 σ2 → J K 1163 (LL i) [] σ2 (n1 + 32) (n2 + 1072)) : J K 219 (LL i) [] σ n1 n2 := by
  refine r_aload_n hC dL_law_219 rfl ?_
  refine r_arg hC hs (d := 1) (by omega) hL dL_law_220 dL_law_221 dL_law_222 dL_law_223 dL_law_224 ?_
  have hw : wp_X7_result (xA xs (i + 1)) σ (fun r σ1 => wp_X8_result (xA xs (i + 1)) σ1 (fun r2 σ2 => r2 = r ∧ Sim (k + 1) σ2 σ2)) := both (wc := wp_X7_result (xA xs (i + 1)) σ) (wm := fun M => wp_X8_result (xA xs (i + 1)) M) h (fun n ls z => (op_result (nmA xs _) z).toW.mono (Nat.le_succ k))
  refine cl_XL_27 hC (c_X7_result (kL K) hw) (⟨by rw [hR]; decide, by rw [hR]; exact ⟨by show n1 + 0 ≤ 600000; omega, by show n2 + 0 ≤ 7302250; omega⟩⟩) (Nat.le_of_ble_eq_true rfl) dL_law_225 (fun r1 σ1 hq => ?_)
  have hw : wp_X8_result (xA xs (i + 1)) σ1 (fun r2 σ2 => r2 = r1 ∧ Sim (k + 1) σ2 σ2) := hq
  refine r_aload_n hC dL_law_228 rfl ?_
  refine r_arg hC hs (d := 1) (by omega) hL dL_law_229 dL_law_230 dL_law_231 dL_law_232 dL_law_233 ?_
  refine cl_XL_30 hC (c_X8_result (kL K) hw) (⟨by rw [hR]; decide, by rw [hR]; exact ⟨by show n1 + 0 + 0 ≤ 600000; omega, by show n2 + 0 + 0 ≤ 7302250; omega⟩⟩) (Nat.le_of_ble_eq_true rfl) dL_law_234 (fun r2 σ2 hq2 => ?_)
  obtain ⟨e9, h9⟩ := hq2
  subst e9
  exact r_icmp_eq hC dL_law_237 (by decide) (fun _ => J.widen (by omega) (by omega) (go _ h9)) (fun hz => absurd rfl hz)
set_option maxRecDepth 100000 in
set_option maxHeartbeats 4000000 in
theorem law_4 {K : JK} (hC : Cx K cL_law 4 RL) (hR : kRm K = room_1) {b L : Nat} {xs : Nat → Int32} (hs : Scr K b L xs) (hL : L ≤ 3584) {i k : Nat} {σ : St} {n1 n2 : Nat} (hi : i + 7 ≤ L) (hk : k ≤ 65536) (h : Sim k σ σ) (hn : n1 + 32 ≤ 600000 ∧ n2 + 1072 ≤ 7302250) (go : ∀ σ2, Sim (k + 1) σ2 σ2 → J K 1163 (LL i) [] σ2 (n1 + 32) (n2 + 1072)) : J K 242 (LL i) [] σ n1 n2 := by
  refine r_aload_n hC dL_law_242 rfl ?_
  refine r_arg hC hs (d := 1) (by omega) hL dL_law_243 dL_law_244 dL_law_245 dL_law_246 dL_law_247 ?_
  refine r_arg hC hs (d := 2) (by omega) hL dL_law_248 dL_law_249 dL_law_250 dL_law_251 dL_law_252 ?_
  refine r_arg hC hs (d := 3) (by omega) hL dL_law_253 dL_law_254 dL_law_255 dL_law_256 dL_law_257 ?_
  have hw : wp_X7_area (xA xs (i + 1)) (xA xs (i + 2)) (xA xs (i + 3)) σ (fun r σ1 => wp_X8_area (xA xs (i + 1)) (xA xs (i + 2)) (xA xs (i + 3)) σ1 (fun r2 σ2 => r2 = r ∧ Sim (k + 1) σ2 σ2)) := both (wc := wp_X7_area (xA xs (i + 1)) (xA xs (i + 2)) (xA xs (i + 3)) σ) (wm := fun M => wp_X8_area (xA xs (i + 1)) (xA xs (i + 2)) (xA xs (i + 3)) M) h (fun n ls z => (op_area (nmA xs _) (nmA xs _) (nmA xs _) z).toW.mono (Nat.le_succ k))
  refine cl_XL_31 hC (c_X7_area (kL K) hw) (⟨by rw [hR]; decide, by rw [hR]; exact ⟨by show n1 + 0 ≤ 600000; omega, by show n2 + 0 ≤ 7302250; omega⟩⟩) (Nat.le_of_ble_eq_true rfl) dL_law_258 (fun r1 σ1 hq => ?_)
  have hw : wp_X8_area (xA xs (i + 1)) (xA xs (i + 2)) (xA xs (i + 3)) σ1 (fun r2 σ2 => r2 = r1 ∧ Sim (k + 1) σ2 σ2) := hq
  refine r_aload_n hC dL_law_261 rfl ?_
  refine r_arg hC hs (d := 1) (by omega) hL dL_law_262 dL_law_263 dL_law_264 dL_law_265 dL_law_266 ?_
  refine r_arg hC hs (d := 2) (by omega) hL dL_law_267 dL_law_268 dL_law_269 dL_law_270 dL_law_271 ?_
  refine r_arg hC hs (d := 3) (by omega) hL dL_law_272 dL_law_273 dL_law_274 dL_law_275 dL_law_276 ?_
  refine cl_XL_35 hC (c_X8_area (kL K) hw) (⟨by rw [hR]; decide, by rw [hR]; exact ⟨by show n1 + 0 + 0 ≤ 600000; omega, by show n2 + 0 + 0 ≤ 7302250; omega⟩⟩) (Nat.le_of_ble_eq_true rfl) dL_law_277 (fun r2 σ2 hq2 => ?_)
  obtain ⟨e9, h9⟩ := hq2
  subst e9
  exact r_icmp_eq hC dL_law_280 (by decide) (fun _ => J.widen (by omega) (by omega) (go _ h9)) (fun hz => absurd rfl hz)
set_option maxRecDepth 100000 in
set_option maxHeartbeats 4000000 in
theorem law_5 {K : JK} (hC : Cx K cL_law 4 RL) (hR : kRm K = room_1) {b L : Nat} {xs : Nat → Int32} (hs : Scr K b L xs) (hL : L ≤ 3584) {i k : Nat} {σ : St} {n1 n2 : Nat} (hi : i + 7 ≤ L) (hk : k ≤ 65536) (h : Sim k σ σ) (hn : n1 + 32 ≤ 600000 ∧ n2 + 1072 ≤ 7302250) (go : ∀ σ2, Sim (k + 1) σ2 σ2 → J K 1163 (LL i) [] σ2 (n1 + 32) (n2 + 1072)) : J K 285 (LL i) [] σ n1 n2 := by
  refine r_aload_n hC dL_law_285 rfl ?_
  refine r_arg hC hs (d := 1) (by omega) hL dL_law_286 dL_law_287 dL_law_288 dL_law_289 dL_law_290 ?_
  refine r_arg hC hs (d := 2) (by omega) hL dL_law_291 dL_law_292 dL_law_293 dL_law_294 dL_law_295 ?_
  have hw : wp_X7_areaAt (xA xs (i + 1)) (xA xs (i + 2)) σ (fun r σ1 => wp_X8_areaAt (xA xs (i + 1)) (xA xs (i + 2)) σ1 (fun r2 σ2 => r2 = r ∧ Sim (k + 1) σ2 σ2)) := both (wc := wp_X7_areaAt (xA xs (i + 1)) (xA xs (i + 2)) σ) (wm := fun M => wp_X8_areaAt (xA xs (i + 1)) (xA xs (i + 2)) M) h (fun n ls z => (op_areaAt (nmA xs _) (nmA xs _) z).toW.mono (Nat.le_succ k))
  refine cl_XL_36 hC (c_X7_areaAt (kL K) hw) (⟨by rw [hR]; decide, by rw [hR]; exact ⟨by show n1 + 0 ≤ 600000; omega, by show n2 + 0 ≤ 7302250; omega⟩⟩) (Nat.le_of_ble_eq_true rfl) dL_law_296 (fun r1 σ1 hq => ?_)
  have hw : wp_X8_areaAt (xA xs (i + 1)) (xA xs (i + 2)) σ1 (fun r2 σ2 => r2 = r1 ∧ Sim (k + 1) σ2 σ2) := hq
  refine r_aload_n hC dL_law_299 rfl ?_
  refine r_arg hC hs (d := 1) (by omega) hL dL_law_300 dL_law_301 dL_law_302 dL_law_303 dL_law_304 ?_
  refine r_arg hC hs (d := 2) (by omega) hL dL_law_305 dL_law_306 dL_law_307 dL_law_308 dL_law_309 ?_
  refine cl_XL_39 hC (c_X8_areaAt (kL K) hw) (⟨by rw [hR]; decide, by rw [hR]; exact ⟨by show n1 + 0 + 0 ≤ 600000; omega, by show n2 + 0 + 0 ≤ 7302250; omega⟩⟩) (Nat.le_of_ble_eq_true rfl) dL_law_310 (fun r2 σ2 hq2 => ?_)
  obtain ⟨e9, h9⟩ := hq2
  subst e9
  exact r_icmp_eq hC dL_law_313 (by decide) (fun _ => J.widen (by omega) (by omega) (go _ h9)) (fun hz => absurd rfl hz)
set_option maxRecDepth 100000 in
set_option maxHeartbeats 4000000 in
theorem law_6 {K : JK} (hC : Cx K cL_law 4 RL) (hR : kRm K = room_1) {b L : Nat} {xs : Nat → Int32} (hs : Scr K b L xs) (hL : L ≤ 3584) {i k : Nat} {σ : St} {n1 n2 : Nat} (hi : i + 7 ≤ L) (hk : k ≤ 65536) (h : Sim k σ σ) (hn : n1 + 32 ≤ 600000 ∧ n2 + 1072 ≤ 7302250) (go : ∀ σ2, Sim (k + 1) σ2 σ2 → J K 1163 (LL i) [] σ2 (n1 + 32) (n2 + 1072)) : J K 318 (LL i) [] σ n1 n2 := by
  refine r_aload_n hC dL_law_318 rfl ?_
  refine r_arg hC hs (d := 1) (by omega) hL dL_law_319 dL_law_320 dL_law_321 dL_law_322 dL_law_323 ?_
  have hw : wp_X7_taken (xA xs (i + 1)) σ (fun r σ1 => wp_X8_taken (xA xs (i + 1)) σ1 (fun r2 σ2 => r2 = r ∧ Sim (k + 1) σ2 σ2)) := both (wc := wp_X7_taken (xA xs (i + 1)) σ) (wm := fun M => wp_X8_taken (xA xs (i + 1)) M) h (fun n ls z => (op_taken (nmA xs _) z).toW.mono (Nat.le_succ k))
  refine cl_XL_40 hC (c_X7_taken (kL K) hw) (⟨by rw [hR]; decide, by rw [hR]; exact ⟨by show n1 + 0 ≤ 600000; omega, by show n2 + 0 ≤ 7302250; omega⟩⟩) (Nat.le_of_ble_eq_true rfl) dL_law_324 (fun r1 σ1 hq => ?_)
  have hw : wp_X8_taken (xA xs (i + 1)) σ1 (fun r2 σ2 => r2 = r1 ∧ Sim (k + 1) σ2 σ2) := hq
  refine r_aload_n hC dL_law_327 rfl ?_
  refine r_arg hC hs (d := 1) (by omega) hL dL_law_328 dL_law_329 dL_law_330 dL_law_331 dL_law_332 ?_
  refine cl_XL_44 hC (c_X8_taken (kL K) hw) (⟨by rw [hR]; decide, by rw [hR]; exact ⟨by show n1 + 0 + 0 ≤ 600000; omega, by show n2 + 0 + 0 ≤ 7302250; omega⟩⟩) (Nat.le_of_ble_eq_true rfl) dL_law_333 (fun r2 σ2 hq2 => ?_)
  obtain ⟨e9, h9⟩ := hq2
  subst e9
  refine r_lcmp hC dL_law_336 ?_
  exact r_if_eq hC dL_law_337 (by decide) (fun _ => J.widen (by omega) (by omega) (go _ h9)) (fun hz => absurd (lcm_rf _) hz)
set_option maxRecDepth 100000 in
set_option maxHeartbeats 4000000 in
theorem law_7 {K : JK} (hC : Cx K cL_law 4 RL) (hR : kRm K = room_1) {b L : Nat} {xs : Nat → Int32} (hs : Scr K b L xs) (hL : L ≤ 3584) {i k : Nat} {σ : St} {n1 n2 : Nat} (hi : i + 7 ≤ L) (hk : k ≤ 65536) (h : Sim k σ σ) (hn : n1 + 32 ≤ 600000 ∧ n2 + 1072 ≤ 7302250) (go : ∀ σ2, Sim (k + 1) σ2 σ2 → J K 1163 (LL i) [] σ2 (n1 + 32) (n2 + 1072)) : J K 342 (LL i) [] σ n1 n2 := by
  refine r_aload_n hC dL_law_342 rfl ?_
  refine r_arg hC hs (d := 1) (by omega) hL dL_law_343 dL_law_344 dL_law_345 dL_law_346 dL_law_347 ?_
  refine r_arg hC hs (d := 2) (by omega) hL dL_law_348 dL_law_349 dL_law_350 dL_law_351 dL_law_352 ?_
  refine r_arg hC hs (d := 3) (by omega) hL dL_law_353 dL_law_354 dL_law_355 dL_law_356 dL_law_357 ?_
  have hw : wp_X7_queue (xA xs (i + 1)) (xA xs (i + 2)) (xA xs (i + 3)) σ (fun r σ1 => wp_X8_queue (xA xs (i + 1)) (xA xs (i + 2)) (xA xs (i + 3)) σ1 (fun r2 σ2 => r2 = r ∧ Sim (k + 1) σ2 σ2)) := both (wc := wp_X7_queue (xA xs (i + 1)) (xA xs (i + 2)) (xA xs (i + 3)) σ) (wm := fun M => wp_X8_queue (xA xs (i + 1)) (xA xs (i + 2)) (xA xs (i + 3)) M) h (fun n ls z => (op_queue hk (nmA xs _) (nmA xs _) (nmA xs _) z).mono (Nat.le_succ k))
  refine cl_XL_45 hC (c_X7_queue (kL K) hw) (⟨by rw [hR]; decide, by rw [hR]; exact ⟨by show n1 + 2 ≤ 600000; omega, by show n2 + 54 ≤ 7302250; omega⟩⟩) (Nat.le_of_ble_eq_true rfl) dL_law_358 (fun r1 σ1 hq => ?_)
  have hw : wp_X8_queue (xA xs (i + 1)) (xA xs (i + 2)) (xA xs (i + 3)) σ1 (fun r2 σ2 => r2 = r1 ∧ Sim (k + 1) σ2 σ2) := hq
  refine r_aload_n hC dL_law_361 rfl ?_
  refine r_arg hC hs (d := 1) (by omega) hL dL_law_362 dL_law_363 dL_law_364 dL_law_365 dL_law_366 ?_
  refine r_arg hC hs (d := 2) (by omega) hL dL_law_367 dL_law_368 dL_law_369 dL_law_370 dL_law_371 ?_
  refine r_arg hC hs (d := 3) (by omega) hL dL_law_372 dL_law_373 dL_law_374 dL_law_375 dL_law_376 ?_
  refine cl_XL_48 hC (c_X8_queue (kL K) hw) (⟨by rw [hR]; decide, by rw [hR]; exact ⟨by show n1 + 2 + 0 ≤ 600000; omega, by show n2 + 54 + 0 ≤ 7302250; omega⟩⟩) (Nat.le_of_ble_eq_true rfl) dL_law_377 (fun r2 σ2 hq2 => ?_)
  obtain ⟨e9, h9⟩ := hq2
  subst e9
  exact r_icmp_eq hC dL_law_380 (by decide) (fun _ => J.widen (by omega) (by omega) (go _ h9)) (fun hz => absurd rfl hz)
set_option maxRecDepth 100000 in
set_option maxHeartbeats 4000000 in
theorem law_8 {K : JK} (hC : Cx K cL_law 4 RL) (hR : kRm K = room_1) {b L : Nat} {xs : Nat → Int32} (hs : Scr K b L xs) (hL : L ≤ 3584) {i k : Nat} {σ : St} {n1 n2 : Nat} (hi : i + 7 ≤ L) (hk : k ≤ 65536) (h : Sim k σ σ) (hn : n1 + 32 ≤ 600000 ∧ n2 + 1072 ≤ 7302250) (go : ∀ σ2, Sim (k + 1) σ2 σ2 → J K 1163 (LL i) [] σ2 (n1 + 32) (n2 + 1072)) : J K 385 (LL i) [] σ n1 n2 := by
  refine r_aload_n hC dL_law_385 rfl ?_
  refine r_arg hC hs (d := 1) (by omega) hL dL_law_386 dL_law_387 dL_law_388 dL_law_389 dL_law_390 ?_
  refine r_arg hC hs (d := 2) (by omega) hL dL_law_391 dL_law_392 dL_law_393 dL_law_394 dL_law_395 ?_
  refine r_arg hC hs (d := 3) (by omega) hL dL_law_396 dL_law_397 dL_law_398 dL_law_399 dL_law_400 ?_
  refine r_arg hC hs (d := 4) (by omega) hL dL_law_401 dL_law_402 dL_law_403 dL_law_404 dL_law_405 ?_
  have hw : wp_X7_set (xA xs (i + 1)) (xA xs (i + 2)) (xA xs (i + 3)) (xA xs (i + 4)) σ (fun r σ1 => wp_X8_set (xA xs (i + 1)) (xA xs (i + 2)) (xA xs (i + 3)) (xA xs (i + 4)) σ1 (fun r2 σ2 => r2 = r ∧ Sim (k + 1) σ2 σ2)) := both (wc := wp_X7_set (xA xs (i + 1)) (xA xs (i + 2)) (xA xs (i + 3)) (xA xs (i + 4)) σ) (wm := fun M => wp_X8_set (xA xs (i + 1)) (xA xs (i + 2)) (xA xs (i + 3)) (xA xs (i + 4)) M) h (fun n ls z => (op_set hk (nmA xs _) (nmA xs _) (nmA xs _) (nmA xs _) z).mono (Nat.le_succ k))
  refine cl_XL_49 hC (c_X7_set (kL K) hw) (⟨by rw [hR]; decide, by rw [hR]; exact ⟨by show n1 + 6 ≤ 600000; omega, by show n2 + 177 ≤ 7302250; omega⟩⟩) (Nat.le_of_ble_eq_true rfl) dL_law_406 (fun r1 σ1 hq => ?_)
  have hw : wp_X8_set (xA xs (i + 1)) (xA xs (i + 2)) (xA xs (i + 3)) (xA xs (i + 4)) σ1 (fun r2 σ2 => r2 = r1 ∧ Sim (k + 1) σ2 σ2) := hq
  refine r_aload_n hC dL_law_409 rfl ?_
  refine r_arg hC hs (d := 1) (by omega) hL dL_law_410 dL_law_411 dL_law_412 dL_law_413 dL_law_414 ?_
  refine r_arg hC hs (d := 2) (by omega) hL dL_law_415 dL_law_416 dL_law_417 dL_law_418 dL_law_419 ?_
  refine r_arg hC hs (d := 3) (by omega) hL dL_law_420 dL_law_421 dL_law_422 dL_law_423 dL_law_424 ?_
  refine r_arg hC hs (d := 4) (by omega) hL dL_law_425 dL_law_426 dL_law_427 dL_law_428 dL_law_429 ?_
  refine cl_XL_53 hC (c_X8_set (kL K) hw) (⟨by rw [hR]; decide, by rw [hR]; exact ⟨by show n1 + 6 + 0 ≤ 600000; omega, by show n2 + 177 + 0 ≤ 7302250; omega⟩⟩) (Nat.le_of_ble_eq_true rfl) dL_law_430 (fun r2 σ2 hq2 => ?_)
  obtain ⟨e9, h9⟩ := hq2
  subst e9
  exact r_icmp_eq hC dL_law_433 (by decide) (fun _ => J.widen (by omega) (by omega) (go _ h9)) (fun hz => absurd rfl hz)
set_option maxRecDepth 100000 in
set_option maxHeartbeats 4000000 in
theorem law_9 {K : JK} (hC : Cx K cL_law 4 RL) (hR : kRm K = room_1) {b L : Nat} {xs : Nat → Int32} (hs : Scr K b L xs) (hL : L ≤ 3584) {i k : Nat} {σ : St} {n1 n2 : Nat} (hi : i + 7 ≤ L) (hk : k ≤ 65536) (h : Sim k σ σ) (hn : n1 + 32 ≤ 600000 ∧ n2 + 1072 ≤ 7302250) (go : ∀ σ2, Sim (k + 1) σ2 σ2 → J K 1163 (LL i) [] σ2 (n1 + 32) (n2 + 1072)) : J K 438 (LL i) [] σ n1 n2 := by
  refine r_aload_n hC dL_law_438 rfl ?_
  refine r_arg hC hs (d := 1) (by omega) hL dL_law_439 dL_law_440 dL_law_441 dL_law_442 dL_law_443 ?_
  refine r_arg hC hs (d := 2) (by omega) hL dL_law_444 dL_law_445 dL_law_446 dL_law_447 dL_law_448 ?_
  refine r_arg hC hs (d := 3) (by omega) hL dL_law_449 dL_law_450 dL_law_451 dL_law_452 dL_law_453 ?_
  have hw : wp_X7_remove (xA xs (i + 1)) (xA xs (i + 2)) (xA xs (i + 3)) σ (fun r σ1 => wp_X8_remove (xA xs (i + 1)) (xA xs (i + 2)) (xA xs (i + 3)) σ1 (fun r2 σ2 => r2 = r ∧ Sim (k + 1) σ2 σ2)) := both (wc := wp_X7_remove (xA xs (i + 1)) (xA xs (i + 2)) (xA xs (i + 3)) σ) (wm := fun M => wp_X8_remove (xA xs (i + 1)) (xA xs (i + 2)) (xA xs (i + 3)) M) h (fun n ls z => op_remove (nmA xs _) (nmA xs _) (nmA xs _) z)
  refine cl_XL_54 hC (c_X7_remove (kL K) hw) (⟨by rw [hR]; decide, by rw [hR]; exact ⟨by show n1 + 32 ≤ 600000; omega, by show n2 + 1072 ≤ 7302250; omega⟩⟩) (Nat.le_of_ble_eq_true rfl) dL_law_454 (fun r1 σ1 hq => ?_)
  have hw : wp_X8_remove (xA xs (i + 1)) (xA xs (i + 2)) (xA xs (i + 3)) σ1 (fun r2 σ2 => r2 = r1 ∧ Sim (k + 1) σ2 σ2) := hq
  refine r_aload_n hC dL_law_457 rfl ?_
  refine r_arg hC hs (d := 1) (by omega) hL dL_law_458 dL_law_459 dL_law_460 dL_law_461 dL_law_462 ?_
  refine r_arg hC hs (d := 2) (by omega) hL dL_law_463 dL_law_464 dL_law_465 dL_law_466 dL_law_467 ?_
  refine r_arg hC hs (d := 3) (by omega) hL dL_law_468 dL_law_469 dL_law_470 dL_law_471 dL_law_472 ?_
  refine cl_XL_57 hC (c_X8_remove (kL K) hw) (⟨by rw [hR]; decide, by rw [hR]; exact ⟨by show n1 + 32 + 0 ≤ 600000; omega, by show n2 + 1072 + 0 ≤ 7302250; omega⟩⟩) (Nat.le_of_ble_eq_true rfl) dL_law_473 (fun r2 σ2 hq2 => ?_)
  obtain ⟨e9, h9⟩ := hq2
  subst e9
  exact r_icmp_eq hC dL_law_476 (by decide) (fun _ => J.widen (by omega) (by omega) (go _ h9)) (fun hz => absurd rfl hz)
set_option maxRecDepth 100000 in
set_option maxHeartbeats 4000000 in
theorem law_10 {K : JK} (hC : Cx K cL_law 4 RL) (hR : kRm K = room_1) {b L : Nat} {xs : Nat → Int32} (hs : Scr K b L xs) (hL : L ≤ 3584) {i k : Nat} {σ : St} {n1 n2 : Nat} (hi : i + 7 ≤ L) (hk : k ≤ 65536) (h : Sim k σ σ) (hn : n1 + 32 ≤ 600000 ∧ n2 + 1072 ≤ 7302250) (go : ∀ σ2, Sim (k + 1) σ2 σ2 → J K 1163 (LL i) [] σ2 (n1 + 32) (n2 + 1072)) : J K 481 (LL i) [] σ n1 n2 := by
  refine r_aload_n hC dL_law_481 rfl ?_
  refine r_arg hC hs (d := 1) (by omega) hL dL_law_482 dL_law_483 dL_law_484 dL_law_485 dL_law_486 ?_
  refine r_arg hC hs (d := 2) (by omega) hL dL_law_487 dL_law_488 dL_law_489 dL_law_490 dL_law_491 ?_
  refine r_arg hC hs (d := 3) (by omega) hL dL_law_492 dL_law_493 dL_law_494 dL_law_495 dL_law_496 ?_
  refine r_arg hC hs (d := 4) (by omega) hL dL_law_497 dL_law_498 dL_law_499 dL_law_500 dL_law_501 ?_
  refine r_arg hC hs (d := 5) (by omega) hL dL_law_502 dL_law_503 dL_law_504 dL_law_505 dL_law_506 ?_
  refine r_arg6 hC hs (by omega) hL dL_law_507 dL_law_508 dL_law_509 dL_law_511 dL_law_512 ?_
  have hw : wp_X7_own (xA xs (i + 1)) (xA xs (i + 2)) (xA xs (i + 3)) (xA xs (i + 4)) (xA xs (i + 5)) (xA xs (i + 6)) σ (fun r σ1 => wp_X8_own (xA xs (i + 1)) (xA xs (i + 2)) (xA xs (i + 3)) (xA xs (i + 4)) (xA xs (i + 5)) (xA xs (i + 6)) σ1 (fun r2 σ2 => r2 = r ∧ Sim (k + 1) σ2 σ2)) := both (wc := wp_X7_own (xA xs (i + 1)) (xA xs (i + 2)) (xA xs (i + 3)) (xA xs (i + 4)) (xA xs (i + 5)) (xA xs (i + 6)) σ) (wm := fun M => wp_X8_own (xA xs (i + 1)) (xA xs (i + 2)) (xA xs (i + 3)) (xA xs (i + 4)) (xA xs (i + 5)) (xA xs (i + 6)) M) h (fun n ls z => (op_own (nmA xs _) (nmA xs _) (nmA xs _) (nmA xs _) (nmA xs _) (nmA xs _) z).toW.mono (Nat.le_succ k))
  refine cl_XL_58 hC (c_X7_own (kL K) hw) (⟨by rw [hR]; decide, by rw [hR]; exact ⟨by show n1 + 0 ≤ 600000; omega, by show n2 + 0 ≤ 7302250; omega⟩⟩) (Nat.le_of_ble_eq_true rfl) dL_law_513 (fun r1 σ1 hq => ?_)
  have hw : wp_X8_own (xA xs (i + 1)) (xA xs (i + 2)) (xA xs (i + 3)) (xA xs (i + 4)) (xA xs (i + 5)) (xA xs (i + 6)) σ1 (fun r2 σ2 => r2 = r1 ∧ Sim (k + 1) σ2 σ2) := hq
  refine r_aload_n hC dL_law_516 rfl ?_
  refine r_arg hC hs (d := 1) (by omega) hL dL_law_517 dL_law_518 dL_law_519 dL_law_520 dL_law_521 ?_
  refine r_arg hC hs (d := 2) (by omega) hL dL_law_522 dL_law_523 dL_law_524 dL_law_525 dL_law_526 ?_
  refine r_arg hC hs (d := 3) (by omega) hL dL_law_527 dL_law_528 dL_law_529 dL_law_530 dL_law_531 ?_
  refine r_arg hC hs (d := 4) (by omega) hL dL_law_532 dL_law_533 dL_law_534 dL_law_535 dL_law_536 ?_
  refine r_arg hC hs (d := 5) (by omega) hL dL_law_537 dL_law_538 dL_law_539 dL_law_540 dL_law_541 ?_
  refine r_arg6 hC hs (by omega) hL dL_law_542 dL_law_543 dL_law_544 dL_law_546 dL_law_547 ?_
  refine cl_XL_62 hC (c_X8_own (kL K) hw) (⟨by rw [hR]; decide, by rw [hR]; exact ⟨by show n1 + 0 + 0 ≤ 600000; omega, by show n2 + 0 + 0 ≤ 7302250; omega⟩⟩) (Nat.le_of_ble_eq_true rfl) dL_law_548 (fun r2 σ2 hq2 => ?_)
  obtain ⟨e9, h9⟩ := hq2
  subst e9
  exact r_icmp_eq hC dL_law_551 (by decide) (fun _ => J.widen (by omega) (by omega) (go _ h9)) (fun hz => absurd rfl hz)
set_option maxRecDepth 100000 in
set_option maxHeartbeats 4000000 in
theorem law_11 {K : JK} (hC : Cx K cL_law 4 RL) (hR : kRm K = room_1) {b L : Nat} {xs : Nat → Int32} (hs : Scr K b L xs) (hL : L ≤ 3584) {i k : Nat} {σ : St} {n1 n2 : Nat} (hi : i + 7 ≤ L) (hk : k ≤ 65536) (h : Sim k σ σ) (hn : n1 + 32 ≤ 600000 ∧ n2 + 1072 ≤ 7302250) (go : ∀ σ2, Sim (k + 1) σ2 σ2 → J K 1163 (LL i) [] σ2 (n1 + 32) (n2 + 1072)) : J K 556 (LL i) [] σ n1 n2 := by
  refine r_aload_n hC dL_law_556 rfl ?_
  refine r_arg hC hs (d := 1) (by omega) hL dL_law_557 dL_law_558 dL_law_559 dL_law_560 dL_law_561 ?_
  refine r_arg hC hs (d := 2) (by omega) hL dL_law_562 dL_law_563 dL_law_564 dL_law_565 dL_law_566 ?_
  refine r_arg hC hs (d := 3) (by omega) hL dL_law_567 dL_law_568 dL_law_569 dL_law_570 dL_law_571 ?_
  have hw : wp_X7_room (xA xs (i + 1)) (xA xs (i + 2)) (xA xs (i + 3)) σ (fun r σ1 => wp_X8_room (xA xs (i + 1)) (xA xs (i + 2)) (xA xs (i + 3)) σ1 (fun r2 σ2 => r2 = r ∧ Sim (k + 1) σ2 σ2)) := both (wc := wp_X7_room (xA xs (i + 1)) (xA xs (i + 2)) (xA xs (i + 3)) σ) (wm := fun M => wp_X8_room (xA xs (i + 1)) (xA xs (i + 2)) (xA xs (i + 3)) M) h (fun n ls z => (op_room (nmA xs _) (nmA xs _) (nmA xs _) z).mono (Nat.le_succ k))
  refine cl_XL_63 hC (c_X7_room (kL K) hw) (⟨by rw [hR]; decide, by rw [hR]; exact ⟨by show n1 + 32 ≤ 600000; omega, by show n2 + 1072 ≤ 7302250; omega⟩⟩) (Nat.le_of_ble_eq_true rfl) dL_law_572 (fun r1 σ1 hq => ?_)
  have hw : wp_X8_room (xA xs (i + 1)) (xA xs (i + 2)) (xA xs (i + 3)) σ1 (fun r2 σ2 => r2 = r1 ∧ Sim (k + 1) σ2 σ2) := hq
  refine r_aload_n hC dL_law_575 rfl ?_
  refine r_arg hC hs (d := 1) (by omega) hL dL_law_576 dL_law_577 dL_law_578 dL_law_579 dL_law_580 ?_
  refine r_arg hC hs (d := 2) (by omega) hL dL_law_581 dL_law_582 dL_law_583 dL_law_584 dL_law_585 ?_
  refine r_arg hC hs (d := 3) (by omega) hL dL_law_586 dL_law_587 dL_law_588 dL_law_589 dL_law_590 ?_
  refine cl_XL_66 hC (c_X8_room (kL K) hw) (⟨by rw [hR]; decide, by rw [hR]; exact ⟨by show n1 + 32 + 0 ≤ 600000; omega, by show n2 + 1072 + 0 ≤ 7302250; omega⟩⟩) (Nat.le_of_ble_eq_true rfl) dL_law_591 (fun r2 σ2 hq2 => ?_)
  obtain ⟨e9, h9⟩ := hq2
  subst e9
  exact r_icmp_eq hC dL_law_594 (by decide) (fun _ => J.widen (by omega) (by omega) (go _ h9)) (fun hz => absurd rfl hz)
set_option maxRecDepth 100000 in
set_option maxHeartbeats 4000000 in
theorem law_12 {K : JK} (hC : Cx K cL_law 4 RL) (hR : kRm K = room_1) {b L : Nat} {xs : Nat → Int32} (hs : Scr K b L xs) (hL : L ≤ 3584) {i k : Nat} {σ : St} {n1 n2 : Nat} (hi : i + 7 ≤ L) (hk : k ≤ 65536) (h : Sim k σ σ) (hn : n1 + 32 ≤ 600000 ∧ n2 + 1072 ≤ 7302250) (go : ∀ σ2, Sim (k + 1) σ2 σ2 → J K 1163 (LL i) [] σ2 (n1 + 32) (n2 + 1072)) : J K 599 (LL i) [] σ n1 n2 := by
  obtain ⟨v, hv⟩ : ∃ v : Int, v = if nm (xA xs (i + 6)) = 0 then 0 else 1 := ⟨_, rfl⟩
  have hv2 : nm v = v := by rw [hv]; split <;> decide
  refine r_aload_n hC dL_law_599 rfl ?_
  refine r_arg hC hs (d := 1) (by omega) hL dL_law_600 dL_law_601 dL_law_602 dL_law_603 dL_law_604 ?_
  refine r_arg hC hs (d := 2) (by omega) hL dL_law_605 dL_law_606 dL_law_607 dL_law_608 dL_law_609 ?_
  refine r_arg hC hs (d := 3) (by omega) hL dL_law_610 dL_law_611 dL_law_612 dL_law_613 dL_law_614 ?_
  refine r_i2l hC dL_law_615 ?_
  refine r_bipush hC dL_law_616 (by decide) ?_
  refine r_lshl hC dL_law_618 ?_
  refine r_arg hC hs (d := 4) (by omega) hL dL_law_619 dL_law_620 dL_law_621 dL_law_622 dL_law_623 ?_
  refine r_i2l hC dL_law_624 ?_
  refine r_ldc2 hC (c := 4294967295) 4294967295 (wg 1136 (by decide +kernel) (by decide +kernel)) rfl dL_law_625 ?_
  refine r_land hC dL_law_628 ?_
  refine r_lor hC dL_law_629 ?_
  refine r_arg hC hs (d := 5) (by omega) hL dL_law_630 dL_law_631 dL_law_632 dL_law_633 dL_law_634 ?_
  refine r_arg6 hC hs (by omega) hL dL_law_635 dL_law_636 dL_law_637 dL_law_639 dL_law_640 ?_
  refine r_flag (tz := 648) (tc := 649) hC hv dL_law_641 (by decide) dL_law_644 dL_law_645 (by decide) dL_law_648 rfl ?_
  have hw : wp_X7_send (xA xs (i + 1)) (xA xs (i + 2)) (yor (yshl (nm (xA xs (i + 3))) 32) (yand (nm (xA xs (i + 4))) 4294967295)) (xA xs (i + 5)) v σ (fun r σ1 => wp_X8_send (xA xs (i + 1)) (xA xs (i + 2)) (yor (yshl (nm (xA xs (i + 3))) 32) (yand (nm (xA xs (i + 4))) 4294967295)) (xA xs (i + 5)) v σ1 (fun r2 σ2 => r2 = r ∧ Sim (k + 1) σ2 σ2)) := both (wc := wp_X7_send (xA xs (i + 1)) (xA xs (i + 2)) (yor (yshl (nm (xA xs (i + 3))) 32) (yand (nm (xA xs (i + 4))) 4294967295)) (xA xs (i + 5)) v σ) (wm := fun M => wp_X8_send (xA xs (i + 1)) (xA xs (i + 2)) (yor (yshl (nm (xA xs (i + 3))) 32) (yand (nm (xA xs (i + 4))) 4294967295)) (xA xs (i + 5)) v M) h (fun n ls z => op_send hk (nmA xs _) (nmA xs _) (nmT _ _) (nmA xs _) hv2 z)
  refine cl_XL_69 hC (c_X7_send (kL K) hw) (⟨by rw [hR]; decide, by rw [hR]; exact ⟨by show n1 + 2 ≤ 600000; omega, by show n2 + 67 ≤ 7302250; omega⟩⟩) (Nat.le_of_ble_eq_true rfl) dL_law_649 (fun r1 σ1 hq => ?_)
  have hw : wp_X8_send (xA xs (i + 1)) (xA xs (i + 2)) (yor (yshl (nm (xA xs (i + 3))) 32) (yand (nm (xA xs (i + 4))) 4294967295)) (xA xs (i + 5)) v σ1 (fun r2 σ2 => r2 = r1 ∧ Sim (k + 1) σ2 σ2) := hq
  refine r_aload_n hC dL_law_652 rfl ?_
  refine r_arg hC hs (d := 1) (by omega) hL dL_law_653 dL_law_654 dL_law_655 dL_law_656 dL_law_657 ?_
  refine r_arg hC hs (d := 2) (by omega) hL dL_law_658 dL_law_659 dL_law_660 dL_law_661 dL_law_662 ?_
  refine r_arg hC hs (d := 3) (by omega) hL dL_law_663 dL_law_664 dL_law_665 dL_law_666 dL_law_667 ?_
  refine r_i2l hC dL_law_668 ?_
  refine r_bipush hC dL_law_669 (by decide) ?_
  refine r_lshl hC dL_law_671 ?_
  refine r_arg hC hs (d := 4) (by omega) hL dL_law_672 dL_law_673 dL_law_674 dL_law_675 dL_law_676 ?_
  refine r_i2l hC dL_law_677 ?_
  refine r_ldc2 hC (c := 4294967295) 4294967295 (wg 1136 (by decide +kernel) (by decide +kernel)) rfl dL_law_678 ?_
  refine r_land hC dL_law_681 ?_
  refine r_lor hC dL_law_682 ?_
  refine r_arg hC hs (d := 5) (by omega) hL dL_law_683 dL_law_684 dL_law_685 dL_law_686 dL_law_687 ?_
  refine r_arg6 hC hs (by omega) hL dL_law_688 dL_law_689 dL_law_690 dL_law_692 dL_law_693 ?_
  refine r_flag (tz := 701) (tc := 702) hC hv dL_law_694 (by decide) dL_law_697 dL_law_698 (by decide) dL_law_701 rfl ?_
  refine cl_XL_73 hC (c_X8_send (kL K) hw) (⟨by rw [hR]; decide, by rw [hR]; exact ⟨by show n1 + 2 + 0 ≤ 600000; omega, by show n2 + 67 + 0 ≤ 7302250; omega⟩⟩) (Nat.le_of_ble_eq_true rfl) dL_law_702 (fun r2 σ2 hq2 => ?_)
  obtain ⟨e9, h9⟩ := hq2
  subst e9
  exact r_icmp_eq hC dL_law_705 (by decide) (fun _ => J.widen (by omega) (by omega) (go _ h9)) (fun hz => absurd rfl hz)
set_option maxRecDepth 100000 in
set_option maxHeartbeats 4000000 in
theorem law_13 {K : JK} (hC : Cx K cL_law 4 RL) (hR : kRm K = room_1) {b L : Nat} {xs : Nat → Int32} (hs : Scr K b L xs) (hL : L ≤ 3584) {i k : Nat} {σ : St} {n1 n2 : Nat} (hi : i + 7 ≤ L) (hk : k ≤ 65536) (h : Sim k σ σ) (hn : n1 + 32 ≤ 600000 ∧ n2 + 1072 ≤ 7302250) (go : ∀ σ2, Sim (k + 1) σ2 σ2 → J K 1163 (LL i) [] σ2 (n1 + 32) (n2 + 1072)) : J K 710 (LL i) [] σ n1 n2 := by
  refine r_aload_n hC dL_law_710 rfl ?_
  refine r_arg hC hs (d := 1) (by omega) hL dL_law_711 dL_law_712 dL_law_713 dL_law_714 dL_law_715 ?_
  refine r_arg hC hs (d := 2) (by omega) hL dL_law_716 dL_law_717 dL_law_718 dL_law_719 dL_law_720 ?_
  refine r_arg hC hs (d := 3) (by omega) hL dL_law_721 dL_law_722 dL_law_723 dL_law_724 dL_law_725 ?_
  refine r_arg hC hs (d := 4) (by omega) hL dL_law_726 dL_law_727 dL_law_728 dL_law_729 dL_law_730 ?_
  refine r_i2l hC dL_law_731 ?_
  refine r_bipush hC dL_law_732 (by decide) ?_
  refine r_lshl hC dL_law_734 ?_
  refine r_arg hC hs (d := 5) (by omega) hL dL_law_735 dL_law_736 dL_law_737 dL_law_738 dL_law_739 ?_
  refine r_i2l hC dL_law_740 ?_
  refine r_ldc2 hC (c := 4294967295) 4294967295 (wg 1136 (by decide +kernel) (by decide +kernel)) rfl dL_law_741 ?_
  refine r_land hC dL_law_744 ?_
  refine r_lor hC dL_law_745 ?_
  refine r_arg6 hC hs (by omega) hL dL_law_746 dL_law_747 dL_law_748 dL_law_750 dL_law_751 ?_
  have hw : wp_X7_take (xA xs (i + 1)) (xA xs (i + 2)) (xA xs (i + 3)) (yor (yshl (nm (xA xs (i + 4))) 32) (yand (nm (xA xs (i + 5))) 4294967295)) (xA xs (i + 6)) σ (fun r σ1 => wp_X8_take (xA xs (i + 1)) (xA xs (i + 2)) (xA xs (i + 3)) (yor (yshl (nm (xA xs (i + 4))) 32) (yand (nm (xA xs (i + 5))) 4294967295)) (xA xs (i + 6)) σ1 (fun r2 σ2 => r2 = r ∧ Sim (k + 1) σ2 σ2)) := both (wc := wp_X7_take (xA xs (i + 1)) (xA xs (i + 2)) (xA xs (i + 3)) (yor (yshl (nm (xA xs (i + 4))) 32) (yand (nm (xA xs (i + 5))) 4294967295)) (xA xs (i + 6)) σ) (wm := fun M => wp_X8_take (xA xs (i + 1)) (xA xs (i + 2)) (xA xs (i + 3)) (yor (yshl (nm (xA xs (i + 4))) 32) (yand (nm (xA xs (i + 5))) 4294967295)) (xA xs (i + 6)) M) h (fun n ls z => op_take hk (nmA xs _) (nmA xs _) (nmA xs _) (nmT _ _) (nmA xs _) z)
  refine cl_XL_74 hC (c_X7_take (kL K) hw) (⟨by rw [hR]; decide, by rw [hR]; exact ⟨by show n1 + 32 ≤ 600000; omega, by show n2 + 1072 ≤ 7302250; omega⟩⟩) (Nat.le_of_ble_eq_true rfl) dL_law_752 (fun r1 σ1 hq => ?_)
  have hw : wp_X8_take (xA xs (i + 1)) (xA xs (i + 2)) (xA xs (i + 3)) (yor (yshl (nm (xA xs (i + 4))) 32) (yand (nm (xA xs (i + 5))) 4294967295)) (xA xs (i + 6)) σ1 (fun r2 σ2 => r2 = r1 ∧ Sim (k + 1) σ2 σ2) := hq
  refine r_aload_n hC dL_law_755 rfl ?_
  refine r_arg hC hs (d := 1) (by omega) hL dL_law_756 dL_law_757 dL_law_758 dL_law_759 dL_law_760 ?_
  refine r_arg hC hs (d := 2) (by omega) hL dL_law_761 dL_law_762 dL_law_763 dL_law_764 dL_law_765 ?_
  refine r_arg hC hs (d := 3) (by omega) hL dL_law_766 dL_law_767 dL_law_768 dL_law_769 dL_law_770 ?_
  refine r_arg hC hs (d := 4) (by omega) hL dL_law_771 dL_law_772 dL_law_773 dL_law_774 dL_law_775 ?_
  refine r_i2l hC dL_law_776 ?_
  refine r_bipush hC dL_law_777 (by decide) ?_
  refine r_lshl hC dL_law_779 ?_
  refine r_arg hC hs (d := 5) (by omega) hL dL_law_780 dL_law_781 dL_law_782 dL_law_783 dL_law_784 ?_
  refine r_i2l hC dL_law_785 ?_
  refine r_ldc2 hC (c := 4294967295) 4294967295 (wg 1136 (by decide +kernel) (by decide +kernel)) rfl dL_law_786 ?_
  refine r_land hC dL_law_789 ?_
  refine r_lor hC dL_law_790 ?_
  refine r_arg6 hC hs (by omega) hL dL_law_791 dL_law_792 dL_law_793 dL_law_795 dL_law_796 ?_
  refine cl_XL_78 hC (c_X8_take (kL K) hw) (⟨by rw [hR]; decide, by rw [hR]; exact ⟨by show n1 + 32 + 0 ≤ 600000; omega, by show n2 + 1072 + 0 ≤ 7302250; omega⟩⟩) (Nat.le_of_ble_eq_true rfl) dL_law_797 (fun r2 σ2 hq2 => ?_)
  obtain ⟨e9, h9⟩ := hq2
  subst e9
  exact r_icmp_eq hC dL_law_800 (by decide) (fun _ => J.widen (by omega) (by omega) (go _ h9)) (fun hz => absurd rfl hz)
set_option maxRecDepth 100000 in
set_option maxHeartbeats 4000000 in
theorem law_14 {K : JK} (hC : Cx K cL_law 4 RL) (hR : kRm K = room_1) {b L : Nat} {xs : Nat → Int32} (hs : Scr K b L xs) (hL : L ≤ 3584) {i k : Nat} {σ : St} {n1 n2 : Nat} (hi : i + 7 ≤ L) (hk : k ≤ 65536) (h : Sim k σ σ) (hn : n1 + 32 ≤ 600000 ∧ n2 + 1072 ≤ 7302250) (go : ∀ σ2, Sim (k + 1) σ2 σ2 → J K 1163 (LL i) [] σ2 (n1 + 32) (n2 + 1072)) : J K 805 (LL i) [] σ n1 n2 := by
  refine r_aload_n hC dL_law_805 rfl ?_
  refine r_arg hC hs (d := 1) (by omega) hL dL_law_806 dL_law_807 dL_law_808 dL_law_809 dL_law_810 ?_
  refine r_arg hC hs (d := 2) (by omega) hL dL_law_811 dL_law_812 dL_law_813 dL_law_814 dL_law_815 ?_
  refine r_arg hC hs (d := 3) (by omega) hL dL_law_816 dL_law_817 dL_law_818 dL_law_819 dL_law_820 ?_
  refine r_arg hC hs (d := 4) (by omega) hL dL_law_821 dL_law_822 dL_law_823 dL_law_824 dL_law_825 ?_
  have hw : wp_X7_step (xA xs (i + 1)) (xA xs (i + 2)) (xA xs (i + 3)) (xA xs (i + 4)) σ (fun r σ1 => wp_X8_step (xA xs (i + 1)) (xA xs (i + 2)) (xA xs (i + 3)) (xA xs (i + 4)) σ1 (fun r2 σ2 => r2 = r ∧ Sim (k + 1) σ2 σ2)) := both (wc := wp_X7_step (xA xs (i + 1)) (xA xs (i + 2)) (xA xs (i + 3)) (xA xs (i + 4)) σ) (wm := fun M => wp_X8_step (xA xs (i + 1)) (xA xs (i + 2)) (xA xs (i + 3)) (xA xs (i + 4)) M) h (fun n ls z => (op_step (nmA xs _) (nmA xs _) (nmA xs _) (nmA xs _) z).toW.mono (Nat.le_succ k))
  refine cl_XL_79 hC (c_X7_step (kL K) hw) (⟨by rw [hR]; decide, by rw [hR]; exact ⟨by show n1 + 0 ≤ 600000; omega, by show n2 + 0 ≤ 7302250; omega⟩⟩) (Nat.le_of_ble_eq_true rfl) dL_law_826 (fun r1 σ1 hq => ?_)
  have hw : wp_X8_step (xA xs (i + 1)) (xA xs (i + 2)) (xA xs (i + 3)) (xA xs (i + 4)) σ1 (fun r2 σ2 => r2 = r1 ∧ Sim (k + 1) σ2 σ2) := hq
  refine r_aload_n hC dL_law_829 rfl ?_
  refine r_arg hC hs (d := 1) (by omega) hL dL_law_830 dL_law_831 dL_law_832 dL_law_833 dL_law_834 ?_
  refine r_arg hC hs (d := 2) (by omega) hL dL_law_835 dL_law_836 dL_law_837 dL_law_838 dL_law_839 ?_
  refine r_arg hC hs (d := 3) (by omega) hL dL_law_840 dL_law_841 dL_law_842 dL_law_843 dL_law_844 ?_
  refine r_arg hC hs (d := 4) (by omega) hL dL_law_845 dL_law_846 dL_law_847 dL_law_848 dL_law_849 ?_
  refine cl_XL_82 hC (c_X8_step (kL K) hw) (⟨by rw [hR]; decide, by rw [hR]; exact ⟨by show n1 + 0 + 0 ≤ 600000; omega, by show n2 + 0 + 0 ≤ 7302250; omega⟩⟩) (Nat.le_of_ble_eq_true rfl) dL_law_850 (fun r2 σ2 hq2 => ?_)
  obtain ⟨e9, h9⟩ := hq2
  subst e9
  exact r_icmp_eq hC dL_law_853 (by decide) (fun _ => J.widen (by omega) (by omega) (go _ h9)) (fun hz => absurd rfl hz)
set_option maxRecDepth 100000 in
set_option maxHeartbeats 4000000 in
theorem law_15 {K : JK} (hC : Cx K cL_law 4 RL) (hR : kRm K = room_1) {b L : Nat} {xs : Nat → Int32} (hs : Scr K b L xs) (hL : L ≤ 3584) {i k : Nat} {σ : St} {n1 n2 : Nat} (hi : i + 7 ≤ L) (hk : k ≤ 65536) (h : Sim k σ σ) (hn : n1 + 32 ≤ 600000 ∧ n2 + 1072 ≤ 7302250) (go : ∀ σ2, Sim (k + 1) σ2 σ2 → J K 1163 (LL i) [] σ2 (n1 + 32) (n2 + 1072)) : J K 858 (LL i) [] σ n1 n2 := by
  refine r_aload_n hC dL_law_858 rfl ?_
  refine r_arg hC hs (d := 1) (by omega) hL dL_law_859 dL_law_860 dL_law_861 dL_law_862 dL_law_863 ?_
  refine r_arg hC hs (d := 2) (by omega) hL dL_law_864 dL_law_865 dL_law_866 dL_law_867 dL_law_868 ?_
  have hw : wp_X7_steps (xA xs (i + 1)) (xA xs (i + 2)) σ (fun r σ1 => wp_X8_steps (xA xs (i + 1)) (xA xs (i + 2)) σ1 (fun r2 σ2 => r2 = r ∧ Sim (k + 1) σ2 σ2)) := both (wc := wp_X7_steps (xA xs (i + 1)) (xA xs (i + 2)) σ) (wm := fun M => wp_X8_steps (xA xs (i + 1)) (xA xs (i + 2)) M) h (fun n ls z => op_steps hk (nmA xs _) (nmA xs _) z)
  refine cl_XL_83 hC (c_X7_steps (kL K) hw) (⟨by rw [hR]; decide, by rw [hR]; exact ⟨by show n1 + 0 ≤ 600000; omega, by show n2 + 0 ≤ 7302250; omega⟩⟩) (Nat.le_of_ble_eq_true rfl) dL_law_869 (fun r1 σ1 hq => ?_)
  have hw : wp_X8_steps (xA xs (i + 1)) (xA xs (i + 2)) σ1 (fun r2 σ2 => r2 = r1 ∧ Sim (k + 1) σ2 σ2) := hq
  refine r_aload_n hC dL_law_872 rfl ?_
  refine r_arg hC hs (d := 1) (by omega) hL dL_law_873 dL_law_874 dL_law_875 dL_law_876 dL_law_877 ?_
  refine r_arg hC hs (d := 2) (by omega) hL dL_law_878 dL_law_879 dL_law_880 dL_law_881 dL_law_882 ?_
  refine cl_XL_86 hC (c_X8_steps (kL K) hw) (⟨by rw [hR]; decide, by rw [hR]; exact ⟨by show n1 + 0 + 0 ≤ 600000; omega, by show n2 + 0 + 0 ≤ 7302250; omega⟩⟩) (Nat.le_of_ble_eq_true rfl) dL_law_883 (fun r2 σ2 hq2 => ?_)
  obtain ⟨e9, h9⟩ := hq2
  subst e9
  exact r_icmp_eq hC dL_law_886 (by decide) (fun _ => J.widen (by omega) (by omega) (go _ h9)) (fun hz => absurd rfl hz)
set_option maxRecDepth 100000 in
set_option maxHeartbeats 4000000 in
theorem law_16 {K : JK} (hC : Cx K cL_law 4 RL) (hR : kRm K = room_1) {b L : Nat} {xs : Nat → Int32} (hs : Scr K b L xs) (hL : L ≤ 3584) {i k : Nat} {σ : St} {n1 n2 : Nat} (hi : i + 7 ≤ L) (hk : k ≤ 65536) (h : Sim k σ σ) (hn : n1 + 32 ≤ 600000 ∧ n2 + 1072 ≤ 7302250) (go : ∀ σ2, Sim (k + 1) σ2 σ2 → J K 1163 (LL i) [] σ2 (n1 + 32) (n2 + 1072)) : J K 891 (LL i) [] σ n1 n2 := by
  refine r_aload_n hC dL_law_891 rfl ?_
  refine r_arg hC hs (d := 1) (by omega) hL dL_law_892 dL_law_893 dL_law_894 dL_law_895 dL_law_896 ?_
  refine r_arg hC hs (d := 2) (by omega) hL dL_law_897 dL_law_898 dL_law_899 dL_law_900 dL_law_901 ?_
  refine r_arg hC hs (d := 3) (by omega) hL dL_law_902 dL_law_903 dL_law_904 dL_law_905 dL_law_906 ?_
  refine r_arg hC hs (d := 4) (by omega) hL dL_law_907 dL_law_908 dL_law_909 dL_law_910 dL_law_911 ?_
  have hw : wp_X7_value (xA xs (i + 1)) (xA xs (i + 2)) (xA xs (i + 3)) (xA xs (i + 4)) σ (fun r σ1 => wp_X8_value (xA xs (i + 1)) (xA xs (i + 2)) (xA xs (i + 3)) (xA xs (i + 4)) σ1 (fun r2 σ2 => r2 = r ∧ Sim (k + 1) σ2 σ2)) := both (wc := wp_X7_value (xA xs (i + 1)) (xA xs (i + 2)) (xA xs (i + 3)) (xA xs (i + 4)) σ) (wm := fun M => wp_X8_value (xA xs (i + 1)) (xA xs (i + 2)) (xA xs (i + 3)) (xA xs (i + 4)) M) h (fun n ls z => (op_value (nmA xs _) (nmA xs _) (nmA xs _) (nmA xs _) z).mono (Nat.le_succ k))
  refine cl_XL_87 hC (c_X7_value (kL K) hw) (⟨by rw [hR]; decide, by rw [hR]; exact ⟨by show n1 + 0 ≤ 600000; omega, by show n2 + 0 ≤ 7302250; omega⟩⟩) (Nat.le_of_ble_eq_true rfl) dL_law_912 (fun r1 σ1 hq => ?_)
  have hw : wp_X8_value (xA xs (i + 1)) (xA xs (i + 2)) (xA xs (i + 3)) (xA xs (i + 4)) σ1 (fun r2 σ2 => r2 = r1 ∧ Sim (k + 1) σ2 σ2) := hq
  refine r_aload_n hC dL_law_915 rfl ?_
  refine r_arg hC hs (d := 1) (by omega) hL dL_law_916 dL_law_917 dL_law_918 dL_law_919 dL_law_920 ?_
  refine r_arg hC hs (d := 2) (by omega) hL dL_law_921 dL_law_922 dL_law_923 dL_law_924 dL_law_925 ?_
  refine r_arg hC hs (d := 3) (by omega) hL dL_law_926 dL_law_927 dL_law_928 dL_law_929 dL_law_930 ?_
  refine r_arg hC hs (d := 4) (by omega) hL dL_law_931 dL_law_932 dL_law_933 dL_law_934 dL_law_935 ?_
  refine cl_XL_90 hC (c_X8_value (kL K) hw) (⟨by rw [hR]; decide, by rw [hR]; exact ⟨by show n1 + 0 + 0 ≤ 600000; omega, by show n2 + 0 + 0 ≤ 7302250; omega⟩⟩) (Nat.le_of_ble_eq_true rfl) dL_law_936 (fun r2 σ2 hq2 => ?_)
  obtain ⟨e9, h9⟩ := hq2
  subst e9
  exact r_icmp_eq hC dL_law_939 (by decide) (fun _ => J.widen (by omega) (by omega) (go _ h9)) (fun hz => absurd rfl hz)
set_option maxRecDepth 100000 in
set_option maxHeartbeats 4000000 in
theorem law_17 {K : JK} (hC : Cx K cL_law 4 RL) (hR : kRm K = room_1) {b L : Nat} {xs : Nat → Int32} (hs : Scr K b L xs) (hL : L ≤ 3584) {i k : Nat} {σ : St} {n1 n2 : Nat} (hi : i + 7 ≤ L) (hk : k ≤ 65536) (h : Sim k σ σ) (hn : n1 + 32 ≤ 600000 ∧ n2 + 1072 ≤ 7302250) (go : ∀ σ2, Sim (k + 1) σ2 σ2 → J K 1163 (LL i) [] σ2 (n1 + 32) (n2 + 1072)) : J K 944 (LL i) [] σ n1 n2 := by
  refine r_aload_n hC dL_law_944 rfl ?_
  refine r_arg hC hs (d := 1) (by omega) hL dL_law_945 dL_law_946 dL_law_947 dL_law_948 dL_law_949 ?_
  refine r_arg hC hs (d := 2) (by omega) hL dL_law_950 dL_law_951 dL_law_952 dL_law_953 dL_law_954 ?_
  have hw : wp_X7_queueOf (xA xs (i + 1)) (xA xs (i + 2)) σ (fun r σ1 => wp_X8_queueOf (xA xs (i + 1)) (xA xs (i + 2)) σ1 (fun r2 σ2 => r2 = r ∧ Sim (k + 1) σ2 σ2)) := both (wc := wp_X7_queueOf (xA xs (i + 1)) (xA xs (i + 2)) σ) (wm := fun M => wp_X8_queueOf (xA xs (i + 1)) (xA xs (i + 2)) M) h (fun n ls z => (op_queueOf (nmA xs _) (nmA xs _) z).toW.mono (Nat.le_succ k))
  refine cl_XL_91 hC (c_X7_queueOf (kL K) hw) (⟨by rw [hR]; decide, by rw [hR]; exact ⟨by show n1 + 0 ≤ 600000; omega, by show n2 + 0 ≤ 7302250; omega⟩⟩) (Nat.le_of_ble_eq_true rfl) dL_law_955 (fun r1 σ1 hq => ?_)
  have hw : wp_X8_queueOf (xA xs (i + 1)) (xA xs (i + 2)) σ1 (fun r2 σ2 => r2 = r1 ∧ Sim (k + 1) σ2 σ2) := hq
  refine r_aload_n hC dL_law_958 rfl ?_
  refine r_arg hC hs (d := 1) (by omega) hL dL_law_959 dL_law_960 dL_law_961 dL_law_962 dL_law_963 ?_
  refine r_arg hC hs (d := 2) (by omega) hL dL_law_964 dL_law_965 dL_law_966 dL_law_967 dL_law_968 ?_
  refine cl_XL_94 hC (c_X8_queueOf (kL K) hw) (⟨by rw [hR]; decide, by rw [hR]; exact ⟨by show n1 + 0 + 0 ≤ 600000; omega, by show n2 + 0 + 0 ≤ 7302250; omega⟩⟩) (Nat.le_of_ble_eq_true rfl) dL_law_969 (fun r2 σ2 hq2 => ?_)
  obtain ⟨e9, h9⟩ := hq2
  subst e9
  exact r_icmp_eq hC dL_law_972 (by decide) (fun _ => J.widen (by omega) (by omega) (go _ h9)) (fun hz => absurd rfl hz)
set_option maxRecDepth 100000 in
set_option maxHeartbeats 4000000 in
theorem law_18 {K : JK} (hC : Cx K cL_law 4 RL) (hR : kRm K = room_1) {b L : Nat} {xs : Nat → Int32} (hs : Scr K b L xs) (hL : L ≤ 3584) {i k : Nat} {σ : St} {n1 n2 : Nat} (hi : i + 7 ≤ L) (hk : k ≤ 65536) (h : Sim k σ σ) (hn : n1 + 32 ≤ 600000 ∧ n2 + 1072 ≤ 7302250) (go : ∀ σ2, Sim (k + 1) σ2 σ2 → J K 1163 (LL i) [] σ2 (n1 + 32) (n2 + 1072)) : J K 977 (LL i) [] σ n1 n2 := by
  refine r_aload_n hC dL_law_977 rfl ?_
  refine r_arg hC hs (d := 1) (by omega) hL dL_law_978 dL_law_979 dL_law_980 dL_law_981 dL_law_982 ?_
  refine r_arg hC hs (d := 2) (by omega) hL dL_law_983 dL_law_984 dL_law_985 dL_law_986 dL_law_987 ?_
  refine r_arg hC hs (d := 3) (by omega) hL dL_law_988 dL_law_989 dL_law_990 dL_law_991 dL_law_992 ?_
  have hw : wp_X7_message (xA xs (i + 1)) (xA xs (i + 2)) (xA xs (i + 3)) σ (fun r σ1 => wp_X8_message (xA xs (i + 1)) (xA xs (i + 2)) (xA xs (i + 3)) σ1 (fun r2 σ2 => r2 = r ∧ Sim (k + 1) σ2 σ2)) := both (wc := wp_X7_message (xA xs (i + 1)) (xA xs (i + 2)) (xA xs (i + 3)) σ) (wm := fun M => wp_X8_message (xA xs (i + 1)) (xA xs (i + 2)) (xA xs (i + 3)) M) h (fun n ls z => (op_message (nmA xs _) (nmA xs _) (nmA xs _) z).toW.mono (Nat.le_succ k))
  refine cl_XL_95 hC (c_X7_message (kL K) hw) (⟨by rw [hR]; decide, by rw [hR]; exact ⟨by show n1 + 0 ≤ 600000; omega, by show n2 + 0 ≤ 7302250; omega⟩⟩) (Nat.le_of_ble_eq_true rfl) dL_law_993 (fun r1 σ1 hq => ?_)
  have hw : wp_X8_message (xA xs (i + 1)) (xA xs (i + 2)) (xA xs (i + 3)) σ1 (fun r2 σ2 => r2 = r1 ∧ Sim (k + 1) σ2 σ2) := hq
  refine r_aload_n hC dL_law_996 rfl ?_
  refine r_arg hC hs (d := 1) (by omega) hL dL_law_997 dL_law_998 dL_law_999 dL_law_1000 dL_law_1001 ?_
  refine r_arg hC hs (d := 2) (by omega) hL dL_law_1002 dL_law_1003 dL_law_1004 dL_law_1005 dL_law_1006 ?_
  refine r_arg hC hs (d := 3) (by omega) hL dL_law_1007 dL_law_1008 dL_law_1009 dL_law_1010 dL_law_1011 ?_
  refine cl_XL_99 hC (c_X8_message (kL K) hw) (⟨by rw [hR]; decide, by rw [hR]; exact ⟨by show n1 + 0 + 0 ≤ 600000; omega, by show n2 + 0 + 0 ≤ 7302250; omega⟩⟩) (Nat.le_of_ble_eq_true rfl) dL_law_1012 (fun r2 σ2 hq2 => ?_)
  obtain ⟨e9, h9⟩ := hq2
  subst e9
  refine r_lcmp hC dL_law_1015 ?_
  exact r_if_eq hC dL_law_1016 (by decide) (fun _ => J.widen (by omega) (by omega) (go _ h9)) (fun hz => absurd (lcm_rf _) hz)
set_option maxRecDepth 100000 in
set_option maxHeartbeats 4000000 in
theorem law_19 {K : JK} (hC : Cx K cL_law 4 RL) (hR : kRm K = room_1) {b L : Nat} {xs : Nat → Int32} (hs : Scr K b L xs) (hL : L ≤ 3584) {i k : Nat} {σ : St} {n1 n2 : Nat} (hi : i + 7 ≤ L) (hk : k ≤ 65536) (h : Sim k σ σ) (hn : n1 + 32 ≤ 600000 ∧ n2 + 1072 ≤ 7302250) (go : ∀ σ2, Sim (k + 1) σ2 σ2 → J K 1163 (LL i) [] σ2 (n1 + 32) (n2 + 1072)) : J K 1021 (LL i) [] σ n1 n2 := by
  refine r_aload_n hC dL_law_1021 rfl ?_
  refine r_arg hC hs (d := 1) (by omega) hL dL_law_1022 dL_law_1023 dL_law_1024 dL_law_1025 dL_law_1026 ?_
  refine r_arg hC hs (d := 2) (by omega) hL dL_law_1027 dL_law_1028 dL_law_1029 dL_law_1030 dL_law_1031 ?_
  have hw : wp_X7_setOf (xA xs (i + 1)) (xA xs (i + 2)) σ (fun r σ1 => wp_X8_setOf (xA xs (i + 1)) (xA xs (i + 2)) σ1 (fun r2 σ2 => r2 = r ∧ Sim (k + 1) σ2 σ2)) := both (wc := wp_X7_setOf (xA xs (i + 1)) (xA xs (i + 2)) σ) (wm := fun M => wp_X8_setOf (xA xs (i + 1)) (xA xs (i + 2)) M) h (fun n ls z => (op_setOf (nmA xs _) (nmA xs _) z).toW.mono (Nat.le_succ k))
  refine cl_XL_100 hC (c_X7_setOf (kL K) hw) (⟨by rw [hR]; decide, by rw [hR]; exact ⟨by show n1 + 0 ≤ 600000; omega, by show n2 + 0 ≤ 7302250; omega⟩⟩) (Nat.le_of_ble_eq_true rfl) dL_law_1032 (fun r1 σ1 hq => ?_)
  have hw : wp_X8_setOf (xA xs (i + 1)) (xA xs (i + 2)) σ1 (fun r2 σ2 => r2 = r1 ∧ Sim (k + 1) σ2 σ2) := hq
  refine r_aload_n hC dL_law_1035 rfl ?_
  refine r_arg hC hs (d := 1) (by omega) hL dL_law_1036 dL_law_1037 dL_law_1038 dL_law_1039 dL_law_1040 ?_
  refine r_arg hC hs (d := 2) (by omega) hL dL_law_1041 dL_law_1042 dL_law_1043 dL_law_1044 dL_law_1045 ?_
  refine cl_XL_103 hC (c_X8_setOf (kL K) hw) (⟨by rw [hR]; decide, by rw [hR]; exact ⟨by show n1 + 0 + 0 ≤ 600000; omega, by show n2 + 0 + 0 ≤ 7302250; omega⟩⟩) (Nat.le_of_ble_eq_true rfl) dL_law_1046 (fun r2 σ2 hq2 => ?_)
  obtain ⟨e9, h9⟩ := hq2
  subst e9
  exact r_icmp_eq hC dL_law_1049 (by decide) (fun _ => J.widen (by omega) (by omega) (go _ h9)) (fun hz => absurd rfl hz)
set_option maxRecDepth 100000 in
set_option maxHeartbeats 4000000 in
theorem law_20 {K : JK} (hC : Cx K cL_law 4 RL) (hR : kRm K = room_1) {b L : Nat} {xs : Nat → Int32} (hs : Scr K b L xs) (hL : L ≤ 3584) {i k : Nat} {σ : St} {n1 n2 : Nat} (hi : i + 7 ≤ L) (hk : k ≤ 65536) (h : Sim k σ σ) (hn : n1 + 32 ≤ 600000 ∧ n2 + 1072 ≤ 7302250) (go : ∀ σ2, Sim (k + 1) σ2 σ2 → J K 1163 (LL i) [] σ2 (n1 + 32) (n2 + 1072)) : J K 1054 (LL i) [] σ n1 n2 := by
  refine r_aload_n hC dL_law_1054 rfl ?_
  refine r_arg hC hs (d := 1) (by omega) hL dL_law_1055 dL_law_1056 dL_law_1057 dL_law_1058 dL_law_1059 ?_
  refine r_arg hC hs (d := 2) (by omega) hL dL_law_1060 dL_law_1061 dL_law_1062 dL_law_1063 dL_law_1064 ?_
  refine r_arg hC hs (d := 3) (by omega) hL dL_law_1065 dL_law_1066 dL_law_1067 dL_law_1068 dL_law_1069 ?_
  have hw : wp_X7_counter (xA xs (i + 1)) (xA xs (i + 2)) (xA xs (i + 3)) σ (fun r σ1 => wp_X8_counter (xA xs (i + 1)) (xA xs (i + 2)) (xA xs (i + 3)) σ1 (fun r2 σ2 => r2 = r ∧ Sim (k + 1) σ2 σ2)) := both (wc := wp_X7_counter (xA xs (i + 1)) (xA xs (i + 2)) (xA xs (i + 3)) σ) (wm := fun M => wp_X8_counter (xA xs (i + 1)) (xA xs (i + 2)) (xA xs (i + 3)) M) h (fun n ls z => (op_counter (nmA xs _) (nmA xs _) (nmA xs _) z).toW.mono (Nat.le_succ k))
  refine cl_XL_104 hC (c_X7_counter (kL K) hw) (⟨by rw [hR]; decide, by rw [hR]; exact ⟨by show n1 + 0 ≤ 600000; omega, by show n2 + 0 ≤ 7302250; omega⟩⟩) (Nat.le_of_ble_eq_true rfl) dL_law_1070 (fun r1 σ1 hq => ?_)
  have hw : wp_X8_counter (xA xs (i + 1)) (xA xs (i + 2)) (xA xs (i + 3)) σ1 (fun r2 σ2 => r2 = r1 ∧ Sim (k + 1) σ2 σ2) := hq
  refine r_aload_n hC dL_law_1073 rfl ?_
  refine r_arg hC hs (d := 1) (by omega) hL dL_law_1074 dL_law_1075 dL_law_1076 dL_law_1077 dL_law_1078 ?_
  refine r_arg hC hs (d := 2) (by omega) hL dL_law_1079 dL_law_1080 dL_law_1081 dL_law_1082 dL_law_1083 ?_
  refine r_arg hC hs (d := 3) (by omega) hL dL_law_1084 dL_law_1085 dL_law_1086 dL_law_1087 dL_law_1088 ?_
  refine cl_XL_107 hC (c_X8_counter (kL K) hw) (⟨by rw [hR]; decide, by rw [hR]; exact ⟨by show n1 + 0 + 0 ≤ 600000; omega, by show n2 + 0 + 0 ≤ 7302250; omega⟩⟩) (Nat.le_of_ble_eq_true rfl) dL_law_1089 (fun r2 σ2 hq2 => ?_)
  obtain ⟨e9, h9⟩ := hq2
  subst e9
  exact r_icmp_eq hC dL_law_1092 (by decide) (fun _ => J.widen (by omega) (by omega) (go _ h9)) (fun hz => absurd rfl hz)
set_option maxRecDepth 100000 in
set_option maxHeartbeats 4000000 in
theorem law_21 {K : JK} (hC : Cx K cL_law 4 RL) (hR : kRm K = room_1) {b L : Nat} {xs : Nat → Int32} (hs : Scr K b L xs) (hL : L ≤ 3584) {i k : Nat} {σ : St} {n1 n2 : Nat} (hi : i + 7 ≤ L) (hk : k ≤ 65536) (h : Sim k σ σ) (hn : n1 + 32 ≤ 600000 ∧ n2 + 1072 ≤ 7302250) (go : ∀ σ2, Sim (k + 1) σ2 σ2 → J K 1163 (LL i) [] σ2 (n1 + 32) (n2 + 1072)) : J K 1097 (LL i) [] σ n1 n2 := by
  refine r_aload_n hC dL_law_1097 rfl ?_
  refine r_arg hC hs (d := 1) (by omega) hL dL_law_1098 dL_law_1099 dL_law_1100 dL_law_1101 dL_law_1102 ?_
  refine r_arg hC hs (d := 2) (by omega) hL dL_law_1103 dL_law_1104 dL_law_1105 dL_law_1106 dL_law_1107 ?_
  refine r_arg hC hs (d := 3) (by omega) hL dL_law_1108 dL_law_1109 dL_law_1110 dL_law_1111 dL_law_1112 ?_
  have hw : wp_X7_undo (xA xs (i + 1)) (xA xs (i + 2)) (xA xs (i + 3)) σ (fun r σ1 => wp_X8_undo (xA xs (i + 1)) (xA xs (i + 2)) (xA xs (i + 3)) σ1 (fun r2 σ2 => r2 = r ∧ Sim (k + 1) σ2 σ2)) := both (wc := wp_X7_undo (xA xs (i + 1)) (xA xs (i + 2)) (xA xs (i + 3)) σ) (wm := fun M => wp_X8_undo (xA xs (i + 1)) (xA xs (i + 2)) (xA xs (i + 3)) M) h (fun n ls z => (op_undo (nmA xs _) (nmA xs _) (nmA xs _) z).toW.mono (Nat.le_succ k))
  refine cl_XL_108 hC (c_X7_undo (kL K) hw) (⟨by rw [hR]; decide, by rw [hR]; exact ⟨by show n1 + 0 ≤ 600000; omega, by show n2 + 0 ≤ 7302250; omega⟩⟩) (Nat.le_of_ble_eq_true rfl) dL_law_1113 (fun r1 σ1 hq => ?_)
  have hw : wp_X8_undo (xA xs (i + 1)) (xA xs (i + 2)) (xA xs (i + 3)) σ1 (fun r2 σ2 => r2 = r1 ∧ Sim (k + 1) σ2 σ2) := hq
  refine r_aload_n hC dL_law_1116 rfl ?_
  refine r_arg hC hs (d := 1) (by omega) hL dL_law_1117 dL_law_1118 dL_law_1119 dL_law_1120 dL_law_1121 ?_
  refine r_arg hC hs (d := 2) (by omega) hL dL_law_1122 dL_law_1123 dL_law_1124 dL_law_1125 dL_law_1126 ?_
  refine r_arg hC hs (d := 3) (by omega) hL dL_law_1127 dL_law_1128 dL_law_1129 dL_law_1130 dL_law_1131 ?_
  refine cl_XL_111 hC (c_X8_undo (kL K) hw) (⟨by rw [hR]; decide, by rw [hR]; exact ⟨by show n1 + 0 + 0 ≤ 600000; omega, by show n2 + 0 + 0 ≤ 7302250; omega⟩⟩) (Nat.le_of_ble_eq_true rfl) dL_law_1132 (fun r2 σ2 hq2 => ?_)
  obtain ⟨e9, h9⟩ := hq2
  subst e9
  exact r_icmp_eq hC dL_law_1135 (by decide) (fun _ => J.widen (by omega) (by omega) (go _ h9)) (fun hz => absurd rfl hz)
set_option maxRecDepth 100000 in
set_option maxHeartbeats 4000000 in
theorem law_22 {K : JK} (hC : Cx K cL_law 4 RL) (hR : kRm K = room_1) {b L : Nat} {xs : Nat → Int32} (hs : Scr K b L xs) (hL : L ≤ 3584) {i k : Nat} {σ : St} {n1 n2 : Nat} (hi : i + 7 ≤ L) (hk : k ≤ 65536) (h : Sim k σ σ) (hn : n1 + 32 ≤ 600000 ∧ n2 + 1072 ≤ 7302250) (go : ∀ σ2, Sim (k + 1) σ2 σ2 → J K 1163 (LL i) [] σ2 (n1 + 32) (n2 + 1072)) : J K 1140 (LL i) [] σ n1 n2 := by
  refine r_aload_n hC dL_law_1140 rfl ?_
  refine r_arg hC hs (d := 1) (by omega) hL dL_law_1141 dL_law_1142 dL_law_1143 dL_law_1144 dL_law_1145 ?_
  have hw : wp_X7_count (xA xs (i + 1)) σ (fun r σ1 => wp_X8_count (xA xs (i + 1)) σ1 (fun r2 σ2 => r2 = r ∧ Sim (k + 1) σ2 σ2)) := both (wc := wp_X7_count (xA xs (i + 1)) σ) (wm := fun M => wp_X8_count (xA xs (i + 1)) M) h (fun n ls z => (op_count (nmA xs _) z).toW.mono (Nat.le_succ k))
  refine cl_XL_112 hC (c_X7_count (kL K) hw) (⟨by rw [hR]; decide, by rw [hR]; exact ⟨by show n1 + 0 ≤ 600000; omega, by show n2 + 0 ≤ 7302250; omega⟩⟩) (Nat.le_of_ble_eq_true rfl) dL_law_1146 (fun r1 σ1 hq => ?_)
  have hw : wp_X8_count (xA xs (i + 1)) σ1 (fun r2 σ2 => r2 = r1 ∧ Sim (k + 1) σ2 σ2) := hq
  refine r_aload_n hC dL_law_1149 rfl ?_
  refine r_arg hC hs (d := 1) (by omega) hL dL_law_1150 dL_law_1151 dL_law_1152 dL_law_1153 dL_law_1154 ?_
  refine cl_XL_115 hC (c_X8_count (kL K) hw) (⟨by rw [hR]; decide, by rw [hR]; exact ⟨by show n1 + 0 + 0 ≤ 600000; omega, by show n2 + 0 + 0 ≤ 7302250; omega⟩⟩) (Nat.le_of_ble_eq_true rfl) dL_law_1155 (fun r2 σ2 hq2 => ?_)
  obtain ⟨e9, h9⟩ := hq2
  subst e9
  exact r_icmp_eq hC dL_law_1158 (by decide) (fun _ => J.widen (by omega) (by omega) (go _ h9)) (fun hz => absurd rfl hz)
