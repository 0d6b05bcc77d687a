/-! the law's loop (printed by wip/whole/gen/mk_law.py) -/
theorem HQc.mono {E : HEn} {Q Q' : Option Value → HIh → Prop} (h : ∀ v I, Q v I → Q' v I) {a : Array Value} {s t : State} {oc : Outcome} (q : HQc E Q a s oc t) : HQc E Q' a s oc t := by
  obtain ⟨⟨v, I', h1, h2, h3⟩, h4⟩ := q
  exact ⟨⟨v, I', h1, h v I' h2, h3⟩, h4⟩
theorem HCall.mono {E : HEn} {me : HMe} {d : Nat} {as : List Value} {I : HIh} {Q Q' : Option Value → HIh → Prop} (q : HCall E me d as I Q) (h : ∀ v I, Q v I → Q' v I) : HCall E me d as I Q' := by
  intro p e ha hc hk s m args below hf hap hP hT
  obtain ⟨n, oc, h1, h2, h3, h4, h5⟩ := q p e ha hc hk s m args below hf hap hP hT
  exact ⟨n, oc, h1, h2, h3, HQc.mono h h4, h5⟩
def lawF (s0 : State) : HFx := (room_1, 600000, 7302250, (fun s' q => s' = s0 ∧ s0.heap.size ≤ q), fun below a s' => lw_Z below a s')
theorem cat_opt (v : Option Value) : ((v.toList ++ []).map (fun v : Value => v.category)).sum ≤ 8 := by
  cases v with
  | none => exact Nat.zero_le _
  | some x => cases x <;> exact Nat.le_of_ble_eq_true rfl
theorem law_rm (s0 : State) {me' : HMe} (h : me'.2.2.1 ≤ 41) : HRm (lawF s0) 70 me' := by
  refine ⟨⟨Nat.le_of_ble_eq_true rfl, ?_⟩, Nat.le_refl _, Nat.le_refl _⟩
  show 8 + (me'.2.2.1 + 11) + 60 * 70 ≤ 84000
  omega
section LAW
variable {E : HEn} {s0 : State} {b L : Nat} {xs : Nat → Int32} {Lc : List (Nat × Value)} {st : List Value} {I : HIh} {pc : Nat}
theorem h_script (hX : va_X b L xs s0 s0.heap) (hb : b < s0.heap.size) (eb : E.2.2.2 4000 = b) (hL : L ≤ 256) {k : Nat} (hk : k < L) (hd : decode me_L_law.2.1 pc = .ok (.iaload, 1)) (h : HGo E (lawF s0) me_L_law (pc + 1) Lc (.int (xs k) :: st) I) : HGo E (lawF s0) me_L_law pc Lc (.int (nI k) :: .ref 4000 :: st) I := by
  intro p e s m args below meth c H locs ls C hP hS hl
  have es : s = s0 := (C.2.2.2.2.2.2.2.2.2.2.2 0 (by decide)).1
  subst es
  have G := h p e s m args below meth c H locs ls C hP hS hl
  have e1 : (nI k).toNatClampNeg = k := nI_clamp (by omega)
  have := va_sld (A := (lawF s).2.2.2.1 s) (i := nI k) (rest := st.map (lif E)) C.1 C.2.1 hX hb (fun hA => by have := hA.2; omega) hS (vp_in_nI hk (by omega)) hd (by rw [e1]; exact G)
  rw [← eb] at this
  exact this
theorem h_slen (hX : va_X b L xs s0 s0.heap) (hb : b < s0.heap.size) (eb : E.2.2.2 4000 = b) (hd : decode me_L_law.2.1 pc = .ok (.arraylength, 1)) (h : HGo E (lawF s0) me_L_law (pc + 1) Lc (.int (nI L) :: st) I) : HGo E (lawF s0) me_L_law pc Lc (.ref 4000 :: st) I := by
  intro p e s m args below meth c H locs ls C hP hS hl
  have es : s = s0 := (C.2.2.2.2.2.2.2.2.2.2.2 0 (by decide)).1
  subst es
  have := va_slen (A := (lawF s).2.2.2.1 s) (rest := st.map (lif E)) C.1 C.2.1 hX hb (fun hA => by have := hA.2; omega) hS hd (h p e s m args below meth c H locs ls C hP hS hl)
  rw [← eb] at this
  exact this
theorem h_lend (hd : decode code pc = .ok (.ireturn, 1)) : HGo E (lawF s0) me_L_law pc Lc [.int 1] I := by
  intro p e s m args below meth c H locs ls C hP hS hl
  have es : s = s0 := (C.2.2.2.2.2.2.2.2.2.2.2 0 (by decide)).1
  subst es
  exact va_forget (fun q hq => (hS.2.2 q hq).2) (lw_retA C.1 C.2.1 C.2.2.1 C.2.2.2.2.2.2.1 hd)

theorem lw_c0 (hX : va_X b L xs s0 s0.heap) (hb : b < s0.heap.size) (eb : E.2.2.2 4000 = b) (hL : L ≤ 256) {j : Nat} (hj : j + 4 ≤ L) (hr : Rel I) (K : ∀ J, Rel J → HGo E (lawF s0) me_L_law 814 [(3, .int (nI j)), (2, .ref 87), (1, .ref 0), (0, .ref 4000)] [] J) : HGo E (lawF s0) me_L_law 148 [(3, .int (nI j)), (2, .ref 87), (1, .ref 0), (0, .ref 4000)] [] I := by
  have kk1 : nI j + 1 = nI (j + 1) := nI_1 j
  have kk2 : nI j + 2 = nI (j + 2) := by rw [show (2 : Int32) = nI 2 from rfl, nI_add]
  have kk3 : nI j + 3 = nI (j + 3) := by rw [show (3 : Int32) = nI 3 from rfl, nI_add]
  refine h_aload_n dL_law_148 rfl 2 rfl ?_
  refine h_aload_n dL_law_149 rfl 3 rfl ?_
  refine h_iload_n dL_law_150 rfl 0 rfl ?_
  refine h_iconst (v := 1) dL_law_151 (by decide) ?_
  refine h_iadd dL_law_152 ?_
  rw [kk1]
  refine h_script hX hb eb hL (k := j + 1) (by omega) dL_law_153 ?_
  refine h_i2l dL_law_154 ?_
  refine h_bipush (v := 32) dL_law_155 (by decide) ?_
  refine h_lshl dL_law_157 ?_
  refine h_aload_n dL_law_158 rfl 3 rfl ?_
  refine h_iload_n dL_law_159 rfl 0 rfl ?_
  refine h_iconst (v := 2) dL_law_160 (by decide) ?_
  refine h_iadd dL_law_161 ?_
  rw [kk2]
  refine h_script hX hb eb hL (k := j + 2) (by omega) dL_law_162 ?_
  refine h_i2l dL_law_163 ?_
  refine h_ldc2 (v := 4294967295) dL_law_164 wt_1177 rfl ?_
  refine h_land dL_law_167 ?_
  refine h_lor dL_law_168 ?_
  refine h_aload_n dL_law_169 rfl 3 rfl ?_
  refine h_iload_n dL_law_170 rfl 0 rfl ?_
  refine h_iconst (v := 3) dL_law_171 (by decide) ?_
  refine h_iadd dL_law_172 ?_
  rw [kk3]
  refine h_script hX hb eb hL (k := j + 3) (by omega) dL_law_173 ?_
  refine h_invV (As := [.long (((xs (j + 1)).toInt64 <<< ((32 : Int32).toInt64 &&& 63)) ||| ((xs (j + 2)).toInt64 &&& 4294967295)), .int (xs (j + 3))]) (st := []) dL_law_174 lk_L_15 (law_rm s0 (by decide)) nl_0 zk_0 (by decide) rfl rfl rfl (Nat.le_of_ble_eq_true rfl) ?_
  refine HCall.mono (t_write (d := 0) hr) (fun v J hv => ?_)
  refine h_aload_n dL_law_177 rfl 1 rfl ?_
  refine h_aload_n dL_law_178 rfl 3 rfl ?_
  refine h_iload_n dL_law_179 rfl 0 rfl ?_
  refine h_iconst (v := 1) dL_law_180 (by decide) ?_
  refine h_iadd dL_law_181 ?_
  rw [kk1]
  refine h_script hX hb eb hL (k := j + 1) (by omega) dL_law_182 ?_
  refine h_i2l dL_law_183 ?_
  refine h_bipush (v := 32) dL_law_184 (by decide) ?_
  refine h_lshl dL_law_186 ?_
  refine h_aload_n dL_law_187 rfl 3 rfl ?_
  refine h_iload_n dL_law_188 rfl 0 rfl ?_
  refine h_iconst (v := 2) dL_law_189 (by decide) ?_
  refine h_iadd dL_law_190 ?_
  rw [kk2]
  refine h_script hX hb eb hL (k := j + 2) (by omega) dL_law_191 ?_
  refine h_i2l dL_law_192 ?_
  refine h_ldc2 (v := 4294967295) dL_law_193 wt_1177 rfl ?_
  refine h_land dL_law_196 ?_
  refine h_lor dL_law_197 ?_
  refine h_aload_n dL_law_198 rfl 3 rfl ?_
  refine h_iload_n dL_law_199 rfl 0 rfl ?_
  refine h_iconst (v := 3) dL_law_200 (by decide) ?_
  refine h_iadd dL_law_201 ?_
  rw [kk3]
  refine h_script hX hb eb hL (k := j + 3) (by omega) dL_law_202 ?_
  refine h_invV (As := [.long (((xs (j + 1)).toInt64 <<< ((32 : Int32).toInt64 &&& 63)) ||| ((xs (j + 2)).toInt64 &&& 4294967295)), .int (xs (j + 3))]) (st := v.toList ++ []) dL_law_203 lk_L_19 (law_rm s0 (by decide)) nl_87 zk_87 (by decide) rfl rfl rfl (cat_opt v) ?_
  refine HCall.mono hv (fun v2 J2 h2 => ?_)
  obtain ⟨r, rfl, rfl, hr2⟩ := h2
  refine h_icmp_eq (tgt := 814) dL_law_206 (by decide) (fun _ => K J2 hr2) (fun z => absurd rfl z)
theorem lw_c1 (hX : va_X b L xs s0 s0.heap) (hb : b < s0.heap.size) (eb : E.2.2.2 4000 = b) (hL : L ≤ 256) {j : Nat} (hj : j + 4 ≤ L) (hr : Rel I) (K : ∀ J, Rel J → HGo E (lawF s0) me_L_law 814 [(3, .int (nI j)), (2, .ref 87), (1, .ref 0), (0, .ref 4000)] [] J) : HGo E (lawF s0) me_L_law 211 [(3, .int (nI j)), (2, .ref 87), (1, .ref 0), (0, .ref 4000)] [] I := by
  refine h_aload_n dL_law_211 rfl 2 rfl ?_
  refine h_invV (As := []) (st := []) dL_law_212 lk_L_20 (law_rm s0 (by decide)) nl_0 zk_0 (by decide) rfl rfl rfl (Nat.le_of_ble_eq_true rfl) ?_
  refine HCall.mono (t_erase (d := 0) hr) (fun v J hv => ?_)
  refine h_aload_n dL_law_215 rfl 1 rfl ?_
  refine h_invV (As := []) (st := v.toList ++ []) dL_law_216 lk_L_24 (law_rm s0 (by decide)) nl_87 zk_87 (by decide) rfl rfl rfl (cat_opt v) ?_
  refine HCall.mono hv (fun v2 J2 h2 => ?_)
  obtain ⟨r, rfl, rfl, hr2⟩ := h2
  refine h_icmp_eq (tgt := 814) dL_law_219 (by decide) (fun _ => K J2 hr2) (fun z => absurd rfl z)
theorem lw_c2 (hX : va_X b L xs s0 s0.heap) (hb : b < s0.heap.size) (eb : E.2.2.2 4000 = b) (hL : L ≤ 256) {j : Nat} (hj : j + 4 ≤ L) (hr : Rel I) (K : ∀ J, Rel J → HGo E (lawF s0) me_L_law 814 [(3, .int (nI j)), (2, .ref 87), (1, .ref 0), (0, .ref 4000)] [] J) : HGo E (lawF s0) me_L_law 224 [(3, .int (nI j)), (2, .ref 87), (1, .ref 0), (0, .ref 4000)] [] I := by
  refine h_aload_n dL_law_224 rfl 2 rfl ?_
  refine h_invV (As := []) (st := []) dL_law_225 lk_L_25 (law_rm s0 (by decide)) nl_0 zk_0 (by decide) rfl rfl rfl (Nat.le_of_ble_eq_true rfl) ?_
  refine HCall.mono (t_fault (d := 0) (rword E) hr) (fun v J hv => ?_)
  refine h_aload_n dL_law_228 rfl 1 rfl ?_
  refine h_invV (As := []) (st := v.toList ++ []) dL_law_229 lk_L_28 (law_rm s0 (by decide)) nl_87 zk_87 (by decide) rfl rfl rfl (cat_opt v) ?_
  refine HCall.mono hv (fun v2 J2 h2 => ?_)
  obtain ⟨r, rfl, rfl, hr2⟩ := h2
  refine h_icmp_eq (tgt := 814) dL_law_232 (by decide) (fun _ => K J2 hr2) (fun z => absurd rfl z)
theorem lw_c3 (hX : va_X b L xs s0 s0.heap) (hb : b < s0.heap.size) (eb : E.2.2.2 4000 = b) (hL : L ≤ 256) {j : Nat} (hj : j + 4 ≤ L) (hr : Rel I) (K : ∀ J, Rel J → HGo E (lawF s0) me_L_law 814 [(3, .int (nI j)), (2, .ref 87), (1, .ref 0), (0, .ref 4000)] [] J) : HGo E (lawF s0) me_L_law 237 [(3, .int (nI j)), (2, .ref 87), (1, .ref 0), (0, .ref 4000)] [] I := by
  refine h_aload_n dL_law_237 rfl 2 rfl ?_
  refine h_invV (As := []) (st := []) dL_law_238 lk_L_29 (law_rm s0 (by decide)) nl_0 zk_0 (by decide) rfl rfl rfl (Nat.le_of_ble_eq_true rfl) ?_
  refine HCall.mono (t_sunday (d := 0) (rword E) hr) (fun v J hv => ?_)
  refine h_aload_n dL_law_241 rfl 1 rfl ?_
  refine h_invV (As := []) (st := v.toList ++ []) dL_law_242 lk_L_32 (law_rm s0 (by decide)) nl_87 zk_87 (by decide) rfl rfl rfl (cat_opt v) ?_
  refine HCall.mono hv (fun v2 J2 h2 => ?_)
  obtain ⟨r, rfl, rfl, hr2⟩ := h2
  refine h_icmp_eq (tgt := 814) dL_law_245 (by decide) (fun _ => K J2 hr2) (fun z => absurd rfl z)
theorem lw_c4 (hX : va_X b L xs s0 s0.heap) (hb : b < s0.heap.size) (eb : E.2.2.2 4000 = b) (hL : L ≤ 256) {j : Nat} (hj : j + 4 ≤ L) (hr : Rel I) (K : ∀ J, Rel J → HGo E (lawF s0) me_L_law 814 [(3, .int (nI j)), (2, .ref 87), (1, .ref 0), (0, .ref 4000)] [] J) : HGo E (lawF s0) me_L_law 250 [(3, .int (nI j)), (2, .ref 87), (1, .ref 0), (0, .ref 4000)] [] I := by
  have kk1 : nI j + 1 = nI (j + 1) := nI_1 j
  have kk2 : nI j + 2 = nI (j + 2) := by rw [show (2 : Int32) = nI 2 from rfl, nI_add]
  refine h_aload_n dL_law_250 rfl 2 rfl ?_
  refine h_aload_n dL_law_251 rfl 3 rfl ?_
  refine h_iload_n dL_law_252 rfl 0 rfl ?_
  refine h_iconst (v := 1) dL_law_253 (by decide) ?_
  refine h_iadd dL_law_254 ?_
  rw [kk1]
  refine h_script hX hb eb hL (k := j + 1) (by omega) dL_law_255 ?_
  refine h_aload_n dL_law_256 rfl 3 rfl ?_
  refine h_iload_n dL_law_257 rfl 0 rfl ?_
  refine h_iconst (v := 2) dL_law_258 (by decide) ?_
  refine h_iadd dL_law_259 ?_
  rw [kk2]
  refine h_script hX hb eb hL (k := j + 2) (by omega) dL_law_260 ?_
  refine h_invV (As := [.int (xs (j + 1)), .int (xs (j + 2))]) (st := []) dL_law_261 lk_L_33 (law_rm s0 (by decide)) nl_0 zk_0 (by decide) rfl rfl rfl (Nat.le_of_ble_eq_true rfl) ?_
  refine HCall.mono (t_coin (d := 0) hr) (fun v J hv => ?_)
  refine h_aload_n dL_law_264 rfl 1 rfl ?_
  refine h_aload_n dL_law_265 rfl 3 rfl ?_
  refine h_iload_n dL_law_266 rfl 0 rfl ?_
  refine h_iconst (v := 1) dL_law_267 (by decide) ?_
  refine h_iadd dL_law_268 ?_
  rw [kk1]
  refine h_script hX hb eb hL (k := j + 1) (by omega) dL_law_269 ?_
  refine h_aload_n dL_law_270 rfl 3 rfl ?_
  refine h_iload_n dL_law_271 rfl 0 rfl ?_
  refine h_iconst (v := 2) dL_law_272 (by decide) ?_
  refine h_iadd dL_law_273 ?_
  rw [kk2]
  refine h_script hX hb eb hL (k := j + 2) (by omega) dL_law_274 ?_
  refine h_invV (As := [.int (xs (j + 1)), .int (xs (j + 2))]) (st := v.toList ++ []) dL_law_275 lk_L_37 (law_rm s0 (by decide)) nl_87 zk_87 (by decide) rfl rfl rfl (cat_opt v) ?_
  refine HCall.mono hv (fun v2 J2 h2 => ?_)
  obtain ⟨r, rfl, rfl, hr2⟩ := h2
  refine h_icmp_eq (tgt := 814) dL_law_278 (by decide) (fun _ => K J2 hr2) (fun z => absurd rfl z)
theorem lw_c5 (hX : va_X b L xs s0 s0.heap) (hb : b < s0.heap.size) (eb : E.2.2.2 4000 = b) (hL : L ≤ 256) {j : Nat} (hj : j + 4 ≤ L) (hr : Rel I) (K : ∀ J, Rel J → HGo E (lawF s0) me_L_law 814 [(3, .int (nI j)), (2, .ref 87), (1, .ref 0), (0, .ref 4000)] [] J) : HGo E (lawF s0) me_L_law 283 [(3, .int (nI j)), (2, .ref 87), (1, .ref 0), (0, .ref 4000)] [] I := by
  have kk1 : nI j + 1 = nI (j + 1) := nI_1 j
  have kk2 : nI j + 2 = nI (j + 2) := by rw [show (2 : Int32) = nI 2 from rfl, nI_add]
  refine h_aload_n dL_law_283 rfl 2 rfl ?_
  refine h_aload_n dL_law_284 rfl 3 rfl ?_
  refine h_iload_n dL_law_285 rfl 0 rfl ?_
  refine h_iconst (v := 1) dL_law_286 (by decide) ?_
  refine h_iadd dL_law_287 ?_
  rw [kk1]
  refine h_script hX hb eb hL (k := j + 1) (by omega) dL_law_288 ?_
  refine h_aload_n dL_law_289 rfl 3 rfl ?_
  refine h_iload_n dL_law_290 rfl 0 rfl ?_
  refine h_iconst (v := 2) dL_law_291 (by decide) ?_
  refine h_iadd dL_law_292 ?_
  rw [kk2]
  refine h_script hX hb eb hL (k := j + 2) (by omega) dL_law_293 ?_
  refine h_invV (As := [.int (xs (j + 1)), .int (xs (j + 2))]) (st := []) dL_law_294 lk_L_38 (law_rm s0 (by decide)) nl_0 zk_0 (by decide) rfl rfl rfl (Nat.le_of_ble_eq_true rfl) ?_
  refine HCall.mono (t_purse (d := 0) hr) (fun v J hv => ?_)
  refine h_aload_n dL_law_297 rfl 1 rfl ?_
  refine h_aload_n dL_law_298 rfl 3 rfl ?_
  refine h_iload_n dL_law_299 rfl 0 rfl ?_
  refine h_iconst (v := 1) dL_law_300 (by decide) ?_
  refine h_iadd dL_law_301 ?_
  rw [kk1]
  refine h_script hX hb eb hL (k := j + 1) (by omega) dL_law_302 ?_
  refine h_aload_n dL_law_303 rfl 3 rfl ?_
  refine h_iload_n dL_law_304 rfl 0 rfl ?_
  refine h_iconst (v := 2) dL_law_305 (by decide) ?_
  refine h_iadd dL_law_306 ?_
  rw [kk2]
  refine h_script hX hb eb hL (k := j + 2) (by omega) dL_law_307 ?_
  refine h_invV (As := [.int (xs (j + 1)), .int (xs (j + 2))]) (st := v.toList ++ []) dL_law_308 lk_L_41 (law_rm s0 (by decide)) nl_87 zk_87 (by decide) rfl rfl rfl (cat_opt v) ?_
  refine HCall.mono hv (fun v2 J2 h2 => ?_)
  obtain ⟨r, rfl, rfl, hr2⟩ := h2
  refine h_icmp_eq (tgt := 814) dL_law_311 (by decide) (fun _ => K J2 hr2) (fun z => absurd rfl z)
theorem lw_c6 (hX : va_X b L xs s0 s0.heap) (hb : b < s0.heap.size) (eb : E.2.2.2 4000 = b) (hL : L ≤ 256) {j : Nat} (hj : j + 4 ≤ L) (hr : Rel I) (K : ∀ J, Rel J → HGo E (lawF s0) me_L_law 814 [(3, .int (nI j)), (2, .ref 87), (1, .ref 0), (0, .ref 4000)] [] J) : HGo E (lawF s0) me_L_law 316 [(3, .int (nI j)), (2, .ref 87), (1, .ref 0), (0, .ref 4000)] [] I := by
  have kk1 : nI j + 1 = nI (j + 1) := nI_1 j
  have kk2 : nI j + 2 = nI (j + 2) := by rw [show (2 : Int32) = nI 2 from rfl, nI_add]
  refine h_aload_n dL_law_316 rfl 2 rfl ?_
  refine h_aload_n dL_law_317 rfl 3 rfl ?_
  refine h_iload_n dL_law_318 rfl 0 rfl ?_
  refine h_iconst (v := 1) dL_law_319 (by decide) ?_
  refine h_iadd dL_law_320 ?_
  rw [kk1]
  refine h_script hX hb eb hL (k := j + 1) (by omega) dL_law_321 ?_
  refine h_aload_n dL_law_322 rfl 3 rfl ?_
  refine h_iload_n dL_law_323 rfl 0 rfl ?_
  refine h_iconst (v := 2) dL_law_324 (by decide) ?_
  refine h_iadd dL_law_325 ?_
  rw [kk2]
  refine h_script hX hb eb hL (k := j + 2) (by omega) dL_law_326 ?_
  refine h_invV (As := [.int (xs (j + 1)), .int (xs (j + 2))]) (st := []) dL_law_327 lk_L_42 (law_rm s0 (by decide)) nl_0 zk_0 (by decide) rfl rfl rfl (Nat.le_of_ble_eq_true rfl) ?_
  refine HCall.mono (t_person (d := 0) hr) (fun v J hv => ?_)
  refine h_aload_n dL_law_330 rfl 1 rfl ?_
  refine h_aload_n dL_law_331 rfl 3 rfl ?_
  refine h_iload_n dL_law_332 rfl 0 rfl ?_
  refine h_iconst (v := 1) dL_law_333 (by decide) ?_
  refine h_iadd dL_law_334 ?_
  rw [kk1]
  refine h_script hX hb eb hL (k := j + 1) (by omega) dL_law_335 ?_
  refine h_aload_n dL_law_336 rfl 3 rfl ?_
  refine h_iload_n dL_law_337 rfl 0 rfl ?_
  refine h_iconst (v := 2) dL_law_338 (by decide) ?_
  refine h_iadd dL_law_339 ?_
  rw [kk2]
  refine h_script hX hb eb hL (k := j + 2) (by omega) dL_law_340 ?_
  refine h_invV (As := [.int (xs (j + 1)), .int (xs (j + 2))]) (st := v.toList ++ []) dL_law_341 lk_L_45 (law_rm s0 (by decide)) nl_87 zk_87 (by decide) rfl rfl rfl (cat_opt v) ?_
  refine HCall.mono hv (fun v2 J2 h2 => ?_)
  obtain ⟨r, rfl, rfl, hr2⟩ := h2
  refine h_icmp_eq (tgt := 814) dL_law_344 (by decide) (fun _ => K J2 hr2) (fun z => absurd rfl z)
theorem lw_c7 (hX : va_X b L xs s0 s0.heap) (hb : b < s0.heap.size) (eb : E.2.2.2 4000 = b) (hL : L ≤ 256) {j : Nat} (hj : j + 4 ≤ L) (hr : Rel I) (K : ∀ J, Rel J → HGo E (lawF s0) me_L_law 814 [(3, .int (nI j)), (2, .ref 87), (1, .ref 0), (0, .ref 4000)] [] J) : HGo E (lawF s0) me_L_law 349 [(3, .int (nI j)), (2, .ref 87), (1, .ref 0), (0, .ref 4000)] [] I := by
  have kk1 : nI j + 1 = nI (j + 1) := nI_1 j
  have kk2 : nI j + 2 = nI (j + 2) := by rw [show (2 : Int32) = nI 2 from rfl, nI_add]
  refine h_aload_n dL_law_349 rfl 2 rfl ?_
  refine h_aload_n dL_law_350 rfl 3 rfl ?_
  refine h_iload_n dL_law_351 rfl 0 rfl ?_
  refine h_iconst (v := 1) dL_law_352 (by decide) ?_
  refine h_iadd dL_law_353 ?_
  rw [kk1]
  refine h_script hX hb eb hL (k := j + 1) (by omega) dL_law_354 ?_
  refine h_aload_n dL_law_355 rfl 3 rfl ?_
  refine h_iload_n dL_law_356 rfl 0 rfl ?_
  refine h_iconst (v := 2) dL_law_357 (by decide) ?_
  refine h_iadd dL_law_358 ?_
  rw [kk2]
  refine h_script hX hb eb hL (k := j + 2) (by omega) dL_law_359 ?_
  refine h_invV (As := [.int (xs (j + 1)), .int (xs (j + 2))]) (st := []) dL_law_360 lk_L_46 (law_rm s0 (by decide)) nl_0 zk_0 (by decide) rfl rfl rfl (Nat.le_of_ble_eq_true rfl) ?_
  refine HCall.mono (t_as (d := 0) hr) (fun v J hv => ?_)
  refine h_aload_n dL_law_363 rfl 1 rfl ?_
  refine h_aload_n dL_law_364 rfl 3 rfl ?_
  refine h_iload_n dL_law_365 rfl 0 rfl ?_
  refine h_iconst (v := 1) dL_law_366 (by decide) ?_
  refine h_iadd dL_law_367 ?_
  rw [kk1]
  refine h_script hX hb eb hL (k := j + 1) (by omega) dL_law_368 ?_
  refine h_aload_n dL_law_369 rfl 3 rfl ?_
  refine h_iload_n dL_law_370 rfl 0 rfl ?_
  refine h_iconst (v := 2) dL_law_371 (by decide) ?_
  refine h_iadd dL_law_372 ?_
  rw [kk2]
  refine h_script hX hb eb hL (k := j + 2) (by omega) dL_law_373 ?_
  refine h_invV (As := [.int (xs (j + 1)), .int (xs (j + 2))]) (st := v.toList ++ []) dL_law_374 lk_L_49 (law_rm s0 (by decide)) nl_87 zk_87 (by decide) rfl rfl rfl (cat_opt v) ?_
  refine HCall.mono hv (fun v2 J2 h2 => ?_)
  obtain ⟨r, rfl, rfl, hr2⟩ := h2
  refine h_icmp_eq (tgt := 814) dL_law_377 (by decide) (fun _ => K J2 hr2) (fun z => absurd rfl z)
theorem lw_c8 (hX : va_X b L xs s0 s0.heap) (hb : b < s0.heap.size) (eb : E.2.2.2 4000 = b) (hL : L ≤ 256) {j : Nat} (hj : j + 4 ≤ L) (hr : Rel I) (K : ∀ J, Rel J → HGo E (lawF s0) me_L_law 814 [(3, .int (nI j)), (2, .ref 87), (1, .ref 0), (0, .ref 4000)] [] J) : HGo E (lawF s0) me_L_law 382 [(3, .int (nI j)), (2, .ref 87), (1, .ref 0), (0, .ref 4000)] [] I := by
  have kk1 : nI j + 1 = nI (j + 1) := nI_1 j
  refine h_aload_n dL_law_382 rfl 2 rfl ?_
  refine h_aload_n dL_law_383 rfl 3 rfl ?_
  refine h_iload_n dL_law_384 rfl 0 rfl ?_
  refine h_iconst (v := 1) dL_law_385 (by decide) ?_
  refine h_iadd dL_law_386 ?_
  rw [kk1]
  refine h_script hX hb eb hL (k := j + 1) (by omega) dL_law_387 ?_
  refine h_invV (As := [.int (xs (j + 1))]) (st := []) dL_law_388 lk_L_50 (law_rm s0 (by decide)) nl_0 zk_0 (by decide) rfl rfl rfl (Nat.le_of_ble_eq_true rfl) ?_
  refine HCall.mono (t_come (d := 0) hr) (fun v J hv => ?_)
  refine h_aload_n dL_law_391 rfl 1 rfl ?_
  refine h_aload_n dL_law_392 rfl 3 rfl ?_
  refine h_iload_n dL_law_393 rfl 0 rfl ?_
  refine h_iconst (v := 1) dL_law_394 (by decide) ?_
  refine h_iadd dL_law_395 ?_
  rw [kk1]
  refine h_script hX hb eb hL (k := j + 1) (by omega) dL_law_396 ?_
  refine h_invV (As := [.int (xs (j + 1))]) (st := v.toList ++ []) dL_law_397 lk_L_54 (law_rm s0 (by decide)) nl_87 zk_87 (by decide) rfl rfl rfl (cat_opt v) ?_
  refine HCall.mono hv (fun v2 J2 h2 => ?_)
  obtain ⟨r, rfl, rfl, hr2⟩ := h2
  refine h_icmp_eq (tgt := 814) dL_law_400 (by decide) (fun _ => K J2 hr2) (fun z => absurd rfl z)
theorem lw_c9 (hX : va_X b L xs s0 s0.heap) (hb : b < s0.heap.size) (eb : E.2.2.2 4000 = b) (hL : L ≤ 256) {j : Nat} (hj : j + 4 ≤ L) (hr : Rel I) (K : ∀ J, Rel J → HGo E (lawF s0) me_L_law 814 [(3, .int (nI j)), (2, .ref 87), (1, .ref 0), (0, .ref 4000)] [] J) : HGo E (lawF s0) me_L_law 405 [(3, .int (nI j)), (2, .ref 87), (1, .ref 0), (0, .ref 4000)] [] I := by
  have kk1 : nI j + 1 = nI (j + 1) := nI_1 j
  have kk2 : nI j + 2 = nI (j + 2) := by rw [show (2 : Int32) = nI 2 from rfl, nI_add]
  refine h_aload_n dL_law_405 rfl 2 rfl ?_
  refine h_aload_n dL_law_406 rfl 3 rfl ?_
  refine h_iload_n dL_law_407 rfl 0 rfl ?_
  refine h_iconst (v := 1) dL_law_408 (by decide) ?_
  refine h_iadd dL_law_409 ?_
  rw [kk1]
  refine h_script hX hb eb hL (k := j + 1) (by omega) dL_law_410 ?_
  refine h_aload_n dL_law_411 rfl 3 rfl ?_
  refine h_iload_n dL_law_412 rfl 0 rfl ?_
  refine h_iconst (v := 2) dL_law_413 (by decide) ?_
  refine h_iadd dL_law_414 ?_
  rw [kk2]
  refine h_script hX hb eb hL (k := j + 2) (by omega) dL_law_415 ?_
  refine h_invV (As := [.int (xs (j + 1)), .int (xs (j + 2))]) (st := []) dL_law_416 lk_L_55 (law_rm s0 (by decide)) nl_0 zk_0 (by decide) rfl rfl rfl (Nat.le_of_ble_eq_true rfl) ?_
  refine HCall.mono (t_gain (d := 0) hr) (fun v J hv => ?_)
  refine h_aload_n dL_law_419 rfl 1 rfl ?_
  refine h_aload_n dL_law_420 rfl 3 rfl ?_
  refine h_iload_n dL_law_421 rfl 0 rfl ?_
  refine h_iconst (v := 1) dL_law_422 (by decide) ?_
  refine h_iadd dL_law_423 ?_
  rw [kk1]
  refine h_script hX hb eb hL (k := j + 1) (by omega) dL_law_424 ?_
  refine h_aload_n dL_law_425 rfl 3 rfl ?_
  refine h_iload_n dL_law_426 rfl 0 rfl ?_
  refine h_iconst (v := 2) dL_law_427 (by decide) ?_
  refine h_iadd dL_law_428 ?_
  rw [kk2]
  refine h_script hX hb eb hL (k := j + 2) (by omega) dL_law_429 ?_
  refine h_invV (As := [.int (xs (j + 1)), .int (xs (j + 2))]) (st := v.toList ++ []) dL_law_430 lk_L_58 (law_rm s0 (by decide)) nl_87 zk_87 (by decide) rfl rfl rfl (cat_opt v) ?_
  refine HCall.mono hv (fun v2 J2 h2 => ?_)
  obtain ⟨r, rfl, rfl, hr2⟩ := h2
  refine h_icmp_eq (tgt := 814) dL_law_433 (by decide) (fun _ => K J2 hr2) (fun z => absurd rfl z)
theorem lw_c10 (hX : va_X b L xs s0 s0.heap) (hb : b < s0.heap.size) (eb : E.2.2.2 4000 = b) (hL : L ≤ 256) {j : Nat} (hj : j + 4 ≤ L) (hr : Rel I) (K : ∀ J, Rel J → HGo E (lawF s0) me_L_law 814 [(3, .int (nI j)), (2, .ref 87), (1, .ref 0), (0, .ref 4000)] [] J) : HGo E (lawF s0) me_L_law 438 [(3, .int (nI j)), (2, .ref 87), (1, .ref 0), (0, .ref 4000)] [] I := by
  have kk1 : nI j + 1 = nI (j + 1) := nI_1 j
  refine h_aload_n dL_law_438 rfl 2 rfl ?_
  refine h_aload_n dL_law_439 rfl 3 rfl ?_
  refine h_iload_n dL_law_440 rfl 0 rfl ?_
  refine h_iconst (v := 1) dL_law_441 (by decide) ?_
  refine h_iadd dL_law_442 ?_
  rw [kk1]
  refine h_script hX hb eb hL (k := j + 1) (by omega) dL_law_443 ?_
  refine h_invV (As := [.int (xs (j + 1))]) (st := []) dL_law_444 lk_L_59 (law_rm s0 (by decide)) nl_0 zk_0 (by decide) rfl rfl rfl (Nat.le_of_ble_eq_true rfl) ?_
  refine HCall.mono (t_visit (d := 0) hr) (fun v J hv => ?_)
  refine h_aload_n dL_law_447 rfl 1 rfl ?_
  refine h_aload_n dL_law_448 rfl 3 rfl ?_
  refine h_iload_n dL_law_449 rfl 0 rfl ?_
  refine h_iconst (v := 1) dL_law_450 (by decide) ?_
  refine h_iadd dL_law_451 ?_
  rw [kk1]
  refine h_script hX hb eb hL (k := j + 1) (by omega) dL_law_452 ?_
  refine h_invV (As := [.int (xs (j + 1))]) (st := v.toList ++ []) dL_law_453 lk_L_62 (law_rm s0 (by decide)) nl_87 zk_87 (by decide) rfl rfl rfl (cat_opt v) ?_
  refine HCall.mono hv (fun v2 J2 h2 => ?_)
  obtain ⟨r, rfl, rfl, hr2⟩ := h2
  refine h_icmp_eq (tgt := 814) dL_law_456 (by decide) (fun _ => K J2 hr2) (fun z => absurd rfl z)
theorem lw_c11 (hX : va_X b L xs s0 s0.heap) (hb : b < s0.heap.size) (eb : E.2.2.2 4000 = b) (hL : L ≤ 256) {j : Nat} (hj : j + 4 ≤ L) (hr : Rel I) (K : ∀ J, Rel J → HGo E (lawF s0) me_L_law 814 [(3, .int (nI j)), (2, .ref 87), (1, .ref 0), (0, .ref 4000)] [] J) : HGo E (lawF s0) me_L_law 461 [(3, .int (nI j)), (2, .ref 87), (1, .ref 0), (0, .ref 4000)] [] I := by
  have kk1 : nI j + 1 = nI (j + 1) := nI_1 j
  refine h_aload_n dL_law_461 rfl 2 rfl ?_
  refine h_aload_n dL_law_462 rfl 3 rfl ?_
  refine h_iload_n dL_law_463 rfl 0 rfl ?_
  refine h_iconst (v := 1) dL_law_464 (by decide) ?_
  refine h_iadd dL_law_465 ?_
  rw [kk1]
  refine h_script hX hb eb hL (k := j + 1) (by omega) dL_law_466 ?_
  refine h_invV (As := [.int (xs (j + 1))]) (st := []) dL_law_467 lk_L_63 (law_rm s0 (by decide)) nl_0 zk_0 (by decide) rfl rfl rfl (Nat.le_of_ble_eq_true rfl) ?_
  refine HCall.mono (t_go (d := 0) hr) (fun v J hv => ?_)
  refine h_aload_n dL_law_470 rfl 1 rfl ?_
  refine h_aload_n dL_law_471 rfl 3 rfl ?_
  refine h_iload_n dL_law_472 rfl 0 rfl ?_
  refine h_iconst (v := 1) dL_law_473 (by decide) ?_
  refine h_iadd dL_law_474 ?_
  rw [kk1]
  refine h_script hX hb eb hL (k := j + 1) (by omega) dL_law_475 ?_
  refine h_invV (As := [.int (xs (j + 1))]) (st := v.toList ++ []) dL_law_476 lk_L_66 (law_rm s0 (by decide)) nl_87 zk_87 (by decide) rfl rfl rfl (cat_opt v) ?_
  refine HCall.mono hv (fun v2 J2 h2 => ?_)
  obtain ⟨r, rfl, rfl, hr2⟩ := h2
  refine h_icmp_eq (tgt := 814) dL_law_479 (by decide) (fun _ => K J2 hr2) (fun z => absurd rfl z)
theorem lw_c12 (hX : va_X b L xs s0 s0.heap) (hb : b < s0.heap.size) (eb : E.2.2.2 4000 = b) (hL : L ≤ 256) {j : Nat} (hj : j + 4 ≤ L) (hr : Rel I) (K : ∀ J, Rel J → HGo E (lawF s0) me_L_law 814 [(3, .int (nI j)), (2, .ref 87), (1, .ref 0), (0, .ref 4000)] [] J) : HGo E (lawF s0) me_L_law 484 [(3, .int (nI j)), (2, .ref 87), (1, .ref 0), (0, .ref 4000)] [] I := by
  have kk1 : nI j + 1 = nI (j + 1) := nI_1 j
  have kk2 : nI j + 2 = nI (j + 2) := by rw [show (2 : Int32) = nI 2 from rfl, nI_add]
  refine h_aload_n dL_law_484 rfl 2 rfl ?_
  refine h_aload_n dL_law_485 rfl 3 rfl ?_
  refine h_iload_n dL_law_486 rfl 0 rfl ?_
  refine h_iconst (v := 1) dL_law_487 (by decide) ?_
  refine h_iadd dL_law_488 ?_
  rw [kk1]
  refine h_script hX hb eb hL (k := j + 1) (by omega) dL_law_489 ?_
  refine h_aload_n dL_law_490 rfl 3 rfl ?_
  refine h_iload_n dL_law_491 rfl 0 rfl ?_
  refine h_iconst (v := 2) dL_law_492 (by decide) ?_
  refine h_iadd dL_law_493 ?_
  rw [kk2]
  refine h_script hX hb eb hL (k := j + 2) (by omega) dL_law_494 ?_
  refine h_invV (As := [.int (xs (j + 1)), .int (xs (j + 2))]) (st := []) dL_law_495 lk_L_67 (law_rm s0 (by decide)) nl_0 zk_0 (by decide) rfl rfl rfl (Nat.le_of_ble_eq_true rfl) ?_
  refine HCall.mono (t_plan (d := 0) hr) (fun v J hv => ?_)
  refine h_aload_n dL_law_498 rfl 1 rfl ?_
  refine h_aload_n dL_law_499 rfl 3 rfl ?_
  refine h_iload_n dL_law_500 rfl 0 rfl ?_
  refine h_iconst (v := 1) dL_law_501 (by decide) ?_
  refine h_iadd dL_law_502 ?_
  rw [kk1]
  refine h_script hX hb eb hL (k := j + 1) (by omega) dL_law_503 ?_
  refine h_aload_n dL_law_504 rfl 3 rfl ?_
  refine h_iload_n dL_law_505 rfl 0 rfl ?_
  refine h_iconst (v := 2) dL_law_506 (by decide) ?_
  refine h_iadd dL_law_507 ?_
  rw [kk2]
  refine h_script hX hb eb hL (k := j + 2) (by omega) dL_law_508 ?_
  refine h_invV (As := [.int (xs (j + 1)), .int (xs (j + 2))]) (st := v.toList ++ []) dL_law_509 lk_L_70 (law_rm s0 (by decide)) nl_87 zk_87 (by decide) rfl rfl rfl (cat_opt v) ?_
  refine HCall.mono hv (fun v2 J2 h2 => ?_)
  obtain ⟨r, rfl, rfl, hr2⟩ := h2
  refine h_icmp_eq (tgt := 814) dL_law_512 (by decide) (fun _ => K J2 hr2) (fun z => absurd rfl z)
theorem lw_c13 (hX : va_X b L xs s0 s0.heap) (hb : b < s0.heap.size) (eb : E.2.2.2 4000 = b) (hL : L ≤ 256) {j : Nat} (hj : j + 4 ≤ L) (hr : Rel I) (K : ∀ J, Rel J → HGo E (lawF s0) me_L_law 814 [(3, .int (nI j)), (2, .ref 87), (1, .ref 0), (0, .ref 4000)] [] J) : HGo E (lawF s0) me_L_law 517 [(3, .int (nI j)), (2, .ref 87), (1, .ref 0), (0, .ref 4000)] [] I := by
  have kk1 : nI j + 1 = nI (j + 1) := nI_1 j
  refine h_aload_n dL_law_517 rfl 2 rfl ?_
  refine h_aload_n dL_law_518 rfl 3 rfl ?_
  refine h_iload_n dL_law_519 rfl 0 rfl ?_
  refine h_iconst (v := 1) dL_law_520 (by decide) ?_
  refine h_iadd dL_law_521 ?_
  rw [kk1]
  refine h_script hX hb eb hL (k := j + 1) (by omega) dL_law_522 ?_
  refine h_invV (As := [.int (xs (j + 1))]) (st := []) dL_law_523 lk_L_71 (law_rm s0 (by decide)) nl_0 zk_0 (by decide) rfl rfl rfl (Nat.le_of_ble_eq_true rfl) ?_
  refine HCall.mono (t_game (d := 0) hr) (fun v J hv => ?_)
  refine h_aload_n dL_law_526 rfl 1 rfl ?_
  refine h_aload_n dL_law_527 rfl 3 rfl ?_
  refine h_iload_n dL_law_528 rfl 0 rfl ?_
  refine h_iconst (v := 1) dL_law_529 (by decide) ?_
  refine h_iadd dL_law_530 ?_
  rw [kk1]
  refine h_script hX hb eb hL (k := j + 1) (by omega) dL_law_531 ?_
  refine h_invV (As := [.int (xs (j + 1))]) (st := v.toList ++ []) dL_law_532 lk_L_74 (law_rm s0 (by decide)) nl_87 zk_87 (by decide) rfl rfl rfl (cat_opt v) ?_
  refine HCall.mono hv (fun v2 J2 h2 => ?_)
  obtain ⟨r, rfl, rfl, hr2⟩ := h2
  refine h_icmp_eq (tgt := 814) dL_law_535 (by decide) (fun _ => K J2 hr2) (fun z => absurd rfl z)
theorem lw_c14 (hX : va_X b L xs s0 s0.heap) (hb : b < s0.heap.size) (eb : E.2.2.2 4000 = b) (hL : L ≤ 256) {j : Nat} (hj : j + 4 ≤ L) (hr : Rel I) (K : ∀ J, Rel J → HGo E (lawF s0) me_L_law 814 [(3, .int (nI j)), (2, .ref 87), (1, .ref 0), (0, .ref 4000)] [] J) : HGo E (lawF s0) me_L_law 540 [(3, .int (nI j)), (2, .ref 87), (1, .ref 0), (0, .ref 4000)] [] I := by
  have kk1 : nI j + 1 = nI (j + 1) := nI_1 j
  refine h_aload_n dL_law_540 rfl 2 rfl ?_
  refine h_aload_n dL_law_541 rfl 3 rfl ?_
  refine h_iload_n dL_law_542 rfl 0 rfl ?_
  refine h_iconst (v := 1) dL_law_543 (by decide) ?_
  refine h_iadd dL_law_544 ?_
  rw [kk1]
  refine h_script hX hb eb hL (k := j + 1) (by omega) dL_law_545 ?_
  refine h_invV (As := [.int (xs (j + 1))]) (st := []) dL_law_546 lk_L_75 (law_rm s0 (by decide)) nl_0 zk_0 (by decide) rfl rfl rfl (Nat.le_of_ble_eq_true rfl) ?_
  refine HCall.mono (t_choice (d := 0) hr) (fun v J hv => ?_)
  refine h_aload_n dL_law_549 rfl 1 rfl ?_
  refine h_aload_n dL_law_550 rfl 3 rfl ?_
  refine h_iload_n dL_law_551 rfl 0 rfl ?_
  refine h_iconst (v := 1) dL_law_552 (by decide) ?_
  refine h_iadd dL_law_553 ?_
  rw [kk1]
  refine h_script hX hb eb hL (k := j + 1) (by omega) dL_law_554 ?_
  refine h_invV (As := [.int (xs (j + 1))]) (st := v.toList ++ []) dL_law_555 lk_L_78 (law_rm s0 (by decide)) nl_87 zk_87 (by decide) rfl rfl rfl (cat_opt v) ?_
  refine HCall.mono hv (fun v2 J2 h2 => ?_)
  obtain ⟨r, rfl, rfl, hr2⟩ := h2
  refine h_icmp_eq (tgt := 814) dL_law_558 (by decide) (fun _ => K J2 hr2) (fun z => absurd rfl z)
theorem lw_c15 (hX : va_X b L xs s0 s0.heap) (hb : b < s0.heap.size) (eb : E.2.2.2 4000 = b) (hL : L ≤ 256) {j : Nat} (hj : j + 4 ≤ L) (hr : Rel I) (K : ∀ J, Rel J → HGo E (lawF s0) me_L_law 814 [(3, .int (nI j)), (2, .ref 87), (1, .ref 0), (0, .ref 4000)] [] J) : HGo E (lawF s0) me_L_law 563 [(3, .int (nI j)), (2, .ref 87), (1, .ref 0), (0, .ref 4000)] [] I := by
  have kk1 : nI j + 1 = nI (j + 1) := nI_1 j
  have kk2 : nI j + 2 = nI (j + 2) := by rw [show (2 : Int32) = nI 2 from rfl, nI_add]
  refine h_aload_n dL_law_563 rfl 2 rfl ?_
  refine h_aload_n dL_law_564 rfl 3 rfl ?_
  refine h_iload_n dL_law_565 rfl 0 rfl ?_
  refine h_iconst (v := 1) dL_law_566 (by decide) ?_
  refine h_iadd dL_law_567 ?_
  rw [kk1]
  refine h_script hX hb eb hL (k := j + 1) (by omega) dL_law_568 ?_
  refine h_aload_n dL_law_569 rfl 3 rfl ?_
  refine h_iload_n dL_law_570 rfl 0 rfl ?_
  refine h_iconst (v := 2) dL_law_571 (by decide) ?_
  refine h_iadd dL_law_572 ?_
  rw [kk2]
  refine h_script hX hb eb hL (k := j + 2) (by omega) dL_law_573 ?_
  refine h_invV (As := [.int (xs (j + 1)), .int (xs (j + 2))]) (st := []) dL_law_574 lk_L_79 (law_rm s0 (by decide)) nl_0 zk_0 (by decide) rfl rfl rfl (Nat.le_of_ble_eq_true rfl) ?_
  refine HCall.mono (t_league (d := 0) hr) (fun v J hv => ?_)
  refine h_aload_n dL_law_577 rfl 1 rfl ?_
  refine h_aload_n dL_law_578 rfl 3 rfl ?_
  refine h_iload_n dL_law_579 rfl 0 rfl ?_
  refine h_iconst (v := 1) dL_law_580 (by decide) ?_
  refine h_iadd dL_law_581 ?_
  rw [kk1]
  refine h_script hX hb eb hL (k := j + 1) (by omega) dL_law_582 ?_
  refine h_aload_n dL_law_583 rfl 3 rfl ?_
  refine h_iload_n dL_law_584 rfl 0 rfl ?_
  refine h_iconst (v := 2) dL_law_585 (by decide) ?_
  refine h_iadd dL_law_586 ?_
  rw [kk2]
  refine h_script hX hb eb hL (k := j + 2) (by omega) dL_law_587 ?_
  refine h_invV (As := [.int (xs (j + 1)), .int (xs (j + 2))]) (st := v.toList ++ []) dL_law_588 lk_L_82 (law_rm s0 (by decide)) nl_87 zk_87 (by decide) rfl rfl rfl (cat_opt v) ?_
  refine HCall.mono hv (fun v2 J2 h2 => ?_)
  obtain ⟨r, rfl, rfl, hr2⟩ := h2
  refine h_icmp_eq (tgt := 814) dL_law_591 (by decide) (fun _ => K J2 hr2) (fun z => absurd rfl z)
theorem lw_c16 (hX : va_X b L xs s0 s0.heap) (hb : b < s0.heap.size) (eb : E.2.2.2 4000 = b) (hL : L ≤ 256) {j : Nat} (hj : j + 4 ≤ L) (hr : Rel I) (K : ∀ J, Rel J → HGo E (lawF s0) me_L_law 814 [(3, .int (nI j)), (2, .ref 87), (1, .ref 0), (0, .ref 4000)] [] J) : HGo E (lawF s0) me_L_law 596 [(3, .int (nI j)), (2, .ref 87), (1, .ref 0), (0, .ref 4000)] [] I := by
  have kk1 : nI j + 1 = nI (j + 1) := nI_1 j
  have kk2 : nI j + 2 = nI (j + 2) := by rw [show (2 : Int32) = nI 2 from rfl, nI_add]
  have kk3 : nI j + 3 = nI (j + 3) := by rw [show (3 : Int32) = nI 3 from rfl, nI_add]
  refine h_aload_n dL_law_596 rfl 2 rfl ?_
  refine h_aload_n dL_law_597 rfl 3 rfl ?_
  refine h_iload_n dL_law_598 rfl 0 rfl ?_
  refine h_iconst (v := 1) dL_law_599 (by decide) ?_
  refine h_iadd dL_law_600 ?_
  rw [kk1]
  refine h_script hX hb eb hL (k := j + 1) (by omega) dL_law_601 ?_
  refine h_aload_n dL_law_602 rfl 3 rfl ?_
  refine h_iload_n dL_law_603 rfl 0 rfl ?_
  refine h_iconst (v := 2) dL_law_604 (by decide) ?_
  refine h_iadd dL_law_605 ?_
  rw [kk2]
  refine h_script hX hb eb hL (k := j + 2) (by omega) dL_law_606 ?_
  refine h_aload_n dL_law_607 rfl 3 rfl ?_
  refine h_iload_n dL_law_608 rfl 0 rfl ?_
  refine h_iconst (v := 3) dL_law_609 (by decide) ?_
  refine h_iadd dL_law_610 ?_
  rw [kk3]
  refine h_script hX hb eb hL (k := j + 3) (by omega) dL_law_611 ?_
  refine h_invV (As := [.int (xs (j + 1)), .int (xs (j + 2)), .int (xs (j + 3))]) (st := []) dL_law_612 lk_L_83 (law_rm s0 (by decide)) nl_0 zk_0 (by decide) rfl rfl rfl (Nat.le_of_ble_eq_true rfl) ?_
  refine HCall.mono (t_mean (d := 0) hr) (fun v J hv => ?_)
  refine h_aload_n dL_law_615 rfl 1 rfl ?_
  refine h_aload_n dL_law_616 rfl 3 rfl ?_
  refine h_iload_n dL_law_617 rfl 0 rfl ?_
  refine h_iconst (v := 1) dL_law_618 (by decide) ?_
  refine h_iadd dL_law_619 ?_
  rw [kk1]
  refine h_script hX hb eb hL (k := j + 1) (by omega) dL_law_620 ?_
  refine h_aload_n dL_law_621 rfl 3 rfl ?_
  refine h_iload_n dL_law_622 rfl 0 rfl ?_
  refine h_iconst (v := 2) dL_law_623 (by decide) ?_
  refine h_iadd dL_law_624 ?_
  rw [kk2]
  refine h_script hX hb eb hL (k := j + 2) (by omega) dL_law_625 ?_
  refine h_aload_n dL_law_626 rfl 3 rfl ?_
  refine h_iload_n dL_law_627 rfl 0 rfl ?_
  refine h_iconst (v := 3) dL_law_628 (by decide) ?_
  refine h_iadd dL_law_629 ?_
  rw [kk3]
  refine h_script hX hb eb hL (k := j + 3) (by omega) dL_law_630 ?_
  refine h_invV (As := [.int (xs (j + 1)), .int (xs (j + 2)), .int (xs (j + 3))]) (st := v.toList ++ []) dL_law_631 lk_L_87 (law_rm s0 (by decide)) nl_87 zk_87 (by decide) rfl rfl rfl (cat_opt v) ?_
  refine HCall.mono hv (fun v2 J2 h2 => ?_)
  obtain ⟨r, rfl, rfl, hr2⟩ := h2
  refine h_lcmp dL_law_634 ?_
  refine h_if_eq (tgt := 814) dL_law_635 (by decide) (fun _ => K J2 hr2) (fun z => absurd ((lg_cmp_eq r r).mpr rfl) z)
theorem lw_c17 (hX : va_X b L xs s0 s0.heap) (hb : b < s0.heap.size) (eb : E.2.2.2 4000 = b) (hL : L ≤ 256) {j : Nat} (hj : j + 4 ≤ L) (hr : Rel I) (K : ∀ J, Rel J → HGo E (lawF s0) me_L_law 814 [(3, .int (nI j)), (2, .ref 87), (1, .ref 0), (0, .ref 4000)] [] J) : HGo E (lawF s0) me_L_law 640 [(3, .int (nI j)), (2, .ref 87), (1, .ref 0), (0, .ref 4000)] [] I := by
  refine h_aload_n dL_law_640 rfl 2 rfl ?_
  refine h_invV (As := []) (st := []) dL_law_641 lk_L_88 (law_rm s0 (by decide)) nl_0 zk_0 (by decide) rfl rfl rfl (Nat.le_of_ble_eq_true rfl) ?_
  refine HCall.mono (t_dry (d := 0) hr) (fun v J hv => ?_)
  refine h_aload_n dL_law_644 rfl 1 rfl ?_
  refine h_invV (As := []) (st := v.toList ++ []) dL_law_645 lk_L_91 (law_rm s0 (by decide)) nl_87 zk_87 (by decide) rfl rfl rfl (cat_opt v) ?_
  refine HCall.mono hv (fun v2 J2 h2 => ?_)
  obtain ⟨r, rfl, rfl, hr2⟩ := h2
  refine h_icmp_eq (tgt := 814) dL_law_648 (by decide) (fun _ => K J2 hr2) (fun z => absurd rfl z)
theorem lw_c18 (hX : va_X b L xs s0 s0.heap) (hb : b < s0.heap.size) (eb : E.2.2.2 4000 = b) (hL : L ≤ 256) {j : Nat} (hj : j + 4 ≤ L) (hr : Rel I) (K : ∀ J, Rel J → HGo E (lawF s0) me_L_law 814 [(3, .int (nI j)), (2, .ref 87), (1, .ref 0), (0, .ref 4000)] [] J) : HGo E (lawF s0) me_L_law 653 [(3, .int (nI j)), (2, .ref 87), (1, .ref 0), (0, .ref 4000)] [] I := by
  have kk1 : nI j + 1 = nI (j + 1) := nI_1 j
  refine h_aload_n dL_law_653 rfl 2 rfl ?_
  refine h_aload_n dL_law_654 rfl 3 rfl ?_
  refine h_iload_n dL_law_655 rfl 0 rfl ?_
  refine h_iconst (v := 1) dL_law_656 (by decide) ?_
  refine h_iadd dL_law_657 ?_
  rw [kk1]
  refine h_script hX hb eb hL (k := j + 1) (by omega) dL_law_658 ?_
  refine h_invV (As := [.int (xs (j + 1))]) (st := []) dL_law_659 lk_L_92 (law_rm s0 (by decide)) nl_0 zk_0 (by decide) rfl rfl rfl (Nat.le_of_ble_eq_true rfl) ?_
  refine HCall.mono (t_bait (d := 0) hr) (fun v J hv => ?_)
  refine h_aload_n dL_law_662 rfl 1 rfl ?_
  refine h_aload_n dL_law_663 rfl 3 rfl ?_
  refine h_iload_n dL_law_664 rfl 0 rfl ?_
  refine h_iconst (v := 1) dL_law_665 (by decide) ?_
  refine h_iadd dL_law_666 ?_
  rw [kk1]
  refine h_script hX hb eb hL (k := j + 1) (by omega) dL_law_667 ?_
  refine h_invV (As := [.int (xs (j + 1))]) (st := v.toList ++ []) dL_law_668 lk_L_95 (law_rm s0 (by decide)) nl_87 zk_87 (by decide) rfl rfl rfl (cat_opt v) ?_
  refine HCall.mono hv (fun v2 J2 h2 => ?_)
  obtain ⟨r, rfl, rfl, hr2⟩ := h2
  refine h_icmp_eq (tgt := 814) dL_law_671 (by decide) (fun _ => K J2 hr2) (fun z => absurd rfl z)
theorem lw_c19 (hX : va_X b L xs s0 s0.heap) (hb : b < s0.heap.size) (eb : E.2.2.2 4000 = b) (hL : L ≤ 256) {j : Nat} (hj : j + 4 ≤ L) (hr : Rel I) (K : ∀ J, Rel J → HGo E (lawF s0) me_L_law 814 [(3, .int (nI j)), (2, .ref 87), (1, .ref 0), (0, .ref 4000)] [] J) : HGo E (lawF s0) me_L_law 676 [(3, .int (nI j)), (2, .ref 87), (1, .ref 0), (0, .ref 4000)] [] I := by
  have kk1 : nI j + 1 = nI (j + 1) := nI_1 j
  have kk2 : nI j + 2 = nI (j + 2) := by rw [show (2 : Int32) = nI 2 from rfl, nI_add]
  refine h_aload_n dL_law_676 rfl 2 rfl ?_
  refine h_aload_n dL_law_677 rfl 3 rfl ?_
  refine h_iload_n dL_law_678 rfl 0 rfl ?_
  refine h_iconst (v := 1) dL_law_679 (by decide) ?_
  refine h_iadd dL_law_680 ?_
  rw [kk1]
  refine h_script hX hb eb hL (k := j + 1) (by omega) dL_law_681 ?_
  refine h_aload_n dL_law_682 rfl 3 rfl ?_
  refine h_iload_n dL_law_683 rfl 0 rfl ?_
  refine h_iconst (v := 2) dL_law_684 (by decide) ?_
  refine h_iadd dL_law_685 ?_
  rw [kk2]
  refine h_script hX hb eb hL (k := j + 2) (by omega) dL_law_686 ?_
  refine h_invV (As := [.int (xs (j + 1)), .int (xs (j + 2))]) (st := []) dL_law_687 lk_L_96 (law_rm s0 (by decide)) nl_0 zk_0 (by decide) rfl rfl rfl (Nat.le_of_ble_eq_true rfl) ?_
  refine HCall.mono (t_note (d := 0) hr) (fun v J hv => ?_)
  refine h_aload_n dL_law_690 rfl 1 rfl ?_
  refine h_aload_n dL_law_691 rfl 3 rfl ?_
  refine h_iload_n dL_law_692 rfl 0 rfl ?_
  refine h_iconst (v := 1) dL_law_693 (by decide) ?_
  refine h_iadd dL_law_694 ?_
  rw [kk1]
  refine h_script hX hb eb hL (k := j + 1) (by omega) dL_law_695 ?_
  refine h_aload_n dL_law_696 rfl 3 rfl ?_
  refine h_iload_n dL_law_697 rfl 0 rfl ?_
  refine h_iconst (v := 2) dL_law_698 (by decide) ?_
  refine h_iadd dL_law_699 ?_
  rw [kk2]
  refine h_script hX hb eb hL (k := j + 2) (by omega) dL_law_700 ?_
  refine h_invV (As := [.int (xs (j + 1)), .int (xs (j + 2))]) (st := v.toList ++ []) dL_law_701 lk_L_99 (law_rm s0 (by decide)) nl_87 zk_87 (by decide) rfl rfl rfl (cat_opt v) ?_
  refine HCall.mono hv (fun v2 J2 h2 => ?_)
  obtain ⟨r, rfl, rfl, hr2⟩ := h2
  refine h_icmp_eq (tgt := 814) dL_law_704 (by decide) (fun _ => K J2 hr2) (fun z => absurd rfl z)
theorem lw_c20 (hX : va_X b L xs s0 s0.heap) (hb : b < s0.heap.size) (eb : E.2.2.2 4000 = b) (hL : L ≤ 256) {j : Nat} (hj : j + 4 ≤ L) (hr : Rel I) (K : ∀ J, Rel J → HGo E (lawF s0) me_L_law 814 [(3, .int (nI j)), (2, .ref 87), (1, .ref 0), (0, .ref 4000)] [] J) : HGo E (lawF s0) me_L_law 709 [(3, .int (nI j)), (2, .ref 87), (1, .ref 0), (0, .ref 4000)] [] I := by
  refine h_aload_n dL_law_709 rfl 2 rfl ?_
  refine h_invV (As := []) (st := []) dL_law_710 lk_L_100 (law_rm s0 (by decide)) nl_0 zk_0 (by decide) rfl rfl rfl (Nat.le_of_ble_eq_true rfl) ?_
  refine HCall.mono (t_forget (d := 0) hr) (fun v J hv => ?_)
  refine h_aload_n dL_law_713 rfl 1 rfl ?_
  refine h_invV (As := []) (st := v.toList ++ []) dL_law_714 lk_L_103 (law_rm s0 (by decide)) nl_87 zk_87 (by decide) rfl rfl rfl (cat_opt v) ?_
  refine HCall.mono hv (fun v2 J2 h2 => ?_)
  obtain ⟨r, rfl, rfl, hr2⟩ := h2
  refine h_icmp_eq (tgt := 814) dL_law_717 (by decide) (fun _ => K J2 hr2) (fun z => absurd rfl z)
theorem lw_c21 (hX : va_X b L xs s0 s0.heap) (hb : b < s0.heap.size) (eb : E.2.2.2 4000 = b) (hL : L ≤ 256) {j : Nat} (hj : j + 4 ≤ L) (hr : Rel I) (K : ∀ J, Rel J → HGo E (lawF s0) me_L_law 814 [(3, .int (nI j)), (2, .ref 87), (1, .ref 0), (0, .ref 4000)] [] J) : HGo E (lawF s0) me_L_law 722 [(3, .int (nI j)), (2, .ref 87), (1, .ref 0), (0, .ref 4000)] [] I := by
  have kk1 : nI j + 1 = nI (j + 1) := nI_1 j
  refine h_aload_n dL_law_722 rfl 2 rfl ?_
  refine h_aload_n dL_law_723 rfl 3 rfl ?_
  refine h_iload_n dL_law_724 rfl 0 rfl ?_
  refine h_iconst (v := 1) dL_law_725 (by decide) ?_
  refine h_iadd dL_law_726 ?_
  rw [kk1]
  refine h_script hX hb eb hL (k := j + 1) (by omega) dL_law_727 ?_
  refine h_invV (As := [.int (xs (j + 1))]) (st := []) dL_law_728 lk_L_104 (law_rm s0 (by decide)) nl_0 zk_0 (by decide) rfl rfl rfl (Nat.le_of_ble_eq_true rfl) ?_
  refine HCall.mono (tw_lay (d := 0) hr) (fun v J hv => ?_)
  refine h_aload_n dL_law_731 rfl 1 rfl ?_
  refine h_aload_n dL_law_732 rfl 3 rfl ?_
  refine h_iload_n dL_law_733 rfl 0 rfl ?_
  refine h_iconst (v := 1) dL_law_734 (by decide) ?_
  refine h_iadd dL_law_735 ?_
  rw [kk1]
  refine h_script hX hb eb hL (k := j + 1) (by omega) dL_law_736 ?_
  refine h_invV (As := [.int (xs (j + 1))]) (st := v.toList ++ []) dL_law_737 lk_L_107 (law_rm s0 (by decide)) nl_87 zk_87 (by decide) rfl rfl rfl (cat_opt v) ?_
  refine HCall.mono hv (fun v2 J2 h2 => ?_)
  obtain ⟨r, rfl, rfl, hr2⟩ := h2
  refine h_icmp_eq (tgt := 814) dL_law_740 (by decide) (fun _ => K J2 hr2) (fun z => absurd rfl z)
theorem lw_c22 (hX : va_X b L xs s0 s0.heap) (hb : b < s0.heap.size) (eb : E.2.2.2 4000 = b) (hL : L ≤ 256) {j : Nat} (hj : j + 4 ≤ L) (hr : Rel I) (K : ∀ J, Rel J → HGo E (lawF s0) me_L_law 814 [(3, .int (nI j)), (2, .ref 87), (1, .ref 0), (0, .ref 4000)] [] J) : HGo E (lawF s0) me_L_law 745 [(3, .int (nI j)), (2, .ref 87), (1, .ref 0), (0, .ref 4000)] [] I := by
  have kk1 : nI j + 1 = nI (j + 1) := nI_1 j
  refine h_aload_n dL_law_745 rfl 2 rfl ?_
  refine h_aload_n dL_law_746 rfl 3 rfl ?_
  refine h_iload_n dL_law_747 rfl 0 rfl ?_
  refine h_iconst (v := 1) dL_law_748 (by decide) ?_
  refine h_iadd dL_law_749 ?_
  rw [kk1]
  refine h_script hX hb eb hL (k := j + 1) (by omega) dL_law_750 ?_
  refine h_invV (As := [.int (xs (j + 1))]) (st := []) dL_law_751 lk_L_108 (law_rm s0 (by decide)) nl_0 zk_0 (by decide) rfl rfl rfl (Nat.le_of_ble_eq_true rfl) ?_
  refine HCall.mono (t_keep (d := 0) hr) (fun v J hv => ?_)
  refine h_aload_n dL_law_754 rfl 1 rfl ?_
  refine h_aload_n dL_law_755 rfl 3 rfl ?_
  refine h_iload_n dL_law_756 rfl 0 rfl ?_
  refine h_iconst (v := 1) dL_law_757 (by decide) ?_
  refine h_iadd dL_law_758 ?_
  rw [kk1]
  refine h_script hX hb eb hL (k := j + 1) (by omega) dL_law_759 ?_
  refine h_invV (As := [.int (xs (j + 1))]) (st := v.toList ++ []) dL_law_760 lk_L_111 (law_rm s0 (by decide)) nl_87 zk_87 (by decide) rfl rfl rfl (cat_opt v) ?_
  refine HCall.mono hv (fun v2 J2 h2 => ?_)
  obtain ⟨r, rfl, rfl, hr2⟩ := h2
  refine h_icmp_eq (tgt := 814) dL_law_763 (by decide) (fun _ => K J2 hr2) (fun z => absurd rfl z)
theorem lw_c23 (hX : va_X b L xs s0 s0.heap) (hb : b < s0.heap.size) (eb : E.2.2.2 4000 = b) (hL : L ≤ 256) {j : Nat} (hj : j + 4 ≤ L) (hr : Rel I) (K : ∀ J, Rel J → HGo E (lawF s0) me_L_law 814 [(3, .int (nI j)), (2, .ref 87), (1, .ref 0), (0, .ref 4000)] [] J) : HGo E (lawF s0) me_L_law 768 [(3, .int (nI j)), (2, .ref 87), (1, .ref 0), (0, .ref 4000)] [] I := by
  have kk1 : nI j + 1 = nI (j + 1) := nI_1 j
  refine h_aload_n dL_law_768 rfl 2 rfl ?_
  refine h_aload_n dL_law_769 rfl 3 rfl ?_
  refine h_iload_n dL_law_770 rfl 0 rfl ?_
  refine h_iconst (v := 1) dL_law_771 (by decide) ?_
  refine h_iadd dL_law_772 ?_
  rw [kk1]
  refine h_script hX hb eb hL (k := j + 1) (by omega) dL_law_773 ?_
  refine h_invV (As := [.int (xs (j + 1))]) (st := []) dL_law_774 lk_L_112 (law_rm s0 (by decide)) nl_0 zk_0 (by decide) rfl rfl rfl (Nat.le_of_ble_eq_true rfl) ?_
  refine HCall.mono (t_back (d := 0) hr) (fun v J hv => ?_)
  refine h_aload_n dL_law_777 rfl 1 rfl ?_
  refine h_aload_n dL_law_778 rfl 3 rfl ?_
  refine h_iload_n dL_law_779 rfl 0 rfl ?_
  refine h_iconst (v := 1) dL_law_780 (by decide) ?_
  refine h_iadd dL_law_781 ?_
  rw [kk1]
  refine h_script hX hb eb hL (k := j + 1) (by omega) dL_law_782 ?_
  refine h_invV (As := [.int (xs (j + 1))]) (st := v.toList ++ []) dL_law_783 lk_L_115 (law_rm s0 (by decide)) nl_87 zk_87 (by decide) rfl rfl rfl (cat_opt v) ?_
  refine HCall.mono hv (fun v2 J2 h2 => ?_)
  obtain ⟨r, rfl, rfl, hr2⟩ := h2
  refine h_icmp_eq (tgt := 814) dL_law_786 (by decide) (fun _ => K J2 hr2) (fun z => absurd rfl z)
theorem lw_c24 (hX : va_X b L xs s0 s0.heap) (hb : b < s0.heap.size) (eb : E.2.2.2 4000 = b) (hL : L ≤ 256) {j : Nat} (hj : j + 4 ≤ L) (hr : Rel I) (K : ∀ J, Rel J → HGo E (lawF s0) me_L_law 814 [(3, .int (nI j)), (2, .ref 87), (1, .ref 0), (0, .ref 4000)] [] J) : HGo E (lawF s0) me_L_law 791 [(3, .int (nI j)), (2, .ref 87), (1, .ref 0), (0, .ref 4000)] [] I := by
  have kk1 : nI j + 1 = nI (j + 1) := nI_1 j
  refine h_aload_n dL_law_791 rfl 2 rfl ?_
  refine h_aload_n dL_law_792 rfl 3 rfl ?_
  refine h_iload_n dL_law_793 rfl 0 rfl ?_
  refine h_iconst (v := 1) dL_law_794 (by decide) ?_
  refine h_iadd dL_law_795 ?_
  rw [kk1]
  refine h_script hX hb eb hL (k := j + 1) (by omega) dL_law_796 ?_
  refine h_invV (As := [.int (xs (j + 1))]) (st := []) dL_law_797 lk_L_116 (law_rm s0 (by decide)) nl_0 zk_0 (by decide) rfl rfl rfl (Nat.le_of_ble_eq_true rfl) ?_
  refine HCall.mono (t_count (d := 0) hr) (fun v J hv => ?_)
  refine h_aload_n dL_law_800 rfl 1 rfl ?_
  refine h_aload_n dL_law_801 rfl 3 rfl ?_
  refine h_iload_n dL_law_802 rfl 0 rfl ?_
  refine h_iconst (v := 1) dL_law_803 (by decide) ?_
  refine h_iadd dL_law_804 ?_
  rw [kk1]
  refine h_script hX hb eb hL (k := j + 1) (by omega) dL_law_805 ?_
  refine h_invV (As := [.int (xs (j + 1))]) (st := v.toList ++ []) dL_law_806 lk_L_119 (law_rm s0 (by decide)) nl_87 zk_87 (by decide) rfl rfl rfl (cat_opt v) ?_
  refine HCall.mono hv (fun v2 J2 h2 => ?_)
  obtain ⟨r, rfl, rfl, hr2⟩ := h2
  refine h_icmp_eq (tgt := 814) dL_law_809 (by decide) (fun _ => K J2 hr2) (fun z => absurd rfl z)
theorem law_18 (hX : va_X b L xs s0 s0.heap) (hb : b < s0.heap.size) (eb : E.2.2.2 4000 = b) (hL : L ≤ 256) : ∀ (r j : Nat) (I : HIh), L < j + 4 + r → j ≤ 300 → Rel I → HGo E (lawF s0) me_L_law 18 [(3, .int (nI j)), (2, .ref 87), (1, .ref 0), (0, .ref 4000)] [] I
  | r, j, I, hr, hj, hR => by
    have e4 : (nI L - 4).toInt = (L : Int) - 4 := by
      rw [fb_subI (by rw [nI_toInt (by omega)]; show (-2147483648 : Int) ≤ (L : Int) - 4; omega) (by rw [nI_toInt (by omega)]; show (L : Int) - 4 < 2147483648; omega), nI_toInt (by omega)]; rfl
    refine h_iload_n dL_law_18 rfl 0 rfl ?_
    refine h_aload_n dL_law_19 rfl 3 rfl ?_
    refine h_slen hX hb eb dL_law_20 ?_
    refine h_iconst (v := 4) dL_law_21 (by decide) ?_
    refine h_isub dL_law_22 ?_
    refine h_icmp_gt (tgt := 820) dL_law_23 (by decide) (fun z => ?_) (fun z => ?_)
    · refine h_iconst (v := 1) dL_law_820 (by decide) ?_
      exact h_lend dL_law_821
    · rw [i_lt, e4, nI_toInt (by omega)] at z
      have hj4 : j + 4 ≤ L := by omega
      obtain ⟨r, rfl⟩ : ∃ k, r = k + 1 := ⟨r - 1, by omega⟩
      have K : ∀ J, Rel J → HGo E (lawF s0) me_L_law 814 [(3, .int (nI j)), (2, .ref 87), (1, .ref 0), (0, .ref 4000)] [] J := fun J hJ => by
        refine h_iinc (v := nI (j + 4)) (L' := [(3, .int (nI (j + 4))), (2, .ref 87), (1, .ref 0), (0, .ref 4000)]) dL_law_814 0 rfl (by rw [show Int32.ofInt 4 = nI 4 from rfl, nI_add]) (by decide) rfl ?_
        refine h_goto (tgt := 18) dL_law_817 (by decide) ?_
        exact law_18 hX hb eb hL r (j + 4) J (by omega) (by omega) hJ
      refine h_aload_n dL_law_26 rfl 3 rfl ?_
      refine h_iload_n dL_law_27 rfl 0 rfl ?_
      refine h_script hX hb eb hL (k := j) (by omega) dL_law_28 ?_
      refine h_bipush (v := 31) dL_law_29 (by decide) ?_
      refine h_iand dL_law_31 ?_
      obtain ⟨v, hv, ev⟩ := pk_andE (xs j) (m := 31) 5 (by decide)
      rw [ev]
      have ti : (nI v).toInt = v := nI_toInt (by omega)
      rcases (show v = 0 ∨ v = 1 ∨ v = 2 ∨ v = 3 ∨ v = 4 ∨ v = 5 ∨ v = 6 ∨ v = 7 ∨ v = 8 ∨ v = 9 ∨ v = 10 ∨ v = 11 ∨ v = 12 ∨ v = 13 ∨ v = 14 ∨ v = 15 ∨ v = 16 ∨ v = 17 ∨ v = 18 ∨ v = 19 ∨ v = 20 ∨ v = 21 ∨ v = 22 ∨ v = 23 ∨ v = 24 ∨ 25 ≤ v by omega) with rfl | rfl | rfl | rfl | rfl | rfl | rfl | rfl | rfl | rfl | rfl | rfl | rfl | rfl | rfl | rfl | rfl | rfl | rfl | rfl | rfl | rfl | rfl | rfl | rfl | h

      · exact h_tswIn (tgt := 148) 0 dL_law_32 ti (by decide) (by decide) rfl (by decide) (lw_c0 hX hb eb hL hj4 hR K)
      · exact h_tswIn (tgt := 211) 1 dL_law_32 ti (by decide) (by decide) rfl (by decide) (lw_c1 hX hb eb hL hj4 hR K)
      · exact h_tswIn (tgt := 224) 2 dL_law_32 ti (by decide) (by decide) rfl (by decide) (lw_c2 hX hb eb hL hj4 hR K)
      · exact h_tswIn (tgt := 237) 3 dL_law_32 ti (by decide) (by decide) rfl (by decide) (lw_c3 hX hb eb hL hj4 hR K)
      · exact h_tswIn (tgt := 250) 4 dL_law_32 ti (by decide) (by decide) rfl (by decide) (lw_c4 hX hb eb hL hj4 hR K)
      · exact h_tswIn (tgt := 283) 5 dL_law_32 ti (by decide) (by decide) rfl (by decide) (lw_c5 hX hb eb hL hj4 hR K)
      · exact h_tswIn (tgt := 316) 6 dL_law_32 ti (by decide) (by decide) rfl (by decide) (lw_c6 hX hb eb hL hj4 hR K)
      · exact h_tswIn (tgt := 349) 7 dL_law_32 ti (by decide) (by decide) rfl (by decide) (lw_c7 hX hb eb hL hj4 hR K)
      · exact h_tswIn (tgt := 382) 8 dL_law_32 ti (by decide) (by decide) rfl (by decide) (lw_c8 hX hb eb hL hj4 hR K)
      · exact h_tswIn (tgt := 405) 9 dL_law_32 ti (by decide) (by decide) rfl (by decide) (lw_c9 hX hb eb hL hj4 hR K)
      · exact h_tswIn (tgt := 438) 10 dL_law_32 ti (by decide) (by decide) rfl (by decide) (lw_c10 hX hb eb hL hj4 hR K)
      · exact h_tswIn (tgt := 461) 11 dL_law_32 ti (by decide) (by decide) rfl (by decide) (lw_c11 hX hb eb hL hj4 hR K)
      · exact h_tswIn (tgt := 484) 12 dL_law_32 ti (by decide) (by decide) rfl (by decide) (lw_c12 hX hb eb hL hj4 hR K)
      · exact h_tswIn (tgt := 517) 13 dL_law_32 ti (by decide) (by decide) rfl (by decide) (lw_c13 hX hb eb hL hj4 hR K)
      · exact h_tswIn (tgt := 540) 14 dL_law_32 ti (by decide) (by decide) rfl (by decide) (lw_c14 hX hb eb hL hj4 hR K)
      · exact h_tswIn (tgt := 563) 15 dL_law_32 ti (by decide) (by decide) rfl (by decide) (lw_c15 hX hb eb hL hj4 hR K)
      · exact h_tswIn (tgt := 596) 16 dL_law_32 ti (by decide) (by decide) rfl (by decide) (lw_c16 hX hb eb hL hj4 hR K)
      · exact h_tswIn (tgt := 640) 17 dL_law_32 ti (by decide) (by decide) rfl (by decide) (lw_c17 hX hb eb hL hj4 hR K)
      · exact h_tswIn (tgt := 653) 18 dL_law_32 ti (by decide) (by decide) rfl (by decide) (lw_c18 hX hb eb hL hj4 hR K)
      · exact h_tswIn (tgt := 676) 19 dL_law_32 ti (by decide) (by decide) rfl (by decide) (lw_c19 hX hb eb hL hj4 hR K)
      · exact h_tswIn (tgt := 709) 20 dL_law_32 ti (by decide) (by decide) rfl (by decide) (lw_c20 hX hb eb hL hj4 hR K)
      · exact h_tswIn (tgt := 722) 21 dL_law_32 ti (by decide) (by decide) rfl (by decide) (lw_c21 hX hb eb hL hj4 hR K)
      · exact h_tswIn (tgt := 745) 22 dL_law_32 ti (by decide) (by decide) rfl (by decide) (lw_c22 hX hb eb hL hj4 hR K)
      · exact h_tswIn (tgt := 768) 23 dL_law_32 ti (by decide) (by decide) rfl (by decide) (lw_c23 hX hb eb hL hj4 hR K)
      · exact h_tswIn (tgt := 791) 24 dL_law_32 ti (by decide) (by decide) rfl (by decide) (lw_c24 hX hb eb hL hj4 hR K)
      · exact h_tswOut (tgt := 814) dL_law_32 (Or.inr (by rw [ti]; omega)) (by decide) (K I hR)
end LAW
