/-! THE CLAIM OUT OF ONE WALK OF THE LAW'S BODY. Your part is whole_start (and what it stands on); all else here is the same for every law, but numbers. -/
def R_law : String := "PrunedSearchLaw"
def lw_P (b : Addr) (xs : List Int32) (args : Array Value) (s : State) : Prop := args = #[.ref b] ∧ s.IntsAt b xs ∧ xs.length ≤ 1536 ∧ (Jvm.Cond.and given_1 narrow_1).before args s = true
def lw_Q (_ : Array Value) (s : State) (o : Outcome) (t : State) : Prop := o = .returned (some (.int 1)) ∧ Framed s o t [] 600000 7302250
def lw_Z (below : List Frame) (a : Array Value) (s : State) : State → Prop := fun t => ∃ o, t.status = .running ∧ Ended t below o ∧ lw_Q a s o t
/-- the law's own end, with 1 on the stack, nothing written that was there before, its room as the claim has it -/
theorem lw_ret {p : Program} {l : Launch} {e : Env} {s : State} {m : MethodId} {below : List Frame} {meth : Method} {c : Code} {b : Nat} (hx : p.tables.exec = Jvm.exec) (hb : c.code = code) (hr : meth.sig.returnType = ret) (hlocks : meth.locks = false) {pc : Nat} {H : Heap} {ls : Array Slot} (hdg : decode code pc = .ok (.ireturn, 1)) : W p l e room_1 s m #[Value.ref b] below meth c H [] 600000 7302250 (lw_Z below #[Value.ref b] s) (F0 m pc ls [.int 1]) := by
  intro T hT X
  obtain ⟨fs, hret, hrun, hended, hW, hframe⟩ := X.leave (v := some (.int 1)) (hlocks := hlocks) (fun h => by rw [hr] at h; cases h)
  have hmeth' : T.vm.method? m = some meth := X.method'
  refine ⟨T.setFrames fs, ?_, .returned (some (.int 1)), hrun, hended, rfl, ⟨_, rfl⟩, hW, hframe⟩
  jvm_step X.here [X.here.top, hx, hb, hdg, hmeth', hr, ret, narrow_b1]
  (try refine ⟨rfl, ?_⟩); (try refine ⟨rfl, ?_⟩)
  first | (intro acts; rw [hret _ acts rfl rfl rfl]) | rw [hret _ _ rfl rfl rfl]
  exact Steps.refl _
/-- what holds at the law's entry: the machine, the code, the tables' words (any of lw_tbl by 'hts w (by decide +kernel)'), the script of L ints xs at the cell b, what the Statement gives of the start (any of its parts by flat_of_before) -/
def lw_At (p : Program) (s : State) (m : MethodId) (meth : Method) (c : Code) (b L : Nat) (xs : Nat → Int32) : Prop :=
  p.tables.exec = Jvm.exec ∧ c.code = code ∧ meth.sig.returnType = ret ∧ c.maxLocals = 4 ∧ s.vm.findClass R_law = some m.cls ∧ (∀ w ∈ lw_tbl, w.before #[Value.ref b] s = true) ∧ va_X b L xs s s.heap ∧ b < s.heap.size ∧ meth.locks = false ∧ (Jvm.Cond.and given_1 narrow_1).before #[Value.ref b] s = true

theorem dl_0 : decode code 0 = .ok (.new 7, 3) := by decide +kernel
theorem dl_3 : decode code 3 = .ok (.dup, 1) := by decide +kernel
theorem dl_4 : decode code 4 = .ok (.invokespecial 9, 3) := by decide +kernel
theorem dl_7 : decode code 7 = .ok (.astore_n 1, 1) := by decide +kernel
theorem dl_8 : decode code 8 = .ok (.new 10, 3) := by decide +kernel
theorem dl_11 : decode code 11 = .ok (.dup, 1) := by decide +kernel
theorem dl_12 : decode code 12 = .ok (.invokespecial 12, 3) := by decide +kernel
theorem dl_15 : decode code 15 = .ok (.astore_n 2, 1) := by decide +kernel
theorem dl_16 : decode code 16 = .ok (.iconst 0, 1) := by decide +kernel
theorem dl_17 : decode code 17 = .ok (.istore_n 3, 1) := by decide +kernel
theorem dl_18 : decode code 18 = .ok (.iload_n 3, 1) := by decide +kernel
theorem dl_19 : decode code 19 = .ok (.aload_n 0, 1) := by decide +kernel
theorem dl_20 : decode code 20 = .ok (.arraylength, 1) := by decide +kernel
theorem dl_21 : decode code 21 = .ok (.iconst 3, 1) := by decide +kernel
theorem dl_22 : decode code 22 = .ok (.isub, 1) := by decide +kernel
theorem dl_23 : decode code 23 = .ok (.if_icmp .gt 286, 3) := by decide +kernel
theorem dl_26 : decode code 26 = .ok (.aload_n 0, 1) := by decide +kernel
theorem dl_27 : decode code 27 = .ok (.iload_n 3, 1) := by decide +kernel
theorem dl_28 : decode code 28 = .ok (.iaload, 1) := by decide +kernel
theorem dl_29 : decode code 29 = .ok (.bipush 15, 2) := by decide +kernel
theorem dl_31 : decode code 31 = .ok (.iand, 1) := by decide +kernel
theorem dl_32 : decode code 32 = .ok (.tableswitch 271 0 10 #[60, 113, 126, 139, 162, 195, 208, 221, 234, 247, 260], 60) := by decide +kernel
theorem dl_92 : decode code 92 = .ok (.aload_n 1, 1) := by decide +kernel
theorem dl_93 : decode code 93 = .ok (.aload_n 0, 1) := by decide +kernel
theorem dl_94 : decode code 94 = .ok (.iload_n 3, 1) := by decide +kernel
theorem dl_95 : decode code 95 = .ok (.iconst 1, 1) := by decide +kernel
theorem dl_96 : decode code 96 = .ok (.iadd, 1) := by decide +kernel
theorem dl_97 : decode code 97 = .ok (.iaload, 1) := by decide +kernel
theorem dl_98 : decode code 98 = .ok (.i2l, 1) := by decide +kernel
theorem dl_99 : decode code 99 = .ok (.bipush 32, 2) := by decide +kernel
theorem dl_101 : decode code 101 = .ok (.lshl, 1) := by decide +kernel
theorem dl_102 : decode code 102 = .ok (.aload_n 0, 1) := by decide +kernel
theorem dl_103 : decode code 103 = .ok (.iload_n 3, 1) := by decide +kernel
theorem dl_104 : decode code 104 = .ok (.iconst 2, 1) := by decide +kernel
theorem dl_105 : decode code 105 = .ok (.iadd, 1) := by decide +kernel
theorem dl_106 : decode code 106 = .ok (.iaload, 1) := by decide +kernel
theorem dl_107 : decode code 107 = .ok (.i2l, 1) := by decide +kernel
theorem dl_108 : decode code 108 = .ok (.ldc2_w 13, 3) := by decide +kernel
theorem dl_111 : decode code 111 = .ok (.land, 1) := by decide +kernel
theorem dl_112 : decode code 112 = .ok (.lor, 1) := by decide +kernel
theorem dl_113 : decode code 113 = .ok (.invokevirtual 15, 3) := by decide +kernel
theorem dl_116 : decode code 116 = .ok (.aload_n 2, 1) := by decide +kernel
theorem dl_117 : decode code 117 = .ok (.aload_n 0, 1) := by decide +kernel
theorem dl_118 : decode code 118 = .ok (.iload_n 3, 1) := by decide +kernel
theorem dl_119 : decode code 119 = .ok (.iconst 1, 1) := by decide +kernel
theorem dl_120 : decode code 120 = .ok (.iadd, 1) := by decide +kernel
theorem dl_121 : decode code 121 = .ok (.iaload, 1) := by decide +kernel
theorem dl_122 : decode code 122 = .ok (.i2l, 1) := by decide +kernel
theorem dl_123 : decode code 123 = .ok (.bipush 32, 2) := by decide +kernel
theorem dl_125 : decode code 125 = .ok (.lshl, 1) := by decide +kernel
theorem dl_126 : decode code 126 = .ok (.aload_n 0, 1) := by decide +kernel
theorem dl_127 : decode code 127 = .ok (.iload_n 3, 1) := by decide +kernel
theorem dl_128 : decode code 128 = .ok (.iconst 2, 1) := by decide +kernel
theorem dl_129 : decode code 129 = .ok (.iadd, 1) := by decide +kernel
theorem dl_130 : decode code 130 = .ok (.iaload, 1) := by decide +kernel
theorem dl_131 : decode code 131 = .ok (.i2l, 1) := by decide +kernel
theorem dl_132 : decode code 132 = .ok (.ldc2_w 13, 3) := by decide +kernel
theorem dl_135 : decode code 135 = .ok (.land, 1) := by decide +kernel
theorem dl_136 : decode code 136 = .ok (.lor, 1) := by decide +kernel
theorem dl_137 : decode code 137 = .ok (.invokevirtual 19, 3) := by decide +kernel
theorem dl_140 : decode code 140 = .ok (.if_icmp .eq 163, 3) := by decide +kernel
theorem dl_143 : decode code 143 = .ok (.iconst 0, 1) := by decide +kernel
theorem dl_144 : decode code 144 = .ok (.ireturn, 1) := by decide +kernel
theorem dl_145 : decode code 145 = .ok (.aload_n 1, 1) := by decide +kernel
theorem dl_146 : decode code 146 = .ok (.invokevirtual 20, 3) := by decide +kernel
theorem dl_149 : decode code 149 = .ok (.aload_n 2, 1) := by decide +kernel
theorem dl_150 : decode code 150 = .ok (.invokevirtual 24, 3) := by decide +kernel
theorem dl_153 : decode code 153 = .ok (.if_icmp .eq 150, 3) := by decide +kernel
theorem dl_156 : decode code 156 = .ok (.iconst 0, 1) := by decide +kernel
theorem dl_157 : decode code 157 = .ok (.ireturn, 1) := by decide +kernel
theorem dl_158 : decode code 158 = .ok (.aload_n 1, 1) := by decide +kernel
theorem dl_159 : decode code 159 = .ok (.invokevirtual 25, 3) := by decide +kernel
theorem dl_162 : decode code 162 = .ok (.aload_n 2, 1) := by decide +kernel
theorem dl_163 : decode code 163 = .ok (.invokevirtual 28, 3) := by decide +kernel
theorem dl_166 : decode code 166 = .ok (.if_icmp .eq 137, 3) := by decide +kernel
theorem dl_169 : decode code 169 = .ok (.iconst 0, 1) := by decide +kernel
theorem dl_170 : decode code 170 = .ok (.ireturn, 1) := by decide +kernel
theorem dl_171 : decode code 171 = .ok (.aload_n 1, 1) := by decide +kernel
theorem dl_172 : decode code 172 = .ok (.aload_n 0, 1) := by decide +kernel
theorem dl_173 : decode code 173 = .ok (.iload_n 3, 1) := by decide +kernel
theorem dl_174 : decode code 174 = .ok (.iconst 1, 1) := by decide +kernel
theorem dl_175 : decode code 175 = .ok (.iadd, 1) := by decide +kernel
theorem dl_176 : decode code 176 = .ok (.iaload, 1) := by decide +kernel
theorem dl_177 : decode code 177 = .ok (.invokevirtual 29, 3) := by decide +kernel
theorem dl_180 : decode code 180 = .ok (.aload_n 2, 1) := by decide +kernel
theorem dl_181 : decode code 181 = .ok (.aload_n 0, 1) := by decide +kernel
theorem dl_182 : decode code 182 = .ok (.iload_n 3, 1) := by decide +kernel
theorem dl_183 : decode code 183 = .ok (.iconst 1, 1) := by decide +kernel
theorem dl_184 : decode code 184 = .ok (.iadd, 1) := by decide +kernel
theorem dl_185 : decode code 185 = .ok (.iaload, 1) := by decide +kernel
theorem dl_186 : decode code 186 = .ok (.invokevirtual 33, 3) := by decide +kernel
theorem dl_189 : decode code 189 = .ok (.if_icmp .eq 114, 3) := by decide +kernel
theorem dl_192 : decode code 192 = .ok (.iconst 0, 1) := by decide +kernel
theorem dl_193 : decode code 193 = .ok (.ireturn, 1) := by decide +kernel
theorem dl_194 : decode code 194 = .ok (.aload_n 1, 1) := by decide +kernel
theorem dl_195 : decode code 195 = .ok (.aload_n 0, 1) := by decide +kernel
theorem dl_196 : decode code 196 = .ok (.iload_n 3, 1) := by decide +kernel
theorem dl_197 : decode code 197 = .ok (.iconst 1, 1) := by decide +kernel
theorem dl_198 : decode code 198 = .ok (.iadd, 1) := by decide +kernel
theorem dl_199 : decode code 199 = .ok (.iaload, 1) := by decide +kernel
theorem dl_200 : decode code 200 = .ok (.aload_n 0, 1) := by decide +kernel
theorem dl_201 : decode code 201 = .ok (.iload_n 3, 1) := by decide +kernel
theorem dl_202 : decode code 202 = .ok (.iconst 2, 1) := by decide +kernel
theorem dl_203 : decode code 203 = .ok (.iadd, 1) := by decide +kernel
theorem dl_204 : decode code 204 = .ok (.iaload, 1) := by decide +kernel
theorem dl_205 : decode code 205 = .ok (.invokevirtual 34, 3) := by decide +kernel
theorem dl_208 : decode code 208 = .ok (.aload_n 2, 1) := by decide +kernel
theorem dl_209 : decode code 209 = .ok (.aload_n 0, 1) := by decide +kernel
theorem dl_210 : decode code 210 = .ok (.iload_n 3, 1) := by decide +kernel
theorem dl_211 : decode code 211 = .ok (.iconst 1, 1) := by decide +kernel
theorem dl_212 : decode code 212 = .ok (.iadd, 1) := by decide +kernel
theorem dl_213 : decode code 213 = .ok (.iaload, 1) := by decide +kernel
theorem dl_214 : decode code 214 = .ok (.aload_n 0, 1) := by decide +kernel
theorem dl_215 : decode code 215 = .ok (.iload_n 3, 1) := by decide +kernel
theorem dl_216 : decode code 216 = .ok (.iconst 2, 1) := by decide +kernel
theorem dl_217 : decode code 217 = .ok (.iadd, 1) := by decide +kernel
theorem dl_218 : decode code 218 = .ok (.iaload, 1) := by decide +kernel
theorem dl_219 : decode code 219 = .ok (.invokevirtual 38, 3) := by decide +kernel
theorem dl_222 : decode code 222 = .ok (.if_icmp .eq 81, 3) := by decide +kernel
theorem dl_225 : decode code 225 = .ok (.iconst 0, 1) := by decide +kernel
theorem dl_226 : decode code 226 = .ok (.ireturn, 1) := by decide +kernel
theorem dl_227 : decode code 227 = .ok (.aload_n 1, 1) := by decide +kernel
theorem dl_228 : decode code 228 = .ok (.invokevirtual 39, 3) := by decide +kernel
theorem dl_231 : decode code 231 = .ok (.aload_n 2, 1) := by decide +kernel
theorem dl_232 : decode code 232 = .ok (.invokevirtual 42, 3) := by decide +kernel
theorem dl_235 : decode code 235 = .ok (.if_icmp .eq 68, 3) := by decide +kernel
theorem dl_238 : decode code 238 = .ok (.iconst 0, 1) := by decide +kernel
theorem dl_239 : decode code 239 = .ok (.ireturn, 1) := by decide +kernel
theorem dl_240 : decode code 240 = .ok (.aload_n 1, 1) := by decide +kernel
theorem dl_241 : decode code 241 = .ok (.invokevirtual 43, 3) := by decide +kernel
theorem dl_244 : decode code 244 = .ok (.aload_n 2, 1) := by decide +kernel
theorem dl_245 : decode code 245 = .ok (.invokevirtual 46, 3) := by decide +kernel
theorem dl_248 : decode code 248 = .ok (.if_icmp .eq 55, 3) := by decide +kernel
theorem dl_251 : decode code 251 = .ok (.iconst 0, 1) := by decide +kernel
theorem dl_252 : decode code 252 = .ok (.ireturn, 1) := by decide +kernel
theorem dl_253 : decode code 253 = .ok (.aload_n 1, 1) := by decide +kernel
theorem dl_254 : decode code 254 = .ok (.invokevirtual 47, 3) := by decide +kernel
theorem dl_257 : decode code 257 = .ok (.aload_n 2, 1) := by decide +kernel
theorem dl_258 : decode code 258 = .ok (.invokevirtual 50, 3) := by decide +kernel
theorem dl_261 : decode code 261 = .ok (.if_icmp .eq 42, 3) := by decide +kernel
theorem dl_264 : decode code 264 = .ok (.iconst 0, 1) := by decide +kernel
theorem dl_265 : decode code 265 = .ok (.ireturn, 1) := by decide +kernel
theorem dl_266 : decode code 266 = .ok (.aload_n 1, 1) := by decide +kernel
theorem dl_267 : decode code 267 = .ok (.invokevirtual 51, 3) := by decide +kernel
theorem dl_270 : decode code 270 = .ok (.aload_n 2, 1) := by decide +kernel
theorem dl_271 : decode code 271 = .ok (.invokevirtual 54, 3) := by decide +kernel
theorem dl_274 : decode code 274 = .ok (.if_icmp .eq 29, 3) := by decide +kernel
theorem dl_277 : decode code 277 = .ok (.iconst 0, 1) := by decide +kernel
theorem dl_278 : decode code 278 = .ok (.ireturn, 1) := by decide +kernel
theorem dl_279 : decode code 279 = .ok (.aload_n 1, 1) := by decide +kernel
theorem dl_280 : decode code 280 = .ok (.invokevirtual 55, 3) := by decide +kernel
theorem dl_283 : decode code 283 = .ok (.aload_n 2, 1) := by decide +kernel
theorem dl_284 : decode code 284 = .ok (.invokevirtual 58, 3) := by decide +kernel
theorem dl_287 : decode code 287 = .ok (.if_icmp .eq 16, 3) := by decide +kernel
theorem dl_290 : decode code 290 = .ok (.iconst 0, 1) := by decide +kernel
theorem dl_291 : decode code 291 = .ok (.ireturn, 1) := by decide +kernel
theorem dl_292 : decode code 292 = .ok (.aload_n 1, 1) := by decide +kernel
theorem dl_293 : decode code 293 = .ok (.invokevirtual 59, 3) := by decide +kernel
theorem dl_296 : decode code 296 = .ok (.aload_n 2, 1) := by decide +kernel
theorem dl_297 : decode code 297 = .ok (.invokevirtual 62, 3) := by decide +kernel
theorem dl_300 : decode code 300 = .ok (.goto 3, 3) := by decide +kernel
theorem dl_303 : decode code 303 = .ok (.iinc 3 3, 3) := by decide +kernel
theorem dl_306 : decode code 306 = .ok (.goto (-288), 3) := by decide +kernel
theorem dl_309 : decode code 309 = .ok (.iconst 1, 1) := by decide +kernel
theorem dl_310 : decode code 310 = .ok (.ireturn, 1) := by decide +kernel
/-- the law's two worlds in one heap -/
def LF (s : State) (dC : Nat → ClassId) (dI : Nat → Nat → Nat) (ad1 ad2 : Nat → Nat) (cA : Nat → ClassId) : Prop :=
  adk ad1 (fun q => s.heap.size ≤ q) 45 ∧ adk ad2 (fun q => s.heap.size ≤ q) 32 ∧ (∀ i j, i < 45 → j < 32 → ad1 i ≠ ad2 j) ∧ va_K (dC, dI) classes (tyl cA) s ∧ SX ad1 (fun q => s.heap.size ≤ q) s ∧ SX ad2 (fun q => s.heap.size ≤ q) s
def LWS (s : State) (dC : Nat → ClassId) (dI : Nat → Nat → Nat) (ad1 ad2 : Nat → Nat) (cA : Nat → ClassId) (H : Heap) (locs : List Loc) (w1 w2 : List AC) : Prop :=
  va_P (dC, dI) classes (wsm ad1 cA w1) H ∧ va_P (dC, dI) classes (wsm ad2 cA w2) H ∧ va_S (fun q => s.heap.size ≤ q) s.heap H locs ∧ okw w1 ∧ okw w2 ∧ w1.length = 45 ∧ w2.length = 32
def LV (p : Program) (l : Launch) (e : Env) (s : State) (m : MethodId) (b : Nat) (below : List Frame) (meth : Method) (c : Code) (dC : Nat → ClassId) (dI : Nat → Nat → Nat) (ad1 ad2 : Nat → Nat) (cA : Nat → ClassId) (pc : Nat) (lv : List (Nat × Value)) (st : List Value) (w1 w2 : List AC) : Prop :=
  ∀ (H : Heap) (locs : List Loc), LWS s dC dI ad1 ad2 cA H locs w1 w2 → ∀ ls : Array Slot, lv_has ls 4 lv → W p l e room_1 s m #[Value.ref b] below meth c H locs 600000 7302250 (lw_Z below #[Value.ref b] s) (F0 m pc ls st)
section LAWC
variable {p : Program} {l : Launch} {e : Env} {s : State} {m : MethodId} {b : Nat} {below : List Frame} {meth : Method} {c : Code} {dC : Nat → ClassId} {dI : Nat → Nat → Nat} {ad1 ad2 : Nat → Nat} {cA : Nat → ClassId} {pc : Nat} {lv : List (Nat × Value)} {st : List Value} {w1 w2 : List AC}
theorem wsm_keep {ad : Nat → Nat} {w : List AC} {H H1 : Heap} (hP : va_P (dC, dI) classes (wsm ad cA w) H) (h : ∀ k, k < w.length → H1[ad k]? = H[ad k]?) : va_P (dC, dI) classes (wsm ad cA w) H1 := hP.kept (fun k q hk => by
  obtain ⟨h1, h2⟩ := wsm_get hk
  rw [h2]; exact h k h1)
theorem LC1 {y : MethodName} {b' : ByteArray} {nL' d' idx ci N : Nat} {ret' : Option FieldType} {T : u_T} {fs as : List AV} {rest : List Value} (C0 : p.tables.exec = Jvm.exec ∧ c.code = code ∧ c.maxLocals = 4 ∧ s.vm.findClass "PrunedSearchLaw" = some m.cls ∧ ∀ w ∈ Wt, w.before #[Value.ref b] s = true) (hF : LF s dC dI ad1 ad2 cA)
    (hd : decode code pc = .ok (.invokevirtual idx, 3)) (hl : Cond.methodLink "PrunedSearchLaw" idx y ∈ Wt) (hi : Cond.instanceMethod y ∈ Wt) (hs : Cond.selects y.cls y y ∈ Wt) (hini : Cond.initialized y.cls ∈ Wt) (hc : Cond.code y b' nL' ret' ∈ Wt) (hw : w1[0]? = some (cO ci fs)) (hcl : classes[ci]? = some (y.cls, T, N)) (hpd : y.cls ≠ "java/lang/invoke/MethodHandle" ∧ y.cls ≠ "java/lang/invoke/VarHandle" ∧ (parseMethodDescriptor y.desc).map (fun d => d.parameters.length) = some as.length) (hdd : d' ≤ 1000 ∧ nL' ≤ 21 ∧ (rest.map fun v => v.category).sum ≤ 8) (oa : oks as) (hstk : st = (stm ad1 as).reverse ++ .ref (ad1 0) :: rest)
    (hM : MT l y b' nL' ret' d' (vR 0 :: as) w1 (fun r w' => LV p l e s m b below meth c dC dI ad1 ad2 cA (pc + 3) lv ((r.map (cv ad1)).toList ++ rest) w' w2)) : LV p l e s m b below meth c dC dI ad1 ad2 cA pc lv st w1 w2 := by
  subst hstk
  intro H locs D ls hll
  have hts := C0.2.2.2.2
  have hA := hF.1
  have hX := hF.2.2.2.2.1
  have hS := D.2.2.1
  have hn : w1.length = 45 := D.2.2.2.2.2.1
  have oa' : oks (vR 0 :: as) := oks_c (v := vR 0) trivial oa
  have hA' : adk ad1 (fun q => s.heap.size ≤ q) w1.length := by rw [hn]; exact hA
  have hr := va_runV (As := stm ad1 as) (b := ad1 0) (C := y.cls) (R := room_1) (cells := 600000) (slots := 7302250) (below := below) (locs := locs) (e := e) (l := l) (meth := meth) (rest := rest) (g := F0 m pc ls ((stm ad1 as).reverse ++ .ref (ad1 0) :: rest)) ⟨C0.1, C0.2.1, C0.2.2.1, C0.2.2.2.1, hts⟩ (hM oa' D.2.2.2.1 dC dI ad1 cA) (cwV as.length hts (good_V hl hi hs hini hc) rfl rfl rfl ⟨rfl, hpd⟩ ⟨(by show d' + 1 ≤ 2048; omega), (by show 8 + (nL' + 11) + 40 * d' ≤ 84000; omega)⟩) ⟨PB, va_recv hF.2.2.2.1 D.1 hcl (wsm_at hw), fun U hU hW => ⟨rfl, by rw [hU]; exact D.1, va_K.moved hW.alike hF.2.2.2.1, adk_self hA', SX_at hX hS hU hW (fun q ⟨k, h1, h2⟩ => by rw [h2]; exact hA'.2 k h1)⟩⟩ rfl (by simp [stm]) hll.1 rfl (by show 2 * 0 + (rest.map fun v => v.category).sum ≤ 8; omega) hd ⟨Nat.le_of_ble_eq_true rfl, Nat.le_of_ble_eq_true rfl⟩
  intro T hT X
  obtain ⟨v, st₀, t, T', L, h0, X', hL, e1, e2, ⟨r, w', hv, hrok, how, hlen, hk, hP, hFr⟩, go⟩ := hr T hT X
  have hv' : v = r.map (cv ad1) := by cases hv; rfl
  subst hv'
  have hin : ∀ q, (∃ k, k < w1.length ∧ q = ad1 k) → s.heap.size ≤ q := fun q ⟨k, h1, h2⟩ => by rw [h2]; exact hA'.2 k h1
  have hS' : va_S (fun q => s.heap.size ≤ q) s.heap T'.heap (locs ++ L) := by
    refine ⟨?_, fun q h1 h2 => ?_, fun q hq => ?_⟩
    · rw [e1]; exact Nat.le_trans hS.1 (by have := hFr.1; rw [h0] at this; exact this)
    · have h3 := hFr.2 q (by rw [h0]; exact Nat.lt_of_lt_of_le h1 hS.1) (fun z => h2 (hin q z))
      rw [e1, h3, h0]
      exact hS.2.1 q h1 h2
    · rcases List.mem_append.mp hq with h | h
      · exact hS.2.2 q h
      · exact hin _ (hL q h)
  have hn2 : w2.length = 32 := D.2.2.2.2.2.2
  have hK2 : va_P (dC, dI) classes (wsm ad2 cA w2) T'.heap := wsm_keep D.2.1 (fun x h1 => by
    have hlt : ad2 x < H.size := by
      have hc := List.getElem?_eq_getElem h1
      exact (D.2.1 x _ (wsm_at hc)).lt
    have h3 := hFr.2 (ad2 x) (by rw [h0]; exact hlt) (fun ⟨k, hk1, hk2⟩ => (fun z => hF.2.2.1 k x (by omega) (by omega) z.symm) hk2)
    rw [e1, h3, h0])
  rw [hn] at hlen
  obtain ⟨t2, a1, b1⟩ := hk T'.heap (locs ++ L) ⟨by rw [e1]; exact hP, hK2, hS', how, D.2.2.2.2.1, hlen, D.2.2.2.2.2.2⟩ ls hll T' rfl X'
  exact ⟨t2, go t2 a1, b1⟩
theorem LC2 {y : MethodName} {b' : ByteArray} {nL' d' idx ci N : Nat} {ret' : Option FieldType} {T : u_T} {fs as : List AV} {rest : List Value} (C0 : p.tables.exec = Jvm.exec ∧ c.code = code ∧ c.maxLocals = 4 ∧ s.vm.findClass "PrunedSearchLaw" = some m.cls ∧ ∀ w ∈ Wt, w.before #[Value.ref b] s = true) (hF : LF s dC dI ad1 ad2 cA)
    (hd : decode code pc = .ok (.invokevirtual idx, 3)) (hl : Cond.methodLink "PrunedSearchLaw" idx y ∈ Wt) (hi : Cond.instanceMethod y ∈ Wt) (hs : Cond.selects y.cls y y ∈ Wt) (hini : Cond.initialized y.cls ∈ Wt) (hc : Cond.code y b' nL' ret' ∈ Wt) (hw : w2[0]? = some (cO ci fs)) (hcl : classes[ci]? = some (y.cls, T, N)) (hpd : y.cls ≠ "java/lang/invoke/MethodHandle" ∧ y.cls ≠ "java/lang/invoke/VarHandle" ∧ (parseMethodDescriptor y.desc).map (fun d => d.parameters.length) = some as.length) (hdd : d' ≤ 1000 ∧ nL' ≤ 21 ∧ (rest.map fun v => v.category).sum ≤ 8) (oa : oks as) (hstk : st = (stm ad2 as).reverse ++ .ref (ad2 0) :: rest)
    (hM : MT l y b' nL' ret' d' (vR 0 :: as) w2 (fun r w' => LV p l e s m b below meth c dC dI ad1 ad2 cA (pc + 3) lv ((r.map (cv ad2)).toList ++ rest) w1 w')) : LV p l e s m b below meth c dC dI ad1 ad2 cA pc lv st w1 w2 := by
  subst hstk
  intro H locs D ls hll
  have hts := C0.2.2.2.2
  have hA := hF.2.1
  have hX := hF.2.2.2.2.2
  have hS := D.2.2.1
  have hn : w2.length = 32 := D.2.2.2.2.2.2
  have oa' : oks (vR 0 :: as) := oks_c (v := vR 0) trivial oa
  have hA' : adk ad2 (fun q => s.heap.size ≤ q) w2.length := by rw [hn]; exact hA
  have hr := va_runV (As := stm ad2 as) (b := ad2 0) (C := y.cls) (R := room_1) (cells := 600000) (slots := 7302250) (below := below) (locs := locs) (e := e) (l := l) (meth := meth) (rest := rest) (g := F0 m pc ls ((stm ad2 as).reverse ++ .ref (ad2 0) :: rest)) ⟨C0.1, C0.2.1, C0.2.2.1, C0.2.2.2.1, hts⟩ (hM oa' D.2.2.2.2.1 dC dI ad2 cA) (cwV as.length hts (good_V hl hi hs hini hc) rfl rfl rfl ⟨rfl, hpd⟩ ⟨(by show d' + 1 ≤ 2048; omega), (by show 8 + (nL' + 11) + 40 * d' ≤ 84000; omega)⟩) ⟨PB, va_recv hF.2.2.2.1 D.2.1 hcl (wsm_at hw), fun U hU hW => ⟨rfl, by rw [hU]; exact D.2.1, va_K.moved hW.alike hF.2.2.2.1, adk_self hA', SX_at hX hS hU hW (fun q ⟨k, h1, h2⟩ => by rw [h2]; exact hA'.2 k h1)⟩⟩ rfl (by simp [stm]) hll.1 rfl (by show 2 * 0 + (rest.map fun v => v.category).sum ≤ 8; omega) hd ⟨Nat.le_of_ble_eq_true rfl, Nat.le_of_ble_eq_true rfl⟩
  intro T hT X
  obtain ⟨v, st₀, t, T', L, h0, X', hL, e1, e2, ⟨r, w', hv, hrok, how, hlen, hk, hP, hFr⟩, go⟩ := hr T hT X
  have hv' : v = r.map (cv ad2) := by cases hv; rfl
  subst hv'
  have hin : ∀ q, (∃ k, k < w2.length ∧ q = ad2 k) → s.heap.size ≤ q := fun q ⟨k, h1, h2⟩ => by rw [h2]; exact hA'.2 k h1
  have hS' : va_S (fun q => s.heap.size ≤ q) s.heap T'.heap (locs ++ L) := by
    refine ⟨?_, fun q h1 h2 => ?_, fun q hq => ?_⟩
    · rw [e1]; exact Nat.le_trans hS.1 (by have := hFr.1; rw [h0] at this; exact this)
    · have h3 := hFr.2 q (by rw [h0]; exact Nat.lt_of_lt_of_le h1 hS.1) (fun z => h2 (hin q z))
      rw [e1, h3, h0]
      exact hS.2.1 q h1 h2
    · rcases List.mem_append.mp hq with h | h
      · exact hS.2.2 q h
      · exact hin _ (hL q h)
  have hn2 : w1.length = 45 := D.2.2.2.2.2.1
  have hK2 : va_P (dC, dI) classes (wsm ad1 cA w1) T'.heap := wsm_keep D.1 (fun x h1 => by
    have hlt : ad1 x < H.size := by
      have hc := List.getElem?_eq_getElem h1
      exact (D.1 x _ (wsm_at hc)).lt
    have h3 := hFr.2 (ad1 x) (by rw [h0]; exact hlt) (fun ⟨k, hk1, hk2⟩ => (fun z => hF.2.2.1 x k (by omega) (by omega) z) hk2)
    rw [e1, h3, h0])
  rw [hn] at hlen
  obtain ⟨t2, a1, b1⟩ := hk T'.heap (locs ++ L) ⟨hK2, by rw [e1]; exact hP, hS', D.2.2.2.1, how, D.2.2.2.2.2.1, hlen⟩ ls hll T' rfl X'
  exact ⟨t2, go t2 a1, b1⟩
end LAWC
