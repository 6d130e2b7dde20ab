/-! BubbleTorus.alone -/
theorem d_X_alone_0 : decode m_X_alone.2.1 0 = .ok (.aload_n 0, 1) := by decide +kernel
theorem d_X_alone_1 : decode m_X_alone.2.1 1 = .ok (.getfield 41, 3) := by decide +kernel
theorem d_X_alone_4 : decode m_X_alone.2.1 4 = .ok (.iload_n 1, 1) := by decide +kernel
theorem d_X_alone_5 : decode m_X_alone.2.1 5 = .ok (.iload_n 2, 1) := by decide +kernel
theorem d_X_alone_6 : decode m_X_alone.2.1 6 = .ok (.iload_n 3, 1) := by decide +kernel
theorem d_X_alone_7 : decode m_X_alone.2.1 7 = .ok (.iload 4, 2) := by decide +kernel
theorem d_X_alone_9 : decode m_X_alone.2.1 9 = .ok (.invokevirtual 288, 3) := by decide +kernel
theorem d_X_alone_12 : decode m_X_alone.2.1 12 = .ok (.ireturn, 1) := by decide +kernel
def f_X_alone (x1 : Int) (x2 : Int) (x3 : Int) (x4 : Int) (w : qMem) : Option (Int × qMem) :=
  (f_L_answer x1 x2 x3 x4 w).bind fun q1 =>
  some (q1.1, q1.2)
set_option maxRecDepth 4000 in
theorem s_X_alone (x1 : Int) (x2 : Int) (x3 : Int) (x4 : Int) (w : qMem) : qSim κI 100 100 m_X_alone 0 [] [some (qR 1), some (qI x1), some (qI x2), some (qI x3), some (qI x4)] w (f_X_alone x1 x2 x3 x4 w) := by
  unfold f_X_alone
  refine z_aload_n d_X_alone_0 rfl ?_
  refine z_gr (ci := 9) (j := 5) (d := 80) (o2 := 81) d_X_alone_1 rfl fl_X_41 rfl (Nat.le_of_ble_eq_true rfl) rfl rfl ?_
  refine z_iload_n d_X_alone_4 rfl ?_
  refine z_iload_n d_X_alone_5 rfl ?_
  refine z_iload_n d_X_alone_6 rfl ?_
  refine z_iload d_X_alone_7 rfl ?_
  refine z_cVI (as := [qI x1, qI x2, qI x3, qI x4]) (st := []) (nl := 1) (ci := 1) d_X_alone_9 lk_X_288 mk_L_answer rfl rfl rfl rfl rfl rfl (s_L_answer _ _ _ _ _) (fun q1 _ hq1 => ?_)
  exact z_iret d_X_alone_12 rfl rfl
/-! BubbleTorus.look -/
theorem d_X_look_0 : decode m_X_look.2.1 0 = .ok (.iload_n 1, 1) := by decide +kernel
theorem d_X_look_1 : decode m_X_look.2.1 1 = .ok (.tableswitch 276 0 19 #[95, 103, 111, 119, 127, 135, 143, 151, 162, 173, 182, 191, 200, 211, 222, 230, 241, 252, 257, 268], 95) := by decide +kernel
theorem d_X_look_96 : decode m_X_look.2.1 96 = .ok (.aload_n 0, 1) := by decide +kernel
theorem d_X_look_97 : decode m_X_look.2.1 97 = .ok (.getfield 23, 3) := by decide +kernel
theorem d_X_look_100 : decode m_X_look.2.1 100 = .ok (.getfield 292, 3) := by decide +kernel
theorem d_X_look_103 : decode m_X_look.2.1 103 = .ok (.ireturn, 1) := by decide +kernel
theorem d_X_look_104 : decode m_X_look.2.1 104 = .ok (.aload_n 0, 1) := by decide +kernel
theorem d_X_look_105 : decode m_X_look.2.1 105 = .ok (.getfield 23, 3) := by decide +kernel
theorem d_X_look_108 : decode m_X_look.2.1 108 = .ok (.getfield 295, 3) := by decide +kernel
theorem d_X_look_111 : decode m_X_look.2.1 111 = .ok (.ireturn, 1) := by decide +kernel
theorem d_X_look_112 : decode m_X_look.2.1 112 = .ok (.aload_n 0, 1) := by decide +kernel
theorem d_X_look_113 : decode m_X_look.2.1 113 = .ok (.getfield 12, 3) := by decide +kernel
theorem d_X_look_116 : decode m_X_look.2.1 116 = .ok (.getfield 298, 3) := by decide +kernel
theorem d_X_look_119 : decode m_X_look.2.1 119 = .ok (.ireturn, 1) := by decide +kernel
theorem d_X_look_120 : decode m_X_look.2.1 120 = .ok (.aload_n 0, 1) := by decide +kernel
theorem d_X_look_121 : decode m_X_look.2.1 121 = .ok (.getfield 12, 3) := by decide +kernel
theorem d_X_look_124 : decode m_X_look.2.1 124 = .ok (.getfield 301, 3) := by decide +kernel
theorem d_X_look_127 : decode m_X_look.2.1 127 = .ok (.ireturn, 1) := by decide +kernel
theorem d_X_look_128 : decode m_X_look.2.1 128 = .ok (.aload_n 0, 1) := by decide +kernel
theorem d_X_look_129 : decode m_X_look.2.1 129 = .ok (.getfield 12, 3) := by decide +kernel
theorem d_X_look_132 : decode m_X_look.2.1 132 = .ok (.getfield 156, 3) := by decide +kernel
theorem d_X_look_135 : decode m_X_look.2.1 135 = .ok (.ireturn, 1) := by decide +kernel
theorem d_X_look_136 : decode m_X_look.2.1 136 = .ok (.aload_n 0, 1) := by decide +kernel
theorem d_X_look_137 : decode m_X_look.2.1 137 = .ok (.getfield 12, 3) := by decide +kernel
theorem d_X_look_140 : decode m_X_look.2.1 140 = .ok (.getfield 91, 3) := by decide +kernel
theorem d_X_look_143 : decode m_X_look.2.1 143 = .ok (.ireturn, 1) := by decide +kernel
theorem d_X_look_144 : decode m_X_look.2.1 144 = .ok (.aload_n 0, 1) := by decide +kernel
theorem d_X_look_145 : decode m_X_look.2.1 145 = .ok (.getfield 12, 3) := by decide +kernel
theorem d_X_look_148 : decode m_X_look.2.1 148 = .ok (.getfield 304, 3) := by decide +kernel
theorem d_X_look_151 : decode m_X_look.2.1 151 = .ok (.ireturn, 1) := by decide +kernel
theorem d_X_look_152 : decode m_X_look.2.1 152 = .ok (.aload_n 0, 1) := by decide +kernel
theorem d_X_look_153 : decode m_X_look.2.1 153 = .ok (.getfield 12, 3) := by decide +kernel
theorem d_X_look_156 : decode m_X_look.2.1 156 = .ok (.getfield 94, 3) := by decide +kernel
theorem d_X_look_159 : decode m_X_look.2.1 159 = .ok (.getfield 307, 3) := by decide +kernel
theorem d_X_look_162 : decode m_X_look.2.1 162 = .ok (.ireturn, 1) := by decide +kernel
theorem d_X_look_163 : decode m_X_look.2.1 163 = .ok (.aload_n 0, 1) := by decide +kernel
theorem d_X_look_164 : decode m_X_look.2.1 164 = .ok (.getfield 12, 3) := by decide +kernel
theorem d_X_look_167 : decode m_X_look.2.1 167 = .ok (.getfield 94, 3) := by decide +kernel
theorem d_X_look_170 : decode m_X_look.2.1 170 = .ok (.getfield 308, 3) := by decide +kernel
theorem d_X_look_173 : decode m_X_look.2.1 173 = .ok (.ireturn, 1) := by decide +kernel
theorem d_X_look_174 : decode m_X_look.2.1 174 = .ok (.aload_n 0, 1) := by decide +kernel
theorem d_X_look_175 : decode m_X_look.2.1 175 = .ok (.getfield 12, 3) := by decide +kernel
theorem d_X_look_178 : decode m_X_look.2.1 178 = .ok (.iconst 0, 1) := by decide +kernel
theorem d_X_look_179 : decode m_X_look.2.1 179 = .ok (.invokevirtual 311, 3) := by decide +kernel
theorem d_X_look_182 : decode m_X_look.2.1 182 = .ok (.ireturn, 1) := by decide +kernel
theorem d_X_look_183 : decode m_X_look.2.1 183 = .ok (.aload_n 0, 1) := by decide +kernel
theorem d_X_look_184 : decode m_X_look.2.1 184 = .ok (.getfield 12, 3) := by decide +kernel
theorem d_X_look_187 : decode m_X_look.2.1 187 = .ok (.iconst 1, 1) := by decide +kernel
theorem d_X_look_188 : decode m_X_look.2.1 188 = .ok (.invokevirtual 311, 3) := by decide +kernel
theorem d_X_look_191 : decode m_X_look.2.1 191 = .ok (.ireturn, 1) := by decide +kernel
theorem d_X_look_192 : decode m_X_look.2.1 192 = .ok (.aload_n 0, 1) := by decide +kernel
theorem d_X_look_193 : decode m_X_look.2.1 193 = .ok (.getfield 12, 3) := by decide +kernel
theorem d_X_look_196 : decode m_X_look.2.1 196 = .ok (.iconst 2, 1) := by decide +kernel
theorem d_X_look_197 : decode m_X_look.2.1 197 = .ok (.invokevirtual 311, 3) := by decide +kernel
theorem d_X_look_200 : decode m_X_look.2.1 200 = .ok (.ireturn, 1) := by decide +kernel
theorem d_X_look_201 : decode m_X_look.2.1 201 = .ok (.aload_n 0, 1) := by decide +kernel
theorem d_X_look_202 : decode m_X_look.2.1 202 = .ok (.getfield 12, 3) := by decide +kernel
theorem d_X_look_205 : decode m_X_look.2.1 205 = .ok (.getfield 94, 3) := by decide +kernel
theorem d_X_look_208 : decode m_X_look.2.1 208 = .ok (.invokevirtual 314, 3) := by decide +kernel
theorem d_X_look_211 : decode m_X_look.2.1 211 = .ok (.ireturn, 1) := by decide +kernel
theorem d_X_look_212 : decode m_X_look.2.1 212 = .ok (.aload_n 0, 1) := by decide +kernel
theorem d_X_look_213 : decode m_X_look.2.1 213 = .ok (.getfield 12, 3) := by decide +kernel
theorem d_X_look_216 : decode m_X_look.2.1 216 = .ok (.getfield 94, 3) := by decide +kernel
theorem d_X_look_219 : decode m_X_look.2.1 219 = .ok (.invokevirtual 317, 3) := by decide +kernel
theorem d_X_look_222 : decode m_X_look.2.1 222 = .ok (.ireturn, 1) := by decide +kernel
theorem d_X_look_223 : decode m_X_look.2.1 223 = .ok (.aload_n 0, 1) := by decide +kernel
theorem d_X_look_224 : decode m_X_look.2.1 224 = .ok (.getfield 12, 3) := by decide +kernel
theorem d_X_look_227 : decode m_X_look.2.1 227 = .ok (.getfield 320, 3) := by decide +kernel
theorem d_X_look_230 : decode m_X_look.2.1 230 = .ok (.ireturn, 1) := by decide +kernel
theorem d_X_look_231 : decode m_X_look.2.1 231 = .ok (.aload_n 0, 1) := by decide +kernel
theorem d_X_look_232 : decode m_X_look.2.1 232 = .ok (.getfield 12, 3) := by decide +kernel
theorem d_X_look_235 : decode m_X_look.2.1 235 = .ok (.getfield 159, 3) := by decide +kernel
theorem d_X_look_238 : decode m_X_look.2.1 238 = .ok (.getfield 323, 3) := by decide +kernel
theorem d_X_look_241 : decode m_X_look.2.1 241 = .ok (.ireturn, 1) := by decide +kernel
theorem d_X_look_242 : decode m_X_look.2.1 242 = .ok (.aload_n 0, 1) := by decide +kernel
theorem d_X_look_243 : decode m_X_look.2.1 243 = .ok (.getfield 12, 3) := by decide +kernel
theorem d_X_look_246 : decode m_X_look.2.1 246 = .ok (.getfield 159, 3) := by decide +kernel
theorem d_X_look_249 : decode m_X_look.2.1 249 = .ok (.invokevirtual 326, 3) := by decide +kernel
theorem d_X_look_252 : decode m_X_look.2.1 252 = .ok (.ireturn, 1) := by decide +kernel
theorem d_X_look_253 : decode m_X_look.2.1 253 = .ok (.aload_n 0, 1) := by decide +kernel
theorem d_X_look_254 : decode m_X_look.2.1 254 = .ok (.getfield 45, 3) := by decide +kernel
theorem d_X_look_257 : decode m_X_look.2.1 257 = .ok (.ireturn, 1) := by decide +kernel
theorem d_X_look_258 : decode m_X_look.2.1 258 = .ok (.aload_n 0, 1) := by decide +kernel
theorem d_X_look_259 : decode m_X_look.2.1 259 = .ok (.getfield 12, 3) := by decide +kernel
theorem d_X_look_262 : decode m_X_look.2.1 262 = .ok (.getfield 94, 3) := by decide +kernel
theorem d_X_look_265 : decode m_X_look.2.1 265 = .ok (.invokevirtual 329, 3) := by decide +kernel
theorem d_X_look_268 : decode m_X_look.2.1 268 = .ok (.ireturn, 1) := by decide +kernel
theorem d_X_look_269 : decode m_X_look.2.1 269 = .ok (.aload_n 0, 1) := by decide +kernel
theorem d_X_look_270 : decode m_X_look.2.1 270 = .ok (.getfield 12, 3) := by decide +kernel
theorem d_X_look_273 : decode m_X_look.2.1 273 = .ok (.getfield 332, 3) := by decide +kernel
theorem d_X_look_276 : decode m_X_look.2.1 276 = .ok (.ireturn, 1) := by decide +kernel
theorem d_X_look_277 : decode m_X_look.2.1 277 = .ok (.bipush (-10), 2) := by decide +kernel
theorem d_X_look_279 : decode m_X_look.2.1 279 = .ok (.ireturn, 1) := by decide +kernel
def f_X_look (x1 : Int) (w : qMem) : Option (Int × qMem) :=
  if x1 = 0 then
  some ((w 3 3), w)
  else
  if x1 = 1 then
  some ((w 3 4), w)
  else
  if x1 = 2 then
  some ((w 2 6), w)
  else
  if x1 = 3 then
  some ((w 2 7), w)
  else
  if x1 = 4 then
  some ((w 2 8), w)
  else
  if x1 = 5 then
  some ((w 2 9), w)
  else
  if x1 = 6 then
  some ((w 2 10), w)
  else
  if x1 = 7 then
  some ((w 7 13), w)
  else
  if x1 = 8 then
  some ((w 7 14), w)
  else
  if x1 = 9 then
  (f_N_heldInLane 2 0 w).bind fun q11 =>
  some (q11.1, q11.2)
  else
  if x1 = 10 then
  (f_N_heldInLane 2 1 w).bind fun q13 =>
  some (q13.1, q13.2)
  else
  if x1 = 11 then
  (f_N_heldInLane 2 2 w).bind fun q15 =>
  some (q15.1, q15.2)
  else
  if x1 = 12 then
  (f_P_lateTogether 7 w).bind fun q17 =>
  some (q17.1, q17.2)
  else
  if x1 = 13 then
  (f_P_hopsTogether 7 w).bind fun q19 =>
  some (q19.1, q19.2)
  else
  if x1 = 14 then
  some ((w 2 11), w)
  else
  if x1 = 15 then
  some ((w 26 9), w)
  else
  if x1 = 16 then
  (f_R_marksNow 26 w).bind fun q23 =>
  some (q23.1, q23.2)
  else
  if x1 = 17 then
  some ((w 1 6), w)
  else
  if x1 = 18 then
  (f_P_disorderTogether 7 w).bind fun q26 =>
  some (q26.1, q26.2)
  else
  if x1 = 19 then
  some ((w 2 12), w)
  else
  some ((-10), w)
set_option maxRecDepth 4000 in
theorem s_X_look (x1 : Int) (w : qMem) : qSim κI 100 100 m_X_look 0 [] [some (qR 1), some (qI x1)] w (f_X_look x1 w) := by
  unfold f_X_look
  refine z_iload_n d_X_look_0 rfl ?_
  refine z_if (fun c1 => ?_) (fun c1 => ?_)
  · refine z_tabIn (tgt := 96) (v := 0) d_X_look_1 c1 (by decide) (by decide) rfl rfl ?_
    refine z_aload_n d_X_look_96 rfl ?_
    refine z_gr (ci := 9) (j := 2) (d := 2) (o2 := 3) d_X_look_97 rfl fl_X_23 rfl (Nat.le_of_ble_eq_true rfl) rfl rfl ?_
    refine z_gi (ci := 0) (j := 3) (ji := 3) d_X_look_100 rfl fl_X_292 rfl rfl rfl ?_
    exact z_iret d_X_look_103 rfl rfl
  · refine z_if (fun c2 => ?_) (fun c2 => ?_)
    · refine z_tabIn (tgt := 104) (v := 1) d_X_look_1 c2 (by decide) (by decide) rfl rfl ?_
      refine z_aload_n d_X_look_104 rfl ?_
      refine z_gr (ci := 9) (j := 2) (d := 2) (o2 := 3) d_X_look_105 rfl fl_X_23 rfl (Nat.le_of_ble_eq_true rfl) rfl rfl ?_
      refine z_gi (ci := 0) (j := 4) (ji := 4) d_X_look_108 rfl fl_X_295 rfl rfl rfl ?_
      exact z_iret d_X_look_111 rfl rfl
    · refine z_if (fun c3 => ?_) (fun c3 => ?_)
      · refine z_tabIn (tgt := 112) (v := 2) d_X_look_1 c3 (by decide) (by decide) rfl rfl ?_
        refine z_aload_n d_X_look_112 rfl ?_
        refine z_gr (ci := 9) (j := 0) (d := 1) (o2 := 2) d_X_look_113 rfl fl_X_12 rfl (Nat.le_of_ble_eq_true rfl) rfl rfl ?_
        refine z_gi (ci := 3) (j := 6) (ji := 6) d_X_look_116 rfl fl_X_298 rfl rfl rfl ?_
        exact z_iret d_X_look_119 rfl rfl
      · refine z_if (fun c4 => ?_) (fun c4 => ?_)
        · refine z_tabIn (tgt := 120) (v := 3) d_X_look_1 c4 (by decide) (by decide) rfl rfl ?_
          refine z_aload_n d_X_look_120 rfl ?_
          refine z_gr (ci := 9) (j := 0) (d := 1) (o2 := 2) d_X_look_121 rfl fl_X_12 rfl (Nat.le_of_ble_eq_true rfl) rfl rfl ?_
          refine z_gi (ci := 3) (j := 7) (ji := 7) d_X_look_124 rfl fl_X_301 rfl rfl rfl ?_
          exact z_iret d_X_look_127 rfl rfl
        · refine z_if (fun c5 => ?_) (fun c5 => ?_)
          · refine z_tabIn (tgt := 128) (v := 4) d_X_look_1 c5 (by decide) (by decide) rfl rfl ?_
            refine z_aload_n d_X_look_128 rfl ?_
            refine z_gr (ci := 9) (j := 0) (d := 1) (o2 := 2) d_X_look_129 rfl fl_X_12 rfl (Nat.le_of_ble_eq_true rfl) rfl rfl ?_
            refine z_gi (ci := 3) (j := 8) (ji := 8) d_X_look_132 rfl fl_X_156 rfl rfl rfl ?_
            exact z_iret d_X_look_135 rfl rfl
          · refine z_if (fun c6 => ?_) (fun c6 => ?_)
            · refine z_tabIn (tgt := 136) (v := 5) d_X_look_1 c6 (by decide) (by decide) rfl rfl ?_
              refine z_aload_n d_X_look_136 rfl ?_
              refine z_gr (ci := 9) (j := 0) (d := 1) (o2 := 2) d_X_look_137 rfl fl_X_12 rfl (Nat.le_of_ble_eq_true rfl) rfl rfl ?_
              refine z_gi (ci := 3) (j := 9) (ji := 9) d_X_look_140 rfl fl_X_91 rfl rfl rfl ?_
              exact z_iret d_X_look_143 rfl rfl
            · refine z_if (fun c7 => ?_) (fun c7 => ?_)
              · refine z_tabIn (tgt := 144) (v := 6) d_X_look_1 c7 (by decide) (by decide) rfl rfl ?_
                refine z_aload_n d_X_look_144 rfl ?_
                refine z_gr (ci := 9) (j := 0) (d := 1) (o2 := 2) d_X_look_145 rfl fl_X_12 rfl (Nat.le_of_ble_eq_true rfl) rfl rfl ?_
                refine z_gi (ci := 3) (j := 10) (ji := 10) d_X_look_148 rfl fl_X_304 rfl rfl rfl ?_
                exact z_iret d_X_look_151 rfl rfl
              · refine z_if (fun c8 => ?_) (fun c8 => ?_)
                · refine z_tabIn (tgt := 152) (v := 7) d_X_look_1 c8 (by decide) (by decide) rfl rfl ?_
                  refine z_aload_n d_X_look_152 rfl ?_
                  refine z_gr (ci := 9) (j := 0) (d := 1) (o2 := 2) d_X_look_153 rfl fl_X_12 rfl (Nat.le_of_ble_eq_true rfl) rfl rfl ?_
                  refine z_gr (ci := 3) (j := 1) (d := 5) (o2 := 7) d_X_look_156 rfl fl_X_94 rfl (Nat.le_of_ble_eq_true rfl) rfl rfl ?_
                  refine z_gi (ci := 5) (j := 13) (ji := 13) d_X_look_159 rfl fl_X_307 rfl rfl rfl ?_
                  exact z_iret d_X_look_162 rfl rfl
                · refine z_if (fun c9 => ?_) (fun c9 => ?_)
                  · refine z_tabIn (tgt := 163) (v := 8) d_X_look_1 c9 (by decide) (by decide) rfl rfl ?_
                    refine z_aload_n d_X_look_163 rfl ?_
                    refine z_gr (ci := 9) (j := 0) (d := 1) (o2 := 2) d_X_look_164 rfl fl_X_12 rfl (Nat.le_of_ble_eq_true rfl) rfl rfl ?_
                    refine z_gr (ci := 3) (j := 1) (d := 5) (o2 := 7) d_X_look_167 rfl fl_X_94 rfl (Nat.le_of_ble_eq_true rfl) rfl rfl ?_
                    refine z_gi (ci := 5) (j := 14) (ji := 14) d_X_look_170 rfl fl_X_308 rfl rfl rfl ?_
                    exact z_iret d_X_look_173 rfl rfl
                  · refine z_if (fun c10 => ?_) (fun c10 => ?_)
                    · refine z_tabIn (tgt := 174) (v := 9) d_X_look_1 c10 (by decide) (by decide) rfl rfl ?_
                      refine z_aload_n d_X_look_174 rfl ?_
                      refine z_gr (ci := 9) (j := 0) (d := 1) (o2 := 2) d_X_look_175 rfl fl_X_12 rfl (Nat.le_of_ble_eq_true rfl) rfl rfl ?_
                      refine z_ic0 d_X_look_178 ?_
                      refine z_cVI (as := [qI 0]) (st := []) (nl := 2) (ci := 3) d_X_look_179 lk_X_311 mk_N_heldInLane rfl rfl rfl rfl rfl rfl (s_N_heldInLane _ is_2_100 _) (fun q11 _ hq11 => ?_)
                      exact z_iret d_X_look_182 rfl rfl
                    · refine z_if (fun c12 => ?_) (fun c12 => ?_)
                      · refine z_tabIn (tgt := 183) (v := 10) d_X_look_1 c12 (by decide) (by decide) rfl rfl ?_
                        refine z_aload_n d_X_look_183 rfl ?_
                        refine z_gr (ci := 9) (j := 0) (d := 1) (o2 := 2) d_X_look_184 rfl fl_X_12 rfl (Nat.le_of_ble_eq_true rfl) rfl rfl ?_
                        refine z_ic1 d_X_look_187 ?_
                        refine z_cVI (as := [qI 1]) (st := []) (nl := 2) (ci := 3) d_X_look_188 lk_X_311 mk_N_heldInLane rfl rfl rfl rfl rfl rfl (s_N_heldInLane _ is_2_100 _) (fun q13 _ hq13 => ?_)
                        exact z_iret d_X_look_191 rfl rfl
                      · refine z_if (fun c14 => ?_) (fun c14 => ?_)
                        · refine z_tabIn (tgt := 192) (v := 11) d_X_look_1 c14 (by decide) (by decide) rfl rfl ?_
                          refine z_aload_n d_X_look_192 rfl ?_
                          refine z_gr (ci := 9) (j := 0) (d := 1) (o2 := 2) d_X_look_193 rfl fl_X_12 rfl (Nat.le_of_ble_eq_true rfl) rfl rfl ?_
                          refine z_ic2 d_X_look_196 ?_
                          refine z_cVI (as := [qI 2]) (st := []) (nl := 2) (ci := 3) d_X_look_197 lk_X_311 mk_N_heldInLane rfl rfl rfl rfl rfl rfl (s_N_heldInLane _ is_2_100 _) (fun q15 _ hq15 => ?_)
                          exact z_iret d_X_look_200 rfl rfl
                        · refine z_if (fun c16 => ?_) (fun c16 => ?_)
                          · refine z_tabIn (tgt := 201) (v := 12) d_X_look_1 c16 (by decide) (by decide) rfl rfl ?_
                            refine z_aload_n d_X_look_201 rfl ?_
                            refine z_gr (ci := 9) (j := 0) (d := 1) (o2 := 2) d_X_look_202 rfl fl_X_12 rfl (Nat.le_of_ble_eq_true rfl) rfl rfl ?_
                            refine z_gr (ci := 3) (j := 1) (d := 5) (o2 := 7) d_X_look_205 rfl fl_X_94 rfl (Nat.le_of_ble_eq_true rfl) rfl rfl ?_
                            refine z_cVI (as := []) (st := []) (nl := 2) (ci := 5) d_X_look_208 lk_X_314 mk_P_lateTogether rfl rfl rfl rfl rfl rfl (s_P_lateTogether is_7_100 _) (fun q17 _ hq17 => ?_)
                            exact z_iret d_X_look_211 rfl rfl
                          · refine z_if (fun c18 => ?_) (fun c18 => ?_)
                            · refine z_tabIn (tgt := 212) (v := 13) d_X_look_1 c18 (by decide) (by decide) rfl rfl ?_
                              refine z_aload_n d_X_look_212 rfl ?_
                              refine z_gr (ci := 9) (j := 0) (d := 1) (o2 := 2) d_X_look_213 rfl fl_X_12 rfl (Nat.le_of_ble_eq_true rfl) rfl rfl ?_
                              refine z_gr (ci := 3) (j := 1) (d := 5) (o2 := 7) d_X_look_216 rfl fl_X_94 rfl (Nat.le_of_ble_eq_true rfl) rfl rfl ?_
                              refine z_cVI (as := []) (st := []) (nl := 2) (ci := 5) d_X_look_219 lk_X_317 mk_P_hopsTogether rfl rfl rfl rfl rfl rfl (s_P_hopsTogether is_7_100 _) (fun q19 _ hq19 => ?_)
                              exact z_iret d_X_look_222 rfl rfl
                            · refine z_if (fun c20 => ?_) (fun c20 => ?_)
                              · refine z_tabIn (tgt := 223) (v := 14) d_X_look_1 c20 (by decide) (by decide) rfl rfl ?_
                                refine z_aload_n d_X_look_223 rfl ?_
                                refine z_gr (ci := 9) (j := 0) (d := 1) (o2 := 2) d_X_look_224 rfl fl_X_12 rfl (Nat.le_of_ble_eq_true rfl) rfl rfl ?_
                                refine z_gi (ci := 3) (j := 11) (ji := 11) d_X_look_227 rfl fl_X_320 rfl rfl rfl ?_
                                exact z_iret d_X_look_230 rfl rfl
                              · refine z_if (fun c21 => ?_) (fun c21 => ?_)
                                · refine z_tabIn (tgt := 231) (v := 15) d_X_look_1 c21 (by decide) (by decide) rfl rfl ?_
                                  refine z_aload_n d_X_look_231 rfl ?_
                                  refine z_gr (ci := 9) (j := 0) (d := 1) (o2 := 2) d_X_look_232 rfl fl_X_12 rfl (Nat.le_of_ble_eq_true rfl) rfl rfl ?_
                                  refine z_gr (ci := 3) (j := 4) (d := 24) (o2 := 26) d_X_look_235 rfl fl_X_159 rfl (Nat.le_of_ble_eq_true rfl) rfl rfl ?_
                                  refine z_gi (ci := 7) (j := 9) (ji := 9) d_X_look_238 rfl fl_X_323 rfl rfl rfl ?_
                                  exact z_iret d_X_look_241 rfl rfl
                                · refine z_if (fun c22 => ?_) (fun c22 => ?_)
                                  · refine z_tabIn (tgt := 242) (v := 16) d_X_look_1 c22 (by decide) (by decide) rfl rfl ?_
                                    refine z_aload_n d_X_look_242 rfl ?_
                                    refine z_gr (ci := 9) (j := 0) (d := 1) (o2 := 2) d_X_look_243 rfl fl_X_12 rfl (Nat.le_of_ble_eq_true rfl) rfl rfl ?_
                                    refine z_gr (ci := 3) (j := 4) (d := 24) (o2 := 26) d_X_look_246 rfl fl_X_159 rfl (Nat.le_of_ble_eq_true rfl) rfl rfl ?_
                                    refine z_cVI (as := []) (st := []) (nl := 2) (ci := 7) d_X_look_249 lk_X_326 mk_R_marksNow rfl rfl rfl rfl rfl rfl (s_R_marksNow is_26_100 _) (fun q23 _ hq23 => ?_)
                                    exact z_iret d_X_look_252 rfl rfl
                                  · refine z_if (fun c24 => ?_) (fun c24 => ?_)
                                    · refine z_tabIn (tgt := 253) (v := 17) d_X_look_1 c24 (by decide) (by decide) rfl rfl ?_
                                      refine z_aload_n d_X_look_253 rfl ?_
                                      refine z_gi (ci := 9) (j := 6) (ji := 6) d_X_look_254 rfl fl_X_45 rfl rfl rfl ?_
                                      exact z_iret d_X_look_257 rfl rfl
                                    · refine z_if (fun c25 => ?_) (fun c25 => ?_)
                                      · refine z_tabIn (tgt := 258) (v := 18) d_X_look_1 c25 (by decide) (by decide) rfl rfl ?_
                                        refine z_aload_n d_X_look_258 rfl ?_
                                        refine z_gr (ci := 9) (j := 0) (d := 1) (o2 := 2) d_X_look_259 rfl fl_X_12 rfl (Nat.le_of_ble_eq_true rfl) rfl rfl ?_
                                        refine z_gr (ci := 3) (j := 1) (d := 5) (o2 := 7) d_X_look_262 rfl fl_X_94 rfl (Nat.le_of_ble_eq_true rfl) rfl rfl ?_
                                        refine z_cVI (as := []) (st := []) (nl := 2) (ci := 5) d_X_look_265 lk_X_329 mk_P_disorderTogether rfl rfl rfl rfl rfl rfl (s_P_disorderTogether is_7_100 _) (fun q26 _ hq26 => ?_)
                                        exact z_iret d_X_look_268 rfl rfl
                                      · refine z_if (fun c27 => ?_) (fun c27 => ?_)
                                        · refine z_tabIn (tgt := 269) (v := 19) d_X_look_1 c27 (by decide) (by decide) rfl rfl ?_
                                          refine z_aload_n d_X_look_269 rfl ?_
                                          refine z_gr (ci := 9) (j := 0) (d := 1) (o2 := 2) d_X_look_270 rfl fl_X_12 rfl (Nat.le_of_ble_eq_true rfl) rfl rfl ?_
                                          refine z_gi (ci := 3) (j := 12) (ji := 12) d_X_look_273 rfl fl_X_332 rfl rfl rfl ?_
                                          exact z_iret d_X_look_276 rfl rfl
                                        · refine z_tabOut (tgt := 277) d_X_look_1 (by omega) rfl ?_
                                          refine z_bipush d_X_look_277 ⟨by decide, by decide⟩ ?_
                                          exact z_iret d_X_look_279 rfl rfl
/-! BubbleTorusModel.isIn -/
theorem d_M_isIn_0 : decode m_M_isIn.2.1 0 = .ok (.iload_n 0, 1) := by decide +kernel
theorem d_M_isIn_1 : decode m_M_isIn.2.1 1 = .ok (.iload_n 1, 1) := by decide +kernel
theorem d_M_isIn_2 : decode m_M_isIn.2.1 2 = .ok (.if_icmp .lt 12, 3) := by decide +kernel
theorem d_M_isIn_5 : decode m_M_isIn.2.1 5 = .ok (.iload_n 0, 1) := by decide +kernel
theorem d_M_isIn_6 : decode m_M_isIn.2.1 6 = .ok (.iload_n 2, 1) := by decide +kernel
theorem d_M_isIn_7 : decode m_M_isIn.2.1 7 = .ok (.if_icmp .gt 7, 3) := by decide +kernel
theorem d_M_isIn_10 : decode m_M_isIn.2.1 10 = .ok (.iconst 1, 1) := by decide +kernel
theorem d_M_isIn_11 : decode m_M_isIn.2.1 11 = .ok (.goto 4, 3) := by decide +kernel
theorem d_M_isIn_14 : decode m_M_isIn.2.1 14 = .ok (.iconst 0, 1) := by decide +kernel
theorem d_M_isIn_15 : decode m_M_isIn.2.1 15 = .ok (.ireturn, 1) := by decide +kernel
def f_M_isIn (x0 : Int) (x1 : Int) (x2 : Int) (w : qMem) : Option (Int × qMem) :=
  if x0 < x1 then
  some (0, w)
  else
  if x0 ≤ x2 then
  some (1, w)
  else
  some (0, w)
set_option maxRecDepth 4000 in
theorem s_M_isIn {ph : Nat} (x0 : Int) (x1 : Int) (x2 : Int) (w : qMem) : qSim κI ph ph m_M_isIn 0 [] [some (qI x0), some (qI x1), some (qI x2)] w (f_M_isIn x0 x1 x2 w) := by
  unfold f_M_isIn
  refine z_iload_n d_M_isIn_0 rfl ?_
  refine z_iload_n d_M_isIn_1 rfl ?_
  refine z_icmp_lt (tgt := 14) d_M_isIn_2 rfl (fun c1 => ?_) (fun c1 => ?_)
  · refine z_ic0 d_M_isIn_14 ?_
    exact z_zret d_M_isIn_15 rfl rfl (Or.inl rfl)
  · refine z_iload_n d_M_isIn_5 rfl ?_
    refine z_iload_n d_M_isIn_6 rfl ?_
    refine z_icmp_gt (tgt := 14) d_M_isIn_7 rfl (fun c2 => ?_) (fun c2 => ?_)
    · refine z_ic1 d_M_isIn_10 ?_
      refine z_goto (tgt := 15) d_M_isIn_11 rfl ?_
      exact z_zret d_M_isIn_15 rfl rfl (Or.inr rfl)
    · refine z_ic0 d_M_isIn_14 ?_
      exact z_zret d_M_isIn_15 rfl rfl (Or.inl rfl)
/-! BubbleTorusModel.rings -/
theorem d_M_rings_0 : decode m_M_rings.2.1 0 = .ok (.iconst 2, 1) := by decide +kernel
theorem d_M_rings_1 : decode m_M_rings.2.1 1 = .ok (.aload_n 0, 1) := by decide +kernel
theorem d_M_rings_2 : decode m_M_rings.2.1 2 = .ok (.getfield 7, 3) := by decide +kernel
theorem d_M_rings_5 : decode m_M_rings.2.1 5 = .ok (.iconst 1, 1) := by decide +kernel
theorem d_M_rings_6 : decode m_M_rings.2.1 6 = .ok (.iaload, 1) := by decide +kernel
theorem d_M_rings_7 : decode m_M_rings.2.1 7 = .ok (.imul, 1) := by decide +kernel
theorem d_M_rings_8 : decode m_M_rings.2.1 8 = .ok (.iconst 2, 1) := by decide +kernel
theorem d_M_rings_9 : decode m_M_rings.2.1 9 = .ok (.aload_n 0, 1) := by decide +kernel
theorem d_M_rings_10 : decode m_M_rings.2.1 10 = .ok (.getfield 7, 3) := by decide +kernel
theorem d_M_rings_13 : decode m_M_rings.2.1 13 = .ok (.iconst 0, 1) := by decide +kernel
theorem d_M_rings_14 : decode m_M_rings.2.1 14 = .ok (.iaload, 1) := by decide +kernel
theorem d_M_rings_15 : decode m_M_rings.2.1 15 = .ok (.imul, 1) := by decide +kernel
theorem d_M_rings_16 : decode m_M_rings.2.1 16 = .ok (.iadd, 1) := by decide +kernel
theorem d_M_rings_17 : decode m_M_rings.2.1 17 = .ok (.ireturn, 1) := by decide +kernel
def f_M_rings (w : qMem) : Option (Int × qMem) :=
  qld w 89 5898 1 fun v1 =>
  qld w 89 5898 0 fun v2 =>
  some ((w32 ((w32 (2 * v1)) + (w32 (2 * v2)))), w)
set_option maxRecDepth 4000 in
theorem s_M_rings (w : qMem) : qSim κI 100 100 m_M_rings 0 [] [some (qR 88)] w (f_M_rings w) := by
  unfold f_M_rings
  refine z_ic2 d_M_rings_0 ?_
  refine z_aload_n d_M_rings_1 rfl ?_
  refine z_gr (ci := 10) (j := 0) (d := 1) (o2 := 89) d_M_rings_2 rfl fl_M_7 rfl (Nat.le_of_ble_eq_true rfl) rfl rfl ?_
  refine z_ic1 d_M_rings_5 ?_
  refine z_il d_M_rings_6 rfl rfl (fun v1 => ?_)
  refine z_imul d_M_rings_7 ?_
  refine z_ic2 d_M_rings_8 ?_
  refine z_aload_n d_M_rings_9 rfl ?_
  refine z_gr (ci := 10) (j := 0) (d := 1) (o2 := 89) d_M_rings_10 rfl fl_M_7 rfl (Nat.le_of_ble_eq_true rfl) rfl rfl ?_
  refine z_ic0 d_M_rings_13 ?_
  refine z_il d_M_rings_14 rfl rfl (fun v2 => ?_)
  refine z_imul d_M_rings_15 ?_
  refine z_iadd d_M_rings_16 ?_
  exact z_iret d_M_rings_17 rfl rfl
/-! BubbleTorusModel.ringAt -/
theorem d_M_ringAt_0 : decode m_M_ringAt.2.1 0 = .ok (.sipush 5274, 3) := by decide +kernel
theorem d_M_ringAt_3 : decode m_M_ringAt.2.1 3 = .ok (.bipush 6, 2) := by decide +kernel
theorem d_M_ringAt_5 : decode m_M_ringAt.2.1 5 = .ok (.iload_n 0, 1) := by decide +kernel
theorem d_M_ringAt_6 : decode m_M_ringAt.2.1 6 = .ok (.imul, 1) := by decide +kernel
theorem d_M_ringAt_7 : decode m_M_ringAt.2.1 7 = .ok (.iadd, 1) := by decide +kernel
theorem d_M_ringAt_8 : decode m_M_ringAt.2.1 8 = .ok (.ireturn, 1) := by decide +kernel
def f_M_ringAt (x0 : Int) (w : qMem) : Option (Int × qMem) :=
  some ((w32 (5274 + (w32 (6 * x0)))), w)
set_option maxRecDepth 4000 in
theorem s_M_ringAt {ph : Nat} (x0 : Int) (w : qMem) : qSim κI ph ph m_M_ringAt 0 [] [some (qI x0)] w (f_M_ringAt x0 w) := by
  unfold f_M_ringAt
  refine z_sipush d_M_ringAt_0 ⟨by decide, by decide⟩ ?_
  refine z_bipush d_M_ringAt_3 ⟨by decide, by decide⟩ ?_
  refine z_iload_n d_M_ringAt_5 rfl ?_
  refine z_imul d_M_ringAt_6 ?_
  refine z_iadd d_M_ringAt_7 ?_
  exact z_iret d_M_ringAt_8 rfl rfl
/-! BubbleTorusModel.directionOf -/
theorem d_M_directionOf_0 : decode m_M_directionOf.2.1 0 = .ok (.iload_n 1, 1) := by decide +kernel
theorem d_M_directionOf_1 : decode m_M_directionOf.2.1 1 = .ok (.iconst 2, 1) := by decide +kernel
theorem d_M_directionOf_2 : decode m_M_directionOf.2.1 2 = .ok (.aload_n 0, 1) := by decide +kernel
theorem d_M_directionOf_3 : decode m_M_directionOf.2.1 3 = .ok (.getfield 7, 3) := by decide +kernel
theorem d_M_directionOf_6 : decode m_M_directionOf.2.1 6 = .ok (.iconst 1, 1) := by decide +kernel
theorem d_M_directionOf_7 : decode m_M_directionOf.2.1 7 = .ok (.iaload, 1) := by decide +kernel
theorem d_M_directionOf_8 : decode m_M_directionOf.2.1 8 = .ok (.imul, 1) := by decide +kernel
theorem d_M_directionOf_9 : decode m_M_directionOf.2.1 9 = .ok (.if_icmp .ge 12, 3) := by decide +kernel
theorem d_M_directionOf_12 : decode m_M_directionOf.2.1 12 = .ok (.iload_n 1, 1) := by decide +kernel
theorem d_M_directionOf_13 : decode m_M_directionOf.2.1 13 = .ok (.aload_n 0, 1) := by decide +kernel
theorem d_M_directionOf_14 : decode m_M_directionOf.2.1 14 = .ok (.getfield 7, 3) := by decide +kernel
theorem d_M_directionOf_17 : decode m_M_directionOf.2.1 17 = .ok (.iconst 1, 1) := by decide +kernel
theorem d_M_directionOf_18 : decode m_M_directionOf.2.1 18 = .ok (.iaload, 1) := by decide +kernel
theorem d_M_directionOf_19 : decode m_M_directionOf.2.1 19 = .ok (.idiv, 1) := by decide +kernel
theorem d_M_directionOf_20 : decode m_M_directionOf.2.1 20 = .ok (.ireturn, 1) := by decide +kernel
theorem d_M_directionOf_21 : decode m_M_directionOf.2.1 21 = .ok (.iconst 2, 1) := by decide +kernel
theorem d_M_directionOf_22 : decode m_M_directionOf.2.1 22 = .ok (.iload_n 1, 1) := by decide +kernel
theorem d_M_directionOf_23 : decode m_M_directionOf.2.1 23 = .ok (.iconst 2, 1) := by decide +kernel
theorem d_M_directionOf_24 : decode m_M_directionOf.2.1 24 = .ok (.aload_n 0, 1) := by decide +kernel
theorem d_M_directionOf_25 : decode m_M_directionOf.2.1 25 = .ok (.getfield 7, 3) := by decide +kernel
theorem d_M_directionOf_28 : decode m_M_directionOf.2.1 28 = .ok (.iconst 1, 1) := by decide +kernel
theorem d_M_directionOf_29 : decode m_M_directionOf.2.1 29 = .ok (.iaload, 1) := by decide +kernel
theorem d_M_directionOf_30 : decode m_M_directionOf.2.1 30 = .ok (.imul, 1) := by decide +kernel
theorem d_M_directionOf_31 : decode m_M_directionOf.2.1 31 = .ok (.isub, 1) := by decide +kernel
theorem d_M_directionOf_32 : decode m_M_directionOf.2.1 32 = .ok (.aload_n 0, 1) := by decide +kernel
theorem d_M_directionOf_33 : decode m_M_directionOf.2.1 33 = .ok (.getfield 7, 3) := by decide +kernel
theorem d_M_directionOf_36 : decode m_M_directionOf.2.1 36 = .ok (.iconst 0, 1) := by decide +kernel
theorem d_M_directionOf_37 : decode m_M_directionOf.2.1 37 = .ok (.iaload, 1) := by decide +kernel
theorem d_M_directionOf_38 : decode m_M_directionOf.2.1 38 = .ok (.idiv, 1) := by decide +kernel
theorem d_M_directionOf_39 : decode m_M_directionOf.2.1 39 = .ok (.iadd, 1) := by decide +kernel
theorem d_M_directionOf_40 : decode m_M_directionOf.2.1 40 = .ok (.ireturn, 1) := by decide +kernel
def f_M_directionOf (x1 : Int) (w : qMem) : Option (Int × qMem) :=
  qld w 89 5898 1 fun v1 =>
  if x1 < (w32 (2 * v1)) then
  qld w 89 5898 1 fun v3 =>
  qdv v3 <|
  some ((jdiv x1 v3), w)
  else
  qld w 89 5898 1 fun v4 =>
  qld w 89 5898 0 fun v5 =>
  qdv v5 <|
  some ((w32 (2 + (jdiv (w32 (x1 - (w32 (2 * v4)))) v5))), w)
set_option maxRecDepth 4000 in
theorem s_M_directionOf (x1 : Int) (w : qMem) : qSim κI 100 100 m_M_directionOf 0 [] [some (qR 88), some (qI x1)] w (f_M_directionOf x1 w) := by
  unfold f_M_directionOf
  refine z_iload_n d_M_directionOf_0 rfl ?_
  refine z_ic2 d_M_directionOf_1 ?_
  refine z_aload_n d_M_directionOf_2 rfl ?_
  refine z_gr (ci := 10) (j := 0) (d := 1) (o2 := 89) d_M_directionOf_3 rfl fl_M_7 rfl (Nat.le_of_ble_eq_true rfl) rfl rfl ?_
  refine z_ic1 d_M_directionOf_6 ?_
  refine z_il d_M_directionOf_7 rfl rfl (fun v1 => ?_)
  refine z_imul d_M_directionOf_8 ?_
  refine z_icmp_ge (tgt := 21) d_M_directionOf_9 rfl (fun c2 => ?_) (fun c2 => ?_)
  · refine z_iload_n d_M_directionOf_12 rfl ?_
    refine z_aload_n d_M_directionOf_13 rfl ?_
    refine z_gr (ci := 10) (j := 0) (d := 1) (o2 := 89) d_M_directionOf_14 rfl fl_M_7 rfl (Nat.le_of_ble_eq_true rfl) rfl rfl ?_
    refine z_ic1 d_M_directionOf_17 ?_
    refine z_il d_M_directionOf_18 rfl rfl (fun v3 => ?_)
    refine z_idiv d_M_directionOf_19 (fun _ => ?_)
    exact z_iret d_M_directionOf_20 rfl rfl
  · refine z_ic2 d_M_directionOf_21 ?_
    refine z_iload_n d_M_directionOf_22 rfl ?_
    refine z_ic2 d_M_directionOf_23 ?_
    refine z_aload_n d_M_directionOf_24 rfl ?_
    refine z_gr (ci := 10) (j := 0) (d := 1) (o2 := 89) d_M_directionOf_25 rfl fl_M_7 rfl (Nat.le_of_ble_eq_true rfl) rfl rfl ?_
    refine z_ic1 d_M_directionOf_28 ?_
    refine z_il d_M_directionOf_29 rfl rfl (fun v4 => ?_)
    refine z_imul d_M_directionOf_30 ?_
    refine z_isub d_M_directionOf_31 ?_
    refine z_aload_n d_M_directionOf_32 rfl ?_
    refine z_gr (ci := 10) (j := 0) (d := 1) (o2 := 89) d_M_directionOf_33 rfl fl_M_7 rfl (Nat.le_of_ble_eq_true rfl) rfl rfl ?_
    refine z_ic0 d_M_directionOf_36 ?_
    refine z_il d_M_directionOf_37 rfl rfl (fun v5 => ?_)
    refine z_idiv d_M_directionOf_38 (fun _ => ?_)
    refine z_iadd d_M_directionOf_39 ?_
    exact z_iret d_M_directionOf_40 rfl rfl
/-! BubbleTorusModel.leastNode -/
theorem d_M_leastNode_0 : decode m_M_leastNode.2.1 0 = .ok (.aload_n 0, 1) := by decide +kernel
theorem d_M_leastNode_1 : decode m_M_leastNode.2.1 1 = .ok (.iload_n 1, 1) := by decide +kernel
theorem d_M_leastNode_2 : decode m_M_leastNode.2.1 2 = .ok (.invokevirtual 89, 3) := by decide +kernel
theorem d_M_leastNode_5 : decode m_M_leastNode.2.1 5 = .ok (.iconst 2, 1) := by decide +kernel
theorem d_M_leastNode_6 : decode m_M_leastNode.2.1 6 = .ok (.if_icmp .ge 21, 3) := by decide +kernel
theorem d_M_leastNode_9 : decode m_M_leastNode.2.1 9 = .ok (.aload_n 0, 1) := by decide +kernel
theorem d_M_leastNode_10 : decode m_M_leastNode.2.1 10 = .ok (.getfield 7, 3) := by decide +kernel
theorem d_M_leastNode_13 : decode m_M_leastNode.2.1 13 = .ok (.iconst 0, 1) := by decide +kernel
theorem d_M_leastNode_14 : decode m_M_leastNode.2.1 14 = .ok (.iaload, 1) := by decide +kernel
theorem d_M_leastNode_15 : decode m_M_leastNode.2.1 15 = .ok (.iload_n 1, 1) := by decide +kernel
theorem d_M_leastNode_16 : decode m_M_leastNode.2.1 16 = .ok (.aload_n 0, 1) := by decide +kernel
theorem d_M_leastNode_17 : decode m_M_leastNode.2.1 17 = .ok (.getfield 7, 3) := by decide +kernel
theorem d_M_leastNode_20 : decode m_M_leastNode.2.1 20 = .ok (.iconst 1, 1) := by decide +kernel
theorem d_M_leastNode_21 : decode m_M_leastNode.2.1 21 = .ok (.iaload, 1) := by decide +kernel
theorem d_M_leastNode_22 : decode m_M_leastNode.2.1 22 = .ok (.irem, 1) := by decide +kernel
theorem d_M_leastNode_23 : decode m_M_leastNode.2.1 23 = .ok (.imul, 1) := by decide +kernel
theorem d_M_leastNode_24 : decode m_M_leastNode.2.1 24 = .ok (.goto 20, 3) := by decide +kernel
theorem d_M_leastNode_27 : decode m_M_leastNode.2.1 27 = .ok (.iload_n 1, 1) := by decide +kernel
theorem d_M_leastNode_28 : decode m_M_leastNode.2.1 28 = .ok (.iconst 2, 1) := by decide +kernel
theorem d_M_leastNode_29 : decode m_M_leastNode.2.1 29 = .ok (.aload_n 0, 1) := by decide +kernel
theorem d_M_leastNode_30 : decode m_M_leastNode.2.1 30 = .ok (.getfield 7, 3) := by decide +kernel
theorem d_M_leastNode_33 : decode m_M_leastNode.2.1 33 = .ok (.iconst 1, 1) := by decide +kernel
theorem d_M_leastNode_34 : decode m_M_leastNode.2.1 34 = .ok (.iaload, 1) := by decide +kernel
theorem d_M_leastNode_35 : decode m_M_leastNode.2.1 35 = .ok (.imul, 1) := by decide +kernel
theorem d_M_leastNode_36 : decode m_M_leastNode.2.1 36 = .ok (.isub, 1) := by decide +kernel
theorem d_M_leastNode_37 : decode m_M_leastNode.2.1 37 = .ok (.aload_n 0, 1) := by decide +kernel
theorem d_M_leastNode_38 : decode m_M_leastNode.2.1 38 = .ok (.getfield 7, 3) := by decide +kernel
theorem d_M_leastNode_41 : decode m_M_leastNode.2.1 41 = .ok (.iconst 0, 1) := by decide +kernel
theorem d_M_leastNode_42 : decode m_M_leastNode.2.1 42 = .ok (.iaload, 1) := by decide +kernel
theorem d_M_leastNode_43 : decode m_M_leastNode.2.1 43 = .ok (.irem, 1) := by decide +kernel
theorem d_M_leastNode_44 : decode m_M_leastNode.2.1 44 = .ok (.ireturn, 1) := by decide +kernel
def f_M_leastNode (x1 : Int) (w : qMem) : Option (Int × qMem) :=
  (f_M_directionOf x1 w).bind fun q1 =>
  if q1.1 < 2 then
  qld q1.2 89 5898 0 fun v3 =>
  qld q1.2 89 5898 1 fun v4 =>
  qdv v4 <|
  some ((w32 (v3 * (jrem x1 v4))), q1.2)
  else
  qld q1.2 89 5898 1 fun v5 =>
  qld q1.2 89 5898 0 fun v6 =>
  qdv v6 <|
  some ((jrem (w32 (x1 - (w32 (2 * v5)))) v6), q1.2)
set_option maxRecDepth 4000 in
theorem s_M_leastNode (x1 : Int) (w : qMem) : qSim κI 100 100 m_M_leastNode 0 [] [some (qR 88), some (qI x1)] w (f_M_leastNode x1 w) := by
  unfold f_M_leastNode
  refine z_aload_n d_M_leastNode_0 rfl ?_
  refine z_iload_n d_M_leastNode_1 rfl ?_
  refine z_cVI (as := [qI x1]) (st := []) (nl := 0) (ci := 10) d_M_leastNode_2 lk_M_89 mk_M_directionOf rfl rfl rfl rfl rfl rfl (s_M_directionOf _ _) (fun q1 _ hq1 => ?_)
  refine z_ic2 d_M_leastNode_5 ?_
  refine z_icmp_ge (tgt := 27) d_M_leastNode_6 rfl (fun c2 => ?_) (fun c2 => ?_)
  · refine z_aload_n d_M_leastNode_9 rfl ?_
    refine z_gr (ci := 10) (j := 0) (d := 1) (o2 := 89) d_M_leastNode_10 rfl fl_M_7 rfl (Nat.le_of_ble_eq_true rfl) rfl rfl ?_
    refine z_ic0 d_M_leastNode_13 ?_
    refine z_il d_M_leastNode_14 rfl rfl (fun v3 => ?_)
    refine z_iload_n d_M_leastNode_15 rfl ?_
    refine z_aload_n d_M_leastNode_16 rfl ?_
    refine z_gr (ci := 10) (j := 0) (d := 1) (o2 := 89) d_M_leastNode_17 rfl fl_M_7 rfl (Nat.le_of_ble_eq_true rfl) rfl rfl ?_
    refine z_ic1 d_M_leastNode_20 ?_
    refine z_il d_M_leastNode_21 rfl rfl (fun v4 => ?_)
    refine z_irem d_M_leastNode_22 (fun _ => ?_)
    refine z_imul d_M_leastNode_23 ?_
    refine z_goto (tgt := 44) d_M_leastNode_24 rfl ?_
    exact z_iret d_M_leastNode_44 rfl rfl
  · refine z_iload_n d_M_leastNode_27 rfl ?_
    refine z_ic2 d_M_leastNode_28 ?_
    refine z_aload_n d_M_leastNode_29 rfl ?_
    refine z_gr (ci := 10) (j := 0) (d := 1) (o2 := 89) d_M_leastNode_30 rfl fl_M_7 rfl (Nat.le_of_ble_eq_true rfl) rfl rfl ?_
    refine z_ic1 d_M_leastNode_33 ?_
    refine z_il d_M_leastNode_34 rfl rfl (fun v5 => ?_)
    refine z_imul d_M_leastNode_35 ?_
    refine z_isub d_M_leastNode_36 ?_
    refine z_aload_n d_M_leastNode_37 rfl ?_
    refine z_gr (ci := 10) (j := 0) (d := 1) (o2 := 89) d_M_leastNode_38 rfl fl_M_7 rfl (Nat.le_of_ble_eq_true rfl) rfl rfl ?_
    refine z_ic0 d_M_leastNode_41 ?_
    refine z_il d_M_leastNode_42 rfl rfl (fun v6 => ?_)
    refine z_irem d_M_leastNode_43 (fun _ => ?_)
    exact z_iret d_M_leastNode_44 rfl rfl
/-! BubbleTorusModel.longOf -/
theorem d_M_longOf_0 : decode m_M_longOf.2.1 0 = .ok (.aload_n 0, 1) := by decide +kernel
theorem d_M_longOf_1 : decode m_M_longOf.2.1 1 = .ok (.iload_n 1, 1) := by decide +kernel
theorem d_M_longOf_2 : decode m_M_longOf.2.1 2 = .ok (.invokevirtual 89, 3) := by decide +kernel
theorem d_M_longOf_5 : decode m_M_longOf.2.1 5 = .ok (.iconst 2, 1) := by decide +kernel
theorem d_M_longOf_6 : decode m_M_longOf.2.1 6 = .ok (.if_icmp .ge 12, 3) := by decide +kernel
theorem d_M_longOf_9 : decode m_M_longOf.2.1 9 = .ok (.aload_n 0, 1) := by decide +kernel
theorem d_M_longOf_10 : decode m_M_longOf.2.1 10 = .ok (.getfield 7, 3) := by decide +kernel
theorem d_M_longOf_13 : decode m_M_longOf.2.1 13 = .ok (.iconst 0, 1) := by decide +kernel
theorem d_M_longOf_14 : decode m_M_longOf.2.1 14 = .ok (.iaload, 1) := by decide +kernel
theorem d_M_longOf_15 : decode m_M_longOf.2.1 15 = .ok (.goto 9, 3) := by decide +kernel
theorem d_M_longOf_18 : decode m_M_longOf.2.1 18 = .ok (.aload_n 0, 1) := by decide +kernel
theorem d_M_longOf_19 : decode m_M_longOf.2.1 19 = .ok (.getfield 7, 3) := by decide +kernel
theorem d_M_longOf_22 : decode m_M_longOf.2.1 22 = .ok (.iconst 1, 1) := by decide +kernel
theorem d_M_longOf_23 : decode m_M_longOf.2.1 23 = .ok (.iaload, 1) := by decide +kernel
theorem d_M_longOf_24 : decode m_M_longOf.2.1 24 = .ok (.ireturn, 1) := by decide +kernel
def f_M_longOf (x1 : Int) (w : qMem) : Option (Int × qMem) :=
  (f_M_directionOf x1 w).bind fun q1 =>
  if q1.1 < 2 then
  qld q1.2 89 5898 0 fun v3 =>
  some (v3, q1.2)
  else
  qld q1.2 89 5898 1 fun v4 =>
  some (v4, q1.2)
set_option maxRecDepth 4000 in
theorem s_M_longOf (x1 : Int) (w : qMem) : qSim κI 100 100 m_M_longOf 0 [] [some (qR 88), some (qI x1)] w (f_M_longOf x1 w) := by
  unfold f_M_longOf
  refine z_aload_n d_M_longOf_0 rfl ?_
  refine z_iload_n d_M_longOf_1 rfl ?_
  refine z_cVI (as := [qI x1]) (st := []) (nl := 0) (ci := 10) d_M_longOf_2 lk_M_89 mk_M_directionOf rfl rfl rfl rfl rfl rfl (s_M_directionOf _ _) (fun q1 _ hq1 => ?_)
  refine z_ic2 d_M_longOf_5 ?_
  refine z_icmp_ge (tgt := 18) d_M_longOf_6 rfl (fun c2 => ?_) (fun c2 => ?_)
  · refine z_aload_n d_M_longOf_9 rfl ?_
    refine z_gr (ci := 10) (j := 0) (d := 1) (o2 := 89) d_M_longOf_10 rfl fl_M_7 rfl (Nat.le_of_ble_eq_true rfl) rfl rfl ?_
    refine z_ic0 d_M_longOf_13 ?_
    refine z_il d_M_longOf_14 rfl rfl (fun v3 => ?_)
    refine z_goto (tgt := 24) d_M_longOf_15 rfl ?_
    exact z_iret d_M_longOf_24 rfl rfl
  · refine z_aload_n d_M_longOf_18 rfl ?_
    refine z_gr (ci := 10) (j := 0) (d := 1) (o2 := 89) d_M_longOf_19 rfl fl_M_7 rfl (Nat.le_of_ble_eq_true rfl) rfl rfl ?_
    refine z_ic1 d_M_longOf_22 ?_
    refine z_il d_M_longOf_23 rfl rfl (fun v4 => ?_)
    exact z_iret d_M_longOf_24 rfl rfl
/-! BubbleTorusModel.begins -/
theorem d_M_begins_0 : decode m_M_begins.2.1 0 = .ok (.iconst 0, 1) := by decide +kernel
theorem d_M_begins_1 : decode m_M_begins.2.1 1 = .ok (.istore 7, 2) := by decide +kernel
theorem d_M_begins_3 : decode m_M_begins.2.1 3 = .ok (.iload 7, 2) := by decide +kernel
theorem d_M_begins_5 : decode m_M_begins.2.1 5 = .ok (.sipush 5898, 3) := by decide +kernel
theorem d_M_begins_8 : decode m_M_begins.2.1 8 = .ok (.if_icmp .ge 17, 3) := by decide +kernel
theorem d_M_begins_11 : decode m_M_begins.2.1 11 = .ok (.aload_n 0, 1) := by decide +kernel
theorem d_M_begins_12 : decode m_M_begins.2.1 12 = .ok (.getfield 7, 3) := by decide +kernel
theorem d_M_begins_15 : decode m_M_begins.2.1 15 = .ok (.iload 7, 2) := by decide +kernel
theorem d_M_begins_17 : decode m_M_begins.2.1 17 = .ok (.iconst 0, 1) := by decide +kernel
theorem d_M_begins_18 : decode m_M_begins.2.1 18 = .ok (.iastore, 1) := by decide +kernel
theorem d_M_begins_19 : decode m_M_begins.2.1 19 = .ok (.iinc 7 1, 3) := by decide +kernel
theorem d_M_begins_22 : decode m_M_begins.2.1 22 = .ok (.goto (-19), 3) := by decide +kernel
theorem d_M_begins_25 : decode m_M_begins.2.1 25 = .ok (.aload_n 0, 1) := by decide +kernel
theorem d_M_begins_26 : decode m_M_begins.2.1 26 = .ok (.getfield 7, 3) := by decide +kernel
theorem d_M_begins_29 : decode m_M_begins.2.1 29 = .ok (.iconst 0, 1) := by decide +kernel
theorem d_M_begins_30 : decode m_M_begins.2.1 30 = .ok (.iload_n 1, 1) := by decide +kernel
theorem d_M_begins_31 : decode m_M_begins.2.1 31 = .ok (.iastore, 1) := by decide +kernel
theorem d_M_begins_32 : decode m_M_begins.2.1 32 = .ok (.aload_n 0, 1) := by decide +kernel
theorem d_M_begins_33 : decode m_M_begins.2.1 33 = .ok (.getfield 7, 3) := by decide +kernel
theorem d_M_begins_36 : decode m_M_begins.2.1 36 = .ok (.iconst 1, 1) := by decide +kernel
theorem d_M_begins_37 : decode m_M_begins.2.1 37 = .ok (.iload_n 2, 1) := by decide +kernel
theorem d_M_begins_38 : decode m_M_begins.2.1 38 = .ok (.iastore, 1) := by decide +kernel
theorem d_M_begins_39 : decode m_M_begins.2.1 39 = .ok (.aload_n 0, 1) := by decide +kernel
theorem d_M_begins_40 : decode m_M_begins.2.1 40 = .ok (.getfield 7, 3) := by decide +kernel
theorem d_M_begins_43 : decode m_M_begins.2.1 43 = .ok (.iconst 2, 1) := by decide +kernel
theorem d_M_begins_44 : decode m_M_begins.2.1 44 = .ok (.iload_n 3, 1) := by decide +kernel
theorem d_M_begins_45 : decode m_M_begins.2.1 45 = .ok (.iastore, 1) := by decide +kernel
theorem d_M_begins_46 : decode m_M_begins.2.1 46 = .ok (.aload_n 0, 1) := by decide +kernel
theorem d_M_begins_47 : decode m_M_begins.2.1 47 = .ok (.getfield 7, 3) := by decide +kernel
theorem d_M_begins_50 : decode m_M_begins.2.1 50 = .ok (.iconst 3, 1) := by decide +kernel
theorem d_M_begins_51 : decode m_M_begins.2.1 51 = .ok (.iload 4, 2) := by decide +kernel
theorem d_M_begins_53 : decode m_M_begins.2.1 53 = .ok (.iastore, 1) := by decide +kernel
theorem d_M_begins_54 : decode m_M_begins.2.1 54 = .ok (.aload_n 0, 1) := by decide +kernel
theorem d_M_begins_55 : decode m_M_begins.2.1 55 = .ok (.getfield 7, 3) := by decide +kernel
theorem d_M_begins_58 : decode m_M_begins.2.1 58 = .ok (.iconst 4, 1) := by decide +kernel
theorem d_M_begins_59 : decode m_M_begins.2.1 59 = .ok (.iload 5, 2) := by decide +kernel
theorem d_M_begins_61 : decode m_M_begins.2.1 61 = .ok (.iastore, 1) := by decide +kernel
theorem d_M_begins_62 : decode m_M_begins.2.1 62 = .ok (.aload_n 0, 1) := by decide +kernel
theorem d_M_begins_63 : decode m_M_begins.2.1 63 = .ok (.getfield 7, 3) := by decide +kernel
theorem d_M_begins_66 : decode m_M_begins.2.1 66 = .ok (.iconst 5, 1) := by decide +kernel
theorem d_M_begins_67 : decode m_M_begins.2.1 67 = .ok (.iload 6, 2) := by decide +kernel
theorem d_M_begins_69 : decode m_M_begins.2.1 69 = .ok (.iastore, 1) := by decide +kernel
theorem d_M_begins_70 : decode m_M_begins.2.1 70 = .ok (.iconst 0, 1) := by decide +kernel
theorem d_M_begins_71 : decode m_M_begins.2.1 71 = .ok (.istore 7, 2) := by decide +kernel
theorem d_M_begins_73 : decode m_M_begins.2.1 73 = .ok (.iload 7, 2) := by decide +kernel
theorem d_M_begins_75 : decode m_M_begins.2.1 75 = .ok (.aload_n 0, 1) := by decide +kernel
theorem d_M_begins_76 : decode m_M_begins.2.1 76 = .ok (.invokevirtual 54, 3) := by decide +kernel
theorem d_M_begins_79 : decode m_M_begins.2.1 79 = .ok (.if_icmp .ge 73, 3) := by decide +kernel
theorem d_M_begins_82 : decode m_M_begins.2.1 82 = .ok (.aload_n 0, 1) := by decide +kernel
theorem d_M_begins_83 : decode m_M_begins.2.1 83 = .ok (.getfield 7, 3) := by decide +kernel
theorem d_M_begins_86 : decode m_M_begins.2.1 86 = .ok (.iload 7, 2) := by decide +kernel
theorem d_M_begins_88 : decode m_M_begins.2.1 88 = .ok (.invokestatic 58, 3) := by decide +kernel
theorem d_M_begins_91 : decode m_M_begins.2.1 91 = .ok (.iconst 0, 1) := by decide +kernel
theorem d_M_begins_92 : decode m_M_begins.2.1 92 = .ok (.iadd, 1) := by decide +kernel
theorem d_M_begins_93 : decode m_M_begins.2.1 93 = .ok (.aload_n 0, 1) := by decide +kernel
theorem d_M_begins_94 : decode m_M_begins.2.1 94 = .ok (.iload 7, 2) := by decide +kernel
theorem d_M_begins_96 : decode m_M_begins.2.1 96 = .ok (.invokevirtual 62, 3) := by decide +kernel
theorem d_M_begins_99 : decode m_M_begins.2.1 99 = .ok (.iastore, 1) := by decide +kernel
theorem d_M_begins_100 : decode m_M_begins.2.1 100 = .ok (.aload_n 0, 1) := by decide +kernel
theorem d_M_begins_101 : decode m_M_begins.2.1 101 = .ok (.getfield 7, 3) := by decide +kernel
theorem d_M_begins_104 : decode m_M_begins.2.1 104 = .ok (.iload 7, 2) := by decide +kernel
theorem d_M_begins_106 : decode m_M_begins.2.1 106 = .ok (.invokestatic 58, 3) := by decide +kernel
theorem d_M_begins_109 : decode m_M_begins.2.1 109 = .ok (.iconst 1, 1) := by decide +kernel
theorem d_M_begins_110 : decode m_M_begins.2.1 110 = .ok (.iadd, 1) := by decide +kernel
theorem d_M_begins_111 : decode m_M_begins.2.1 111 = .ok (.iconst (-1), 1) := by decide +kernel
theorem d_M_begins_112 : decode m_M_begins.2.1 112 = .ok (.iastore, 1) := by decide +kernel
theorem d_M_begins_113 : decode m_M_begins.2.1 113 = .ok (.aload_n 0, 1) := by decide +kernel
theorem d_M_begins_114 : decode m_M_begins.2.1 114 = .ok (.getfield 7, 3) := by decide +kernel
theorem d_M_begins_117 : decode m_M_begins.2.1 117 = .ok (.iload 7, 2) := by decide +kernel
theorem d_M_begins_119 : decode m_M_begins.2.1 119 = .ok (.invokestatic 58, 3) := by decide +kernel
theorem d_M_begins_122 : decode m_M_begins.2.1 122 = .ok (.iconst 2, 1) := by decide +kernel
theorem d_M_begins_123 : decode m_M_begins.2.1 123 = .ok (.iadd, 1) := by decide +kernel
theorem d_M_begins_124 : decode m_M_begins.2.1 124 = .ok (.iconst (-1), 1) := by decide +kernel
theorem d_M_begins_125 : decode m_M_begins.2.1 125 = .ok (.iastore, 1) := by decide +kernel
theorem d_M_begins_126 : decode m_M_begins.2.1 126 = .ok (.aload_n 0, 1) := by decide +kernel
theorem d_M_begins_127 : decode m_M_begins.2.1 127 = .ok (.getfield 7, 3) := by decide +kernel
theorem d_M_begins_130 : decode m_M_begins.2.1 130 = .ok (.iload 7, 2) := by decide +kernel
theorem d_M_begins_132 : decode m_M_begins.2.1 132 = .ok (.invokestatic 58, 3) := by decide +kernel
theorem d_M_begins_135 : decode m_M_begins.2.1 135 = .ok (.iconst 5, 1) := by decide +kernel
theorem d_M_begins_136 : decode m_M_begins.2.1 136 = .ok (.iadd, 1) := by decide +kernel
theorem d_M_begins_137 : decode m_M_begins.2.1 137 = .ok (.iload_n 3, 1) := by decide +kernel
theorem d_M_begins_138 : decode m_M_begins.2.1 138 = .ok (.aload_n 0, 1) := by decide +kernel
theorem d_M_begins_139 : decode m_M_begins.2.1 139 = .ok (.iload 7, 2) := by decide +kernel
theorem d_M_begins_141 : decode m_M_begins.2.1 141 = .ok (.invokevirtual 65, 3) := by decide +kernel
theorem d_M_begins_144 : decode m_M_begins.2.1 144 = .ok (.imul, 1) := by decide +kernel
theorem d_M_begins_145 : decode m_M_begins.2.1 145 = .ok (.iastore, 1) := by decide +kernel
theorem d_M_begins_146 : decode m_M_begins.2.1 146 = .ok (.iinc 7 1, 3) := by decide +kernel
theorem d_M_begins_149 : decode m_M_begins.2.1 149 = .ok (.goto (-76), 3) := by decide +kernel
theorem d_M_begins_152 : decode m_M_begins.2.1 152 = .ok (.return_, 1) := by decide +kernel
def f_M_begins_73 : Nat → Int → Int → qMem → Option (qMem)
  | 0, _, _, _ => none
  | n + 1, x3, x7, w =>
    (f_M_rings w).bind fun q1 =>
    if x7 < q1.1 then
    (f_M_ringAt x7 q1.2).bind fun q3 =>
    (f_M_leastNode x7 q3.2).bind fun q4 =>
    qst q4.2 89 5898 (w32 (q3.1 + 0)) q4.1 fun w5 =>
    (f_M_ringAt x7 w5).bind fun q6 =>
    qst q6.2 89 5898 (w32 (q6.1 + 1)) (-1) fun w7 =>
    (f_M_ringAt x7 w7).bind fun q8 =>
    qst q8.2 89 5898 (w32 (q8.1 + 2)) (-1) fun w9 =>
    (f_M_ringAt x7 w9).bind fun q10 =>
    (f_M_longOf x7 q10.2).bind fun q11 =>
    qst q11.2 89 5898 (w32 (q10.1 + 5)) (w32 (x3 * q11.1)) fun w12 =>
    (f_M_begins_73 n) x3 (w32 (x7 + 1)) w12
    else
    some q1.2
set_option maxRecDepth 4000 in
theorem s_M_begins_73  : ∀ (n : Nat), ∀ (x3 x7 : Int) (w : qMem), qSim κV 100 100 m_M_begins 73 [] [some (qR 88), none, none, some (qI x3), none, none, none, some (qI x7)] w (f_M_begins_73 n x3 x7 w) := by
  intro n
  induction n with
  | zero => intro x3 x7 w; exact z_none
  | succ n ih =>
    intro x3 x7 w
    rw [f_M_begins_73]
    refine z_iload d_M_begins_73 rfl ?_
    refine z_aload_n d_M_begins_75 rfl ?_
    refine z_cVI (as := []) (st := [qI x7]) (nl := 0) (ci := 10) d_M_begins_76 lk_M_54 mk_M_rings rfl rfl rfl rfl rfl rfl (s_M_rings _) (fun q1 _ hq1 => ?_)
    refine z_icmp_ge (tgt := 152) d_M_begins_79 rfl (fun c2 => ?_) (fun c2 => ?_)
    · refine z_aload_n d_M_begins_82 rfl ?_
      refine z_gr (ci := 10) (j := 0) (d := 1) (o2 := 89) d_M_begins_83 rfl fl_M_7 rfl (Nat.le_of_ble_eq_true rfl) rfl rfl ?_
      refine z_iload d_M_begins_86 rfl ?_
      refine z_cSI (av := [qI x7]) (st := [qR 89]) (nl := 0) d_M_begins_88 lk_M_58 mk_M_ringAt rfl rfl rfl (s_M_ringAt _ _) (fun q3 _ hq3 => ?_)
      refine z_ic0 d_M_begins_91 ?_
      refine z_iadd d_M_begins_92 ?_
      refine z_aload_n d_M_begins_93 rfl ?_
      refine z_iload d_M_begins_94 rfl ?_
      refine z_cVI (as := [qI x7]) (st := [qI (w32 (q3.1 + 0)), qR 89]) (nl := 0) (ci := 10) d_M_begins_96 lk_M_62 mk_M_leastNode rfl rfl rfl rfl rfl rfl (s_M_leastNode _ _) (fun q4 _ hq4 => ?_)
      refine z_is d_M_begins_99 rfl rfl (fun w5 => ?_)
      refine z_aload_n d_M_begins_100 rfl ?_
      refine z_gr (ci := 10) (j := 0) (d := 1) (o2 := 89) d_M_begins_101 rfl fl_M_7 rfl (Nat.le_of_ble_eq_true rfl) rfl rfl ?_
      refine z_iload d_M_begins_104 rfl ?_
      refine z_cSI (av := [qI x7]) (st := [qR 89]) (nl := 0) d_M_begins_106 lk_M_58 mk_M_ringAt rfl rfl rfl (s_M_ringAt _ _) (fun q6 _ hq6 => ?_)
      refine z_ic1 d_M_begins_109 ?_
      refine z_iadd d_M_begins_110 ?_
      refine z_icm1 d_M_begins_111 ?_
      refine z_is d_M_begins_112 rfl rfl (fun w7 => ?_)
      refine z_aload_n d_M_begins_113 rfl ?_
      refine z_gr (ci := 10) (j := 0) (d := 1) (o2 := 89) d_M_begins_114 rfl fl_M_7 rfl (Nat.le_of_ble_eq_true rfl) rfl rfl ?_
      refine z_iload d_M_begins_117 rfl ?_
      refine z_cSI (av := [qI x7]) (st := [qR 89]) (nl := 0) d_M_begins_119 lk_M_58 mk_M_ringAt rfl rfl rfl (s_M_ringAt _ _) (fun q8 _ hq8 => ?_)
      refine z_ic2 d_M_begins_122 ?_
      refine z_iadd d_M_begins_123 ?_
      refine z_icm1 d_M_begins_124 ?_
      refine z_is d_M_begins_125 rfl rfl (fun w9 => ?_)
      refine z_aload_n d_M_begins_126 rfl ?_
      refine z_gr (ci := 10) (j := 0) (d := 1) (o2 := 89) d_M_begins_127 rfl fl_M_7 rfl (Nat.le_of_ble_eq_true rfl) rfl rfl ?_
      refine z_iload d_M_begins_130 rfl ?_
      refine z_cSI (av := [qI x7]) (st := [qR 89]) (nl := 0) d_M_begins_132 lk_M_58 mk_M_ringAt rfl rfl rfl (s_M_ringAt _ _) (fun q10 _ hq10 => ?_)
      refine z_ic5 d_M_begins_135 ?_
      refine z_iadd d_M_begins_136 ?_
      refine z_iload_n d_M_begins_137 rfl ?_
      refine z_aload_n d_M_begins_138 rfl ?_
      refine z_iload d_M_begins_139 rfl ?_
      refine z_cVI (as := [qI x7]) (st := [qI x3, qI (w32 (q10.1 + 5)), qR 89]) (nl := 0) (ci := 10) d_M_begins_141 lk_M_65 mk_M_longOf rfl rfl rfl rfl rfl rfl (s_M_longOf _ _) (fun q11 _ hq11 => ?_)
      refine z_imul d_M_begins_144 ?_
      refine z_is d_M_begins_145 rfl rfl (fun w12 => ?_)
      refine z_iinc (pls' := [some (qR 88), none, none, some (qI x3), none, none, none, some (qI (w32 (x7 + 1)))]) d_M_begins_146 (by decide) rfl rfl rfl ?_
      refine z_goto (tgt := 73) d_M_begins_149 rfl ?_
      refine z_mask [true, false, false, true, false, false, false, true] ?_
      exact ih _ _ _
    · exact z_vret d_M_begins_152 rfl rfl
def f_M_begins_25 (x1 x2 x3 x4 x5 x6 : Int) (w : qMem) : Option (qMem) :=
  qst w 89 5898 0 x1 fun w13 =>
  qst w13 89 5898 1 x2 fun w14 =>
  qst w14 89 5898 2 x3 fun w15 =>
  qst w15 89 5898 3 x4 fun w16 =>
  qst w16 89 5898 4 x5 fun w17 =>
  qst w17 89 5898 5 x6 fun w18 =>
  f_M_begins_73 qFU x3 0 w18
set_option maxRecDepth 4000 in
theorem s_M_begins_25  : ∀ (x1 x2 x3 x4 x5 x6 : Int) (w : qMem), qSim κV 100 100 m_M_begins 25 [] [some (qR 88), some (qI x1), some (qI x2), some (qI x3), some (qI x4), some (qI x5), some (qI x6), none] w (f_M_begins_25 x1 x2 x3 x4 x5 x6 w) := by
  intro x1 x2 x3 x4 x5 x6 w
  unfold f_M_begins_25
  refine z_aload_n d_M_begins_25 rfl ?_
  refine z_gr (ci := 10) (j := 0) (d := 1) (o2 := 89) d_M_begins_26 rfl fl_M_7 rfl (Nat.le_of_ble_eq_true rfl) rfl rfl ?_
  refine z_ic0 d_M_begins_29 ?_
  refine z_iload_n d_M_begins_30 rfl ?_
  refine z_is d_M_begins_31 rfl rfl (fun w13 => ?_)
  refine z_aload_n d_M_begins_32 rfl ?_
  refine z_gr (ci := 10) (j := 0) (d := 1) (o2 := 89) d_M_begins_33 rfl fl_M_7 rfl (Nat.le_of_ble_eq_true rfl) rfl rfl ?_
  refine z_ic1 d_M_begins_36 ?_
  refine z_iload_n d_M_begins_37 rfl ?_
  refine z_is d_M_begins_38 rfl rfl (fun w14 => ?_)
  refine z_aload_n d_M_begins_39 rfl ?_
  refine z_gr (ci := 10) (j := 0) (d := 1) (o2 := 89) d_M_begins_40 rfl fl_M_7 rfl (Nat.le_of_ble_eq_true rfl) rfl rfl ?_
  refine z_ic2 d_M_begins_43 ?_
  refine z_iload_n d_M_begins_44 rfl ?_
  refine z_is d_M_begins_45 rfl rfl (fun w15 => ?_)
  refine z_aload_n d_M_begins_46 rfl ?_
  refine z_gr (ci := 10) (j := 0) (d := 1) (o2 := 89) d_M_begins_47 rfl fl_M_7 rfl (Nat.le_of_ble_eq_true rfl) rfl rfl ?_
  refine z_ic3 d_M_begins_50 ?_
  refine z_iload d_M_begins_51 rfl ?_
  refine z_is d_M_begins_53 rfl rfl (fun w16 => ?_)
  refine z_aload_n d_M_begins_54 rfl ?_
  refine z_gr (ci := 10) (j := 0) (d := 1) (o2 := 89) d_M_begins_55 rfl fl_M_7 rfl (Nat.le_of_ble_eq_true rfl) rfl rfl ?_
  refine z_ic4 d_M_begins_58 ?_
  refine z_iload d_M_begins_59 rfl ?_
  refine z_is d_M_begins_61 rfl rfl (fun w17 => ?_)
  refine z_aload_n d_M_begins_62 rfl ?_
  refine z_gr (ci := 10) (j := 0) (d := 1) (o2 := 89) d_M_begins_63 rfl fl_M_7 rfl (Nat.le_of_ble_eq_true rfl) rfl rfl ?_
  refine z_ic5 d_M_begins_66 ?_
  refine z_iload d_M_begins_67 rfl ?_
  refine z_is d_M_begins_69 rfl rfl (fun w18 => ?_)
  refine z_ic0 d_M_begins_70 ?_
  refine z_istore (pls' := [some (qR 88), some (qI x1), some (qI x2), some (qI x3), some (qI x4), some (qI x5), some (qI x6), some (qI 0)]) d_M_begins_71 (by decide) rfl rfl ?_
  refine z_mask [true, false, false, true, false, false, false, true] ?_
  exact s_M_begins_73 _ _ _ _
def f_M_begins_3 : Nat → Int → Int → Int → Int → Int → Int → Int → qMem → Option (qMem)
  | 0, _, _, _, _, _, _, _, _ => none
  | n + 1, x1, x2, x3, x4, x5, x6, x7, w =>
    if x7 < 5898 then
    qst w 89 5898 x7 0 fun w20 =>
    (f_M_begins_3 n) x1 x2 x3 x4 x5 x6 (w32 (x7 + 1)) w20
    else
    f_M_begins_25 x1 x2 x3 x4 x5 x6 w
set_option maxRecDepth 4000 in
theorem s_M_begins_3  : ∀ (n : Nat), ∀ (x1 x2 x3 x4 x5 x6 x7 : Int) (w : qMem), qSim κV 100 100 m_M_begins 3 [] [some (qR 88), some (qI x1), some (qI x2), some (qI x3), some (qI x4), some (qI x5), some (qI x6), some (qI x7)] w (f_M_begins_3 n x1 x2 x3 x4 x5 x6 x7 w) := by
  intro n
  induction n with
  | zero => intro x1 x2 x3 x4 x5 x6 x7 w; exact z_none
  | succ n ih =>
    intro x1 x2 x3 x4 x5 x6 x7 w
    rw [f_M_begins_3]
    refine z_iload d_M_begins_3 rfl ?_
    refine z_sipush d_M_begins_5 ⟨by decide, by decide⟩ ?_
    refine z_icmp_ge (tgt := 25) d_M_begins_8 rfl (fun c19 => ?_) (fun c19 => ?_)
    · refine z_aload_n d_M_begins_11 rfl ?_
      refine z_gr (ci := 10) (j := 0) (d := 1) (o2 := 89) d_M_begins_12 rfl fl_M_7 rfl (Nat.le_of_ble_eq_true rfl) rfl rfl ?_
      refine z_iload d_M_begins_15 rfl ?_
      refine z_ic0 d_M_begins_17 ?_
      refine z_is d_M_begins_18 rfl rfl (fun w20 => ?_)
      refine z_iinc (pls' := [some (qR 88), some (qI x1), some (qI x2), some (qI x3), some (qI x4), some (qI x5), some (qI x6), some (qI (w32 (x7 + 1)))]) d_M_begins_19 (by decide) rfl rfl rfl ?_
      refine z_goto (tgt := 3) d_M_begins_22 rfl ?_
      refine z_mask [true, true, true, true, true, true, true, true] ?_
      exact ih _ _ _ _ _ _ _ _
    · refine z_mask [true, true, true, true, true, true, true, false] ?_
      exact s_M_begins_25 _ _ _ _ _ _ _
def f_M_begins (x1 : Int) (x2 : Int) (x3 : Int) (x4 : Int) (x5 : Int) (x6 : Int) (w : qMem) : Option (qMem) :=
  f_M_begins_3 qFU x1 x2 x3 x4 x5 x6 0 w
set_option maxRecDepth 4000 in
theorem s_M_begins (x1 : Int) (x2 : Int) (x3 : Int) (x4 : Int) (x5 : Int) (x6 : Int) (w : qMem) : qSim κV 100 100 m_M_begins 0 [] [some (qR 88), some (qI x1), some (qI x2), some (qI x3), some (qI x4), some (qI x5), some (qI x6), none] w (f_M_begins x1 x2 x3 x4 x5 x6 w) := by
  unfold f_M_begins
  refine z_ic0 d_M_begins_0 ?_
  refine z_istore (pls' := [some (qR 88), some (qI x1), some (qI x2), some (qI x3), some (qI x4), some (qI x5), some (qI x6), some (qI 0)]) d_M_begins_1 (by decide) rfl rfl ?_
  refine z_mask [true, true, true, true, true, true, true, true] ?_
  exact s_M_begins_3 _ _ _ _ _ _ _ _ _
/-! BubbleTorusModel.torus -/
theorem d_M_torus_0 : decode m_M_torus.2.1 0 = .ok (.iload_n 1, 1) := by decide +kernel
theorem d_M_torus_1 : decode m_M_torus.2.1 1 = .ok (.iconst 2, 1) := by decide +kernel
theorem d_M_torus_2 : decode m_M_torus.2.1 2 = .ok (.iconst 4, 1) := by decide +kernel
theorem d_M_torus_3 : decode m_M_torus.2.1 3 = .ok (.invokestatic 68, 3) := by decide +kernel
theorem d_M_torus_6 : decode m_M_torus.2.1 6 = .ok (.ifCond .eq 63, 3) := by decide +kernel
theorem d_M_torus_9 : decode m_M_torus.2.1 9 = .ok (.iload_n 2, 1) := by decide +kernel
theorem d_M_torus_10 : decode m_M_torus.2.1 10 = .ok (.iconst 2, 1) := by decide +kernel
theorem d_M_torus_11 : decode m_M_torus.2.1 11 = .ok (.iconst 4, 1) := by decide +kernel
theorem d_M_torus_12 : decode m_M_torus.2.1 12 = .ok (.invokestatic 68, 3) := by decide +kernel
theorem d_M_torus_15 : decode m_M_torus.2.1 15 = .ok (.ifCond .eq 54, 3) := by decide +kernel
theorem d_M_torus_18 : decode m_M_torus.2.1 18 = .ok (.iload_n 3, 1) := by decide +kernel
theorem d_M_torus_19 : decode m_M_torus.2.1 19 = .ok (.iconst 1, 1) := by decide +kernel
theorem d_M_torus_20 : decode m_M_torus.2.1 20 = .ok (.iconst 4, 1) := by decide +kernel
theorem d_M_torus_21 : decode m_M_torus.2.1 21 = .ok (.invokestatic 68, 3) := by decide +kernel
theorem d_M_torus_24 : decode m_M_torus.2.1 24 = .ok (.ifCond .eq 45, 3) := by decide +kernel
theorem d_M_torus_27 : decode m_M_torus.2.1 27 = .ok (.iload 4, 2) := by decide +kernel
theorem d_M_torus_29 : decode m_M_torus.2.1 29 = .ok (.iconst 0, 1) := by decide +kernel
theorem d_M_torus_30 : decode m_M_torus.2.1 30 = .ok (.iconst 3, 1) := by decide +kernel
theorem d_M_torus_31 : decode m_M_torus.2.1 31 = .ok (.invokestatic 68, 3) := by decide +kernel
theorem d_M_torus_34 : decode m_M_torus.2.1 34 = .ok (.ifCond .eq 35, 3) := by decide +kernel
theorem d_M_torus_37 : decode m_M_torus.2.1 37 = .ok (.iload 5, 2) := by decide +kernel
theorem d_M_torus_39 : decode m_M_torus.2.1 39 = .ok (.iconst 0, 1) := by decide +kernel
theorem d_M_torus_40 : decode m_M_torus.2.1 40 = .ok (.iconst 2, 1) := by decide +kernel
theorem d_M_torus_41 : decode m_M_torus.2.1 41 = .ok (.invokestatic 68, 3) := by decide +kernel
theorem d_M_torus_44 : decode m_M_torus.2.1 44 = .ok (.ifCond .eq 25, 3) := by decide +kernel
theorem d_M_torus_47 : decode m_M_torus.2.1 47 = .ok (.iload 6, 2) := by decide +kernel
theorem d_M_torus_49 : decode m_M_torus.2.1 49 = .ok (.iconst 0, 1) := by decide +kernel
theorem d_M_torus_50 : decode m_M_torus.2.1 50 = .ok (.bipush 99, 2) := by decide +kernel
theorem d_M_torus_52 : decode m_M_torus.2.1 52 = .ok (.invokestatic 68, 3) := by decide +kernel
theorem d_M_torus_55 : decode m_M_torus.2.1 55 = .ok (.ifCond .eq 14, 3) := by decide +kernel
theorem d_M_torus_58 : decode m_M_torus.2.1 58 = .ok (.iload 5, 2) := by decide +kernel
theorem d_M_torus_60 : decode m_M_torus.2.1 60 = .ok (.iconst 1, 1) := by decide +kernel
theorem d_M_torus_61 : decode m_M_torus.2.1 61 = .ok (.if_icmp .ne 10, 3) := by decide +kernel
theorem d_M_torus_64 : decode m_M_torus.2.1 64 = .ok (.iload_n 3, 1) := by decide +kernel
theorem d_M_torus_65 : decode m_M_torus.2.1 65 = .ok (.iconst 1, 1) := by decide +kernel
theorem d_M_torus_66 : decode m_M_torus.2.1 66 = .ok (.if_icmp .ne 5, 3) := by decide +kernel
theorem d_M_torus_69 : decode m_M_torus.2.1 69 = .ok (.iconst 0, 1) := by decide +kernel
theorem d_M_torus_70 : decode m_M_torus.2.1 70 = .ok (.ireturn, 1) := by decide +kernel
theorem d_M_torus_71 : decode m_M_torus.2.1 71 = .ok (.aload_n 0, 1) := by decide +kernel
theorem d_M_torus_72 : decode m_M_torus.2.1 72 = .ok (.iload_n 1, 1) := by decide +kernel
theorem d_M_torus_73 : decode m_M_torus.2.1 73 = .ok (.iload_n 2, 1) := by decide +kernel
theorem d_M_torus_74 : decode m_M_torus.2.1 74 = .ok (.iload_n 3, 1) := by decide +kernel
theorem d_M_torus_75 : decode m_M_torus.2.1 75 = .ok (.iload 4, 2) := by decide +kernel
theorem d_M_torus_77 : decode m_M_torus.2.1 77 = .ok (.iload 5, 2) := by decide +kernel
theorem d_M_torus_79 : decode m_M_torus.2.1 79 = .ok (.iload 6, 2) := by decide +kernel
theorem d_M_torus_81 : decode m_M_torus.2.1 81 = .ok (.invokevirtual 50, 3) := by decide +kernel
theorem d_M_torus_84 : decode m_M_torus.2.1 84 = .ok (.iconst 1, 1) := by decide +kernel
theorem d_M_torus_85 : decode m_M_torus.2.1 85 = .ok (.ireturn, 1) := by decide +kernel
def f_M_torus_71 (x1 x2 x3 x4 x5 x6 : Int) (w : qMem) : Option (Int × qMem) :=
  (f_M_begins x1 x2 x3 x4 x5 x6 w).bind fun q1 =>
  some (1, q1)
set_option maxRecDepth 4000 in
theorem s_M_torus_71  : ∀ (x1 x2 x3 x4 x5 x6 : Int) (w : qMem), qSim κI 100 100 m_M_torus 71 [] [some (qR 88), some (qI x1), some (qI x2), some (qI x3), some (qI x4), some (qI x5), some (qI x6)] w (f_M_torus_71 x1 x2 x3 x4 x5 x6 w) := by
  intro x1 x2 x3 x4 x5 x6 w
  unfold f_M_torus_71
  refine z_aload_n d_M_torus_71 rfl ?_
  refine z_iload_n d_M_torus_72 rfl ?_
  refine z_iload_n d_M_torus_73 rfl ?_
  refine z_iload_n d_M_torus_74 rfl ?_
  refine z_iload d_M_torus_75 rfl ?_
  refine z_iload d_M_torus_77 rfl ?_
  refine z_iload d_M_torus_79 rfl ?_
  refine z_cVV (as := [qI x1, qI x2, qI x3, qI x4, qI x5, qI x6]) (st := []) (nl := 1) (ci := 10) d_M_torus_81 lk_M_50 mk_M_begins rfl rfl rfl rfl rfl rfl (s_M_begins _ _ _ _ _ _ _) (fun q1 _ => ?_)
  refine z_ic1 d_M_torus_84 ?_
  exact z_zret d_M_torus_85 rfl rfl (Or.inr rfl)
def f_M_torus (x1 : Int) (x2 : Int) (x3 : Int) (x4 : Int) (x5 : Int) (x6 : Int) (w : qMem) : Option (Int × qMem) :=
  (f_M_isIn x1 2 4 w).bind fun q2 =>
  if q2.1 = 0 then
  some (0, q2.2)
  else
  (f_M_isIn x2 2 4 q2.2).bind fun q4 =>
  if q4.1 = 0 then
  some (0, q4.2)
  else
  (f_M_isIn x3 1 4 q4.2).bind fun q6 =>
  if q6.1 = 0 then
  some (0, q6.2)
  else
  (f_M_isIn x4 0 3 q6.2).bind fun q8 =>
  if q8.1 = 0 then
  some (0, q8.2)
  else
  (f_M_isIn x5 0 2 q8.2).bind fun q10 =>
  if q10.1 = 0 then
  some (0, q10.2)
  else
  (f_M_isIn x6 0 99 q10.2).bind fun q12 =>
  if q12.1 = 0 then
  some (0, q12.2)
  else
  if x5 = 1 then
  if x3 = 1 then
  some (0, q12.2)
  else
  f_M_torus_71 x1 x2 x3 x4 x5 x6 q12.2
  else
  f_M_torus_71 x1 x2 x3 x4 x5 x6 q12.2
set_option maxRecDepth 4000 in
theorem s_M_torus (x1 : Int) (x2 : Int) (x3 : Int) (x4 : Int) (x5 : Int) (x6 : Int) (w : qMem) : qSim κI 100 100 m_M_torus 0 [] [some (qR 88), some (qI x1), some (qI x2), some (qI x3), some (qI x4), some (qI x5), some (qI x6)] w (f_M_torus x1 x2 x3 x4 x5 x6 w) := by
  unfold f_M_torus
  refine z_iload_n d_M_torus_0 rfl ?_
  refine z_ic2 d_M_torus_1 ?_
  refine z_ic4 d_M_torus_2 ?_
  refine z_cSI (av := [qI x1, qI 2, qI 4]) (st := []) (nl := 0) d_M_torus_3 lk_M_68 mk_M_isIn rfl rfl rfl (s_M_isIn _ _ _ _) (fun q2 _ hq2 => ?_)
  refine z_if_eq (tgt := 69) d_M_torus_6 rfl (fun c3 => ?_) (fun c3 => ?_)
  · refine z_ic0 d_M_torus_69 ?_
    exact z_zret d_M_torus_70 rfl rfl (Or.inl rfl)
  · refine z_iload_n d_M_torus_9 rfl ?_
    refine z_ic2 d_M_torus_10 ?_
    refine z_ic4 d_M_torus_11 ?_
    refine z_cSI (av := [qI x2, qI 2, qI 4]) (st := []) (nl := 0) d_M_torus_12 lk_M_68 mk_M_isIn rfl rfl rfl (s_M_isIn _ _ _ _) (fun q4 _ hq4 => ?_)
    refine z_if_eq (tgt := 69) d_M_torus_15 rfl (fun c5 => ?_) (fun c5 => ?_)
    · refine z_ic0 d_M_torus_69 ?_
      exact z_zret d_M_torus_70 rfl rfl (Or.inl rfl)
    · refine z_iload_n d_M_torus_18 rfl ?_
      refine z_ic1 d_M_torus_19 ?_
      refine z_ic4 d_M_torus_20 ?_
      refine z_cSI (av := [qI x3, qI 1, qI 4]) (st := []) (nl := 0) d_M_torus_21 lk_M_68 mk_M_isIn rfl rfl rfl (s_M_isIn _ _ _ _) (fun q6 _ hq6 => ?_)
      refine z_if_eq (tgt := 69) d_M_torus_24 rfl (fun c7 => ?_) (fun c7 => ?_)
      · refine z_ic0 d_M_torus_69 ?_
        exact z_zret d_M_torus_70 rfl rfl (Or.inl rfl)
      · refine z_iload d_M_torus_27 rfl ?_
        refine z_ic0 d_M_torus_29 ?_
        refine z_ic3 d_M_torus_30 ?_
        refine z_cSI (av := [qI x4, qI 0, qI 3]) (st := []) (nl := 0) d_M_torus_31 lk_M_68 mk_M_isIn rfl rfl rfl (s_M_isIn _ _ _ _) (fun q8 _ hq8 => ?_)
        refine z_if_eq (tgt := 69) d_M_torus_34 rfl (fun c9 => ?_) (fun c9 => ?_)
        · refine z_ic0 d_M_torus_69 ?_
          exact z_zret d_M_torus_70 rfl rfl (Or.inl rfl)
        · refine z_iload d_M_torus_37 rfl ?_
          refine z_ic0 d_M_torus_39 ?_
          refine z_ic2 d_M_torus_40 ?_
          refine z_cSI (av := [qI x5, qI 0, qI 2]) (st := []) (nl := 0) d_M_torus_41 lk_M_68 mk_M_isIn rfl rfl rfl (s_M_isIn _ _ _ _) (fun q10 _ hq10 => ?_)
          refine z_if_eq (tgt := 69) d_M_torus_44 rfl (fun c11 => ?_) (fun c11 => ?_)
          · refine z_ic0 d_M_torus_69 ?_
            exact z_zret d_M_torus_70 rfl rfl (Or.inl rfl)
          · refine z_iload d_M_torus_47 rfl ?_
            refine z_ic0 d_M_torus_49 ?_
            refine z_bipush d_M_torus_50 ⟨by decide, by decide⟩ ?_
            refine z_cSI (av := [qI x6, qI 0, qI 99]) (st := []) (nl := 0) d_M_torus_52 lk_M_68 mk_M_isIn rfl rfl rfl (s_M_isIn _ _ _ _) (fun q12 _ hq12 => ?_)
            refine z_if_eq (tgt := 69) d_M_torus_55 rfl (fun c13 => ?_) (fun c13 => ?_)
            · refine z_ic0 d_M_torus_69 ?_
              exact z_zret d_M_torus_70 rfl rfl (Or.inl rfl)
            · refine z_iload d_M_torus_58 rfl ?_
              refine z_ic1 d_M_torus_60 ?_
              refine z_icmp_ne (tgt := 71) d_M_torus_61 rfl (fun c14 => ?_) (fun c14 => ?_)
              · refine z_iload_n d_M_torus_64 rfl ?_
                refine z_ic1 d_M_torus_65 ?_
                refine z_icmp_ne (tgt := 71) d_M_torus_66 rfl (fun c15 => ?_) (fun c15 => ?_)
                · refine z_ic0 d_M_torus_69 ?_
                  exact z_zret d_M_torus_70 rfl rfl (Or.inl rfl)
                · refine z_mask [true, true, true, true, true, true, true] ?_
                  exact s_M_torus_71 _ _ _ _ _ _ _
              · refine z_mask [true, true, true, true, true, true, true] ?_
                exact s_M_torus_71 _ _ _ _ _ _ _
/-! BubbleTorusModel.nodes -/
theorem d_M_nodes_0 : decode m_M_nodes.2.1 0 = .ok (.aload_n 0, 1) := by decide +kernel
theorem d_M_nodes_1 : decode m_M_nodes.2.1 1 = .ok (.getfield 7, 3) := by decide +kernel
theorem d_M_nodes_4 : decode m_M_nodes.2.1 4 = .ok (.iconst 0, 1) := by decide +kernel
theorem d_M_nodes_5 : decode m_M_nodes.2.1 5 = .ok (.iaload, 1) := by decide +kernel
theorem d_M_nodes_6 : decode m_M_nodes.2.1 6 = .ok (.aload_n 0, 1) := by decide +kernel
theorem d_M_nodes_7 : decode m_M_nodes.2.1 7 = .ok (.getfield 7, 3) := by decide +kernel
theorem d_M_nodes_10 : decode m_M_nodes.2.1 10 = .ok (.iconst 1, 1) := by decide +kernel
theorem d_M_nodes_11 : decode m_M_nodes.2.1 11 = .ok (.iaload, 1) := by decide +kernel
theorem d_M_nodes_12 : decode m_M_nodes.2.1 12 = .ok (.imul, 1) := by decide +kernel
theorem d_M_nodes_13 : decode m_M_nodes.2.1 13 = .ok (.ireturn, 1) := by decide +kernel
def f_M_nodes (w : qMem) : Option (Int × qMem) :=
  qld w 89 5898 0 fun v1 =>
  qld w 89 5898 1 fun v2 =>
  some ((w32 (v1 * v2)), w)
set_option maxRecDepth 4000 in
theorem s_M_nodes (w : qMem) : qSim κI 100 100 m_M_nodes 0 [] [some (qR 88)] w (f_M_nodes w) := by
  unfold f_M_nodes
  refine z_aload_n d_M_nodes_0 rfl ?_
  refine z_gr (ci := 10) (j := 0) (d := 1) (o2 := 89) d_M_nodes_1 rfl fl_M_7 rfl (Nat.le_of_ble_eq_true rfl) rfl rfl ?_
  refine z_ic0 d_M_nodes_4 ?_
  refine z_il d_M_nodes_5 rfl rfl (fun v1 => ?_)
  refine z_aload_n d_M_nodes_6 rfl ?_
  refine z_gr (ci := 10) (j := 0) (d := 1) (o2 := 89) d_M_nodes_7 rfl fl_M_7 rfl (Nat.le_of_ble_eq_true rfl) rfl rfl ?_
  refine z_ic1 d_M_nodes_10 ?_
  refine z_il d_M_nodes_11 rfl rfl (fun v2 => ?_)
  refine z_imul d_M_nodes_12 ?_
  exact z_iret d_M_nodes_13 rfl rfl
/-! BubbleTorusModel.isNode -/
theorem d_M_isNode_0 : decode m_M_isNode.2.1 0 = .ok (.iload_n 1, 1) := by decide +kernel
theorem d_M_isNode_1 : decode m_M_isNode.2.1 1 = .ok (.iconst 0, 1) := by decide +kernel
theorem d_M_isNode_2 : decode m_M_isNode.2.1 2 = .ok (.aload_n 0, 1) := by decide +kernel
theorem d_M_isNode_3 : decode m_M_isNode.2.1 3 = .ok (.invokevirtual 72, 3) := by decide +kernel
theorem d_M_isNode_6 : decode m_M_isNode.2.1 6 = .ok (.iconst 1, 1) := by decide +kernel
theorem d_M_isNode_7 : decode m_M_isNode.2.1 7 = .ok (.isub, 1) := by decide +kernel
theorem d_M_isNode_8 : decode m_M_isNode.2.1 8 = .ok (.invokestatic 68, 3) := by decide +kernel
theorem d_M_isNode_11 : decode m_M_isNode.2.1 11 = .ok (.ireturn, 1) := by decide +kernel
def f_M_isNode (x1 : Int) (w : qMem) : Option (Int × qMem) :=
  (f_M_nodes w).bind fun q1 =>
  (f_M_isIn x1 0 (w32 (q1.1 - 1)) q1.2).bind fun q2 =>
  some (q2.1, q2.2)
set_option maxRecDepth 4000 in
theorem s_M_isNode (x1 : Int) (w : qMem) : qSim κI 100 100 m_M_isNode 0 [] [some (qR 88), some (qI x1)] w (f_M_isNode x1 w) := by
  unfold f_M_isNode
  refine z_iload_n d_M_isNode_0 rfl ?_
  refine z_ic0 d_M_isNode_1 ?_
  refine z_aload_n d_M_isNode_2 rfl ?_
  refine z_cVI (as := []) (st := [qI 0, qI x1]) (nl := 0) (ci := 10) d_M_isNode_3 lk_M_72 mk_M_nodes rfl rfl rfl rfl rfl rfl (s_M_nodes _) (fun q1 _ hq1 => ?_)
  refine z_ic1 d_M_isNode_6 ?_
  refine z_isub d_M_isNode_7 ?_
  refine z_cSI (av := [qI x1, qI 0, qI (w32 (q1.1 - 1))]) (st := []) (nl := 0) d_M_isNode_8 lk_M_68 mk_M_isIn rfl rfl rfl (s_M_isIn _ _ _ _) (fun q2 _ hq2 => ?_)
  exact z_zret d_M_isNode_11 rfl rfl (q_boo rfl hq2)
/-! BubbleTorusModel.isDirection -/
theorem d_M_isDirection_0 : decode m_M_isDirection.2.1 0 = .ok (.iload_n 0, 1) := by decide +kernel
theorem d_M_isDirection_1 : decode m_M_isDirection.2.1 1 = .ok (.iconst 0, 1) := by decide +kernel
theorem d_M_isDirection_2 : decode m_M_isDirection.2.1 2 = .ok (.iconst 3, 1) := by decide +kernel
theorem d_M_isDirection_3 : decode m_M_isDirection.2.1 3 = .ok (.invokestatic 68, 3) := by decide +kernel
theorem d_M_isDirection_6 : decode m_M_isDirection.2.1 6 = .ok (.ireturn, 1) := by decide +kernel
def f_M_isDirection (x0 : Int) (w : qMem) : Option (Int × qMem) :=
  (f_M_isIn x0 0 3 w).bind fun q1 =>
  some (q1.1, q1.2)
set_option maxRecDepth 4000 in
theorem s_M_isDirection {ph : Nat} (x0 : Int) (w : qMem) : qSim κI ph ph m_M_isDirection 0 [] [some (qI x0)] w (f_M_isDirection x0 w) := by
  unfold f_M_isDirection
  refine z_iload_n d_M_isDirection_0 rfl ?_
  refine z_ic0 d_M_isDirection_1 ?_
  refine z_ic3 d_M_isDirection_2 ?_
  refine z_cSI (av := [qI x0, qI 0, qI 3]) (st := []) (nl := 0) d_M_isDirection_3 lk_M_68 mk_M_isIn rfl rfl rfl (s_M_isIn _ _ _ _) (fun q1 _ hq1 => ?_)
  exact z_zret d_M_isDirection_6 rfl rfl (q_boo rfl hq1)
/-! BubbleTorusModel.nextOf -/
theorem d_M_nextOf_0 : decode m_M_nextOf.2.1 0 = .ok (.iload_n 1, 1) := by decide +kernel
theorem d_M_nextOf_1 : decode m_M_nextOf.2.1 1 = .ok (.aload_n 0, 1) := by decide +kernel
theorem d_M_nextOf_2 : decode m_M_nextOf.2.1 2 = .ok (.getfield 7, 3) := by decide +kernel
theorem d_M_nextOf_5 : decode m_M_nextOf.2.1 5 = .ok (.iconst 0, 1) := by decide +kernel
theorem d_M_nextOf_6 : decode m_M_nextOf.2.1 6 = .ok (.iaload, 1) := by decide +kernel
theorem d_M_nextOf_7 : decode m_M_nextOf.2.1 7 = .ok (.irem, 1) := by decide +kernel
theorem d_M_nextOf_8 : decode m_M_nextOf.2.1 8 = .ok (.istore_n 3, 1) := by decide +kernel
theorem d_M_nextOf_9 : decode m_M_nextOf.2.1 9 = .ok (.iload_n 1, 1) := by decide +kernel
theorem d_M_nextOf_10 : decode m_M_nextOf.2.1 10 = .ok (.aload_n 0, 1) := by decide +kernel
theorem d_M_nextOf_11 : decode m_M_nextOf.2.1 11 = .ok (.getfield 7, 3) := by decide +kernel
theorem d_M_nextOf_14 : decode m_M_nextOf.2.1 14 = .ok (.iconst 0, 1) := by decide +kernel
theorem d_M_nextOf_15 : decode m_M_nextOf.2.1 15 = .ok (.iaload, 1) := by decide +kernel
theorem d_M_nextOf_16 : decode m_M_nextOf.2.1 16 = .ok (.idiv, 1) := by decide +kernel
theorem d_M_nextOf_17 : decode m_M_nextOf.2.1 17 = .ok (.istore 4, 2) := by decide +kernel
theorem d_M_nextOf_19 : decode m_M_nextOf.2.1 19 = .ok (.iload_n 2, 1) := by decide +kernel
theorem d_M_nextOf_20 : decode m_M_nextOf.2.1 20 = .ok (.tableswitch 98 0 2 #[28, 49, 77], 28) := by decide +kernel
theorem d_M_nextOf_48 : decode m_M_nextOf.2.1 48 = .ok (.aload_n 0, 1) := by decide +kernel
theorem d_M_nextOf_49 : decode m_M_nextOf.2.1 49 = .ok (.getfield 7, 3) := by decide +kernel
theorem d_M_nextOf_52 : decode m_M_nextOf.2.1 52 = .ok (.iconst 0, 1) := by decide +kernel
theorem d_M_nextOf_53 : decode m_M_nextOf.2.1 53 = .ok (.iaload, 1) := by decide +kernel
theorem d_M_nextOf_54 : decode m_M_nextOf.2.1 54 = .ok (.iload 4, 2) := by decide +kernel
theorem d_M_nextOf_56 : decode m_M_nextOf.2.1 56 = .ok (.imul, 1) := by decide +kernel
theorem d_M_nextOf_57 : decode m_M_nextOf.2.1 57 = .ok (.iload_n 3, 1) := by decide +kernel
theorem d_M_nextOf_58 : decode m_M_nextOf.2.1 58 = .ok (.iconst 1, 1) := by decide +kernel
theorem d_M_nextOf_59 : decode m_M_nextOf.2.1 59 = .ok (.iadd, 1) := by decide +kernel
theorem d_M_nextOf_60 : decode m_M_nextOf.2.1 60 = .ok (.aload_n 0, 1) := by decide +kernel
theorem d_M_nextOf_61 : decode m_M_nextOf.2.1 61 = .ok (.getfield 7, 3) := by decide +kernel
theorem d_M_nextOf_64 : decode m_M_nextOf.2.1 64 = .ok (.iconst 0, 1) := by decide +kernel
theorem d_M_nextOf_65 : decode m_M_nextOf.2.1 65 = .ok (.iaload, 1) := by decide +kernel
theorem d_M_nextOf_66 : decode m_M_nextOf.2.1 66 = .ok (.irem, 1) := by decide +kernel
theorem d_M_nextOf_67 : decode m_M_nextOf.2.1 67 = .ok (.iadd, 1) := by decide +kernel
theorem d_M_nextOf_68 : decode m_M_nextOf.2.1 68 = .ok (.ireturn, 1) := by decide +kernel
theorem d_M_nextOf_69 : decode m_M_nextOf.2.1 69 = .ok (.aload_n 0, 1) := by decide +kernel
theorem d_M_nextOf_70 : decode m_M_nextOf.2.1 70 = .ok (.getfield 7, 3) := by decide +kernel
theorem d_M_nextOf_73 : decode m_M_nextOf.2.1 73 = .ok (.iconst 0, 1) := by decide +kernel
theorem d_M_nextOf_74 : decode m_M_nextOf.2.1 74 = .ok (.iaload, 1) := by decide +kernel
theorem d_M_nextOf_75 : decode m_M_nextOf.2.1 75 = .ok (.iload 4, 2) := by decide +kernel
theorem d_M_nextOf_77 : decode m_M_nextOf.2.1 77 = .ok (.imul, 1) := by decide +kernel
theorem d_M_nextOf_78 : decode m_M_nextOf.2.1 78 = .ok (.iload_n 3, 1) := by decide +kernel
theorem d_M_nextOf_79 : decode m_M_nextOf.2.1 79 = .ok (.aload_n 0, 1) := by decide +kernel
theorem d_M_nextOf_80 : decode m_M_nextOf.2.1 80 = .ok (.getfield 7, 3) := by decide +kernel
theorem d_M_nextOf_83 : decode m_M_nextOf.2.1 83 = .ok (.iconst 0, 1) := by decide +kernel
theorem d_M_nextOf_84 : decode m_M_nextOf.2.1 84 = .ok (.iaload, 1) := by decide +kernel
theorem d_M_nextOf_85 : decode m_M_nextOf.2.1 85 = .ok (.iadd, 1) := by decide +kernel
theorem d_M_nextOf_86 : decode m_M_nextOf.2.1 86 = .ok (.iconst 1, 1) := by decide +kernel
theorem d_M_nextOf_87 : decode m_M_nextOf.2.1 87 = .ok (.isub, 1) := by decide +kernel
theorem d_M_nextOf_88 : decode m_M_nextOf.2.1 88 = .ok (.aload_n 0, 1) := by decide +kernel
theorem d_M_nextOf_89 : decode m_M_nextOf.2.1 89 = .ok (.getfield 7, 3) := by decide +kernel
theorem d_M_nextOf_92 : decode m_M_nextOf.2.1 92 = .ok (.iconst 0, 1) := by decide +kernel
theorem d_M_nextOf_93 : decode m_M_nextOf.2.1 93 = .ok (.iaload, 1) := by decide +kernel
theorem d_M_nextOf_94 : decode m_M_nextOf.2.1 94 = .ok (.irem, 1) := by decide +kernel
theorem d_M_nextOf_95 : decode m_M_nextOf.2.1 95 = .ok (.iadd, 1) := by decide +kernel
theorem d_M_nextOf_96 : decode m_M_nextOf.2.1 96 = .ok (.ireturn, 1) := by decide +kernel
theorem d_M_nextOf_97 : decode m_M_nextOf.2.1 97 = .ok (.aload_n 0, 1) := by decide +kernel
theorem d_M_nextOf_98 : decode m_M_nextOf.2.1 98 = .ok (.getfield 7, 3) := by decide +kernel
theorem d_M_nextOf_101 : decode m_M_nextOf.2.1 101 = .ok (.iconst 0, 1) := by decide +kernel
theorem d_M_nextOf_102 : decode m_M_nextOf.2.1 102 = .ok (.iaload, 1) := by decide +kernel
theorem d_M_nextOf_103 : decode m_M_nextOf.2.1 103 = .ok (.iload 4, 2) := by decide +kernel
theorem d_M_nextOf_105 : decode m_M_nextOf.2.1 105 = .ok (.iconst 1, 1) := by decide +kernel
theorem d_M_nextOf_106 : decode m_M_nextOf.2.1 106 = .ok (.iadd, 1) := by decide +kernel
theorem d_M_nextOf_107 : decode m_M_nextOf.2.1 107 = .ok (.aload_n 0, 1) := by decide +kernel
theorem d_M_nextOf_108 : decode m_M_nextOf.2.1 108 = .ok (.getfield 7, 3) := by decide +kernel
theorem d_M_nextOf_111 : decode m_M_nextOf.2.1 111 = .ok (.iconst 1, 1) := by decide +kernel
theorem d_M_nextOf_112 : decode m_M_nextOf.2.1 112 = .ok (.iaload, 1) := by decide +kernel
theorem d_M_nextOf_113 : decode m_M_nextOf.2.1 113 = .ok (.irem, 1) := by decide +kernel
theorem d_M_nextOf_114 : decode m_M_nextOf.2.1 114 = .ok (.imul, 1) := by decide +kernel
theorem d_M_nextOf_115 : decode m_M_nextOf.2.1 115 = .ok (.iload_n 3, 1) := by decide +kernel
theorem d_M_nextOf_116 : decode m_M_nextOf.2.1 116 = .ok (.iadd, 1) := by decide +kernel
theorem d_M_nextOf_117 : decode m_M_nextOf.2.1 117 = .ok (.ireturn, 1) := by decide +kernel
theorem d_M_nextOf_118 : decode m_M_nextOf.2.1 118 = .ok (.aload_n 0, 1) := by decide +kernel
theorem d_M_nextOf_119 : decode m_M_nextOf.2.1 119 = .ok (.getfield 7, 3) := by decide +kernel
theorem d_M_nextOf_122 : decode m_M_nextOf.2.1 122 = .ok (.iconst 0, 1) := by decide +kernel
theorem d_M_nextOf_123 : decode m_M_nextOf.2.1 123 = .ok (.iaload, 1) := by decide +kernel
theorem d_M_nextOf_124 : decode m_M_nextOf.2.1 124 = .ok (.iload 4, 2) := by decide +kernel
theorem d_M_nextOf_126 : decode m_M_nextOf.2.1 126 = .ok (.aload_n 0, 1) := by decide +kernel
theorem d_M_nextOf_127 : decode m_M_nextOf.2.1 127 = .ok (.getfield 7, 3) := by decide +kernel
theorem d_M_nextOf_130 : decode m_M_nextOf.2.1 130 = .ok (.iconst 1, 1) := by decide +kernel
theorem d_M_nextOf_131 : decode m_M_nextOf.2.1 131 = .ok (.iaload, 1) := by decide +kernel
theorem d_M_nextOf_132 : decode m_M_nextOf.2.1 132 = .ok (.iadd, 1) := by decide +kernel
theorem d_M_nextOf_133 : decode m_M_nextOf.2.1 133 = .ok (.iconst 1, 1) := by decide +kernel
theorem d_M_nextOf_134 : decode m_M_nextOf.2.1 134 = .ok (.isub, 1) := by decide +kernel
theorem d_M_nextOf_135 : decode m_M_nextOf.2.1 135 = .ok (.aload_n 0, 1) := by decide +kernel
theorem d_M_nextOf_136 : decode m_M_nextOf.2.1 136 = .ok (.getfield 7, 3) := by decide +kernel
theorem d_M_nextOf_139 : decode m_M_nextOf.2.1 139 = .ok (.iconst 1, 1) := by decide +kernel
theorem d_M_nextOf_140 : decode m_M_nextOf.2.1 140 = .ok (.iaload, 1) := by decide +kernel
theorem d_M_nextOf_141 : decode m_M_nextOf.2.1 141 = .ok (.irem, 1) := by decide +kernel
theorem d_M_nextOf_142 : decode m_M_nextOf.2.1 142 = .ok (.imul, 1) := by decide +kernel
theorem d_M_nextOf_143 : decode m_M_nextOf.2.1 143 = .ok (.iload_n 3, 1) := by decide +kernel
theorem d_M_nextOf_144 : decode m_M_nextOf.2.1 144 = .ok (.iadd, 1) := by decide +kernel
theorem d_M_nextOf_145 : decode m_M_nextOf.2.1 145 = .ok (.ireturn, 1) := by decide +kernel
def f_M_nextOf (x1 : Int) (x2 : Int) (w : qMem) : Option (Int × qMem) :=
  qld w 89 5898 0 fun v1 =>
  qdv v1 <|
  qld w 89 5898 0 fun v2 =>
  qdv v2 <|
  if x2 = 0 then
  qld w 89 5898 0 fun v4 =>
  qld w 89 5898 0 fun v5 =>
  qdv v5 <|
  some ((w32 ((w32 (v4 * (jdiv x1 v2))) + (jrem (w32 ((jrem x1 v1) + 1)) v5))), w)
  else
  if x2 = 1 then
  qld w 89 5898 0 fun v7 =>
  qld w 89 5898 0 fun v8 =>
  qld w 89 5898 0 fun v9 =>
  qdv v9 <|
  some ((w32 ((w32 (v7 * (jdiv x1 v2))) + (jrem (w32 ((w32 ((jrem x1 v1) + v8)) - 1)) v9))), w)
  else
  if x2 = 2 then
  qld w 89 5898 0 fun v11 =>
  qld w 89 5898 1 fun v12 =>
  qdv v12 <|
  some ((w32 ((w32 (v11 * (jrem (w32 ((jdiv x1 v2) + 1)) v12))) + (jrem x1 v1))), w)
  else
  qld w 89 5898 0 fun v13 =>
  qld w 89 5898 1 fun v14 =>
  qld w 89 5898 1 fun v15 =>
  qdv v15 <|
  some ((w32 ((w32 (v13 * (jrem (w32 ((w32 ((jdiv x1 v2) + v14)) - 1)) v15))) + (jrem x1 v1))), w)
set_option maxRecDepth 4000 in
theorem s_M_nextOf (x1 : Int) (x2 : Int) (w : qMem) : qSim κI 100 100 m_M_nextOf 0 [] [some (qR 88), some (qI x1), some (qI x2), none, none] w (f_M_nextOf x1 x2 w) := by
  unfold f_M_nextOf
  refine z_iload_n d_M_nextOf_0 rfl ?_
  refine z_aload_n d_M_nextOf_1 rfl ?_
  refine z_gr (ci := 10) (j := 0) (d := 1) (o2 := 89) d_M_nextOf_2 rfl fl_M_7 rfl (Nat.le_of_ble_eq_true rfl) rfl rfl ?_
  refine z_ic0 d_M_nextOf_5 ?_
  refine z_il d_M_nextOf_6 rfl rfl (fun v1 => ?_)
  refine z_irem d_M_nextOf_7 (fun _ => ?_)
  refine z_istore_n (pls' := [some (qR 88), some (qI x1), some (qI x2), some (qI (jrem x1 v1)), none]) d_M_nextOf_8 (by decide) rfl rfl ?_
  refine z_iload_n d_M_nextOf_9 rfl ?_
  refine z_aload_n d_M_nextOf_10 rfl ?_
  refine z_gr (ci := 10) (j := 0) (d := 1) (o2 := 89) d_M_nextOf_11 rfl fl_M_7 rfl (Nat.le_of_ble_eq_true rfl) rfl rfl ?_
  refine z_ic0 d_M_nextOf_14 ?_
  refine z_il d_M_nextOf_15 rfl rfl (fun v2 => ?_)
  refine z_idiv d_M_nextOf_16 (fun _ => ?_)
  refine z_istore (pls' := [some (qR 88), some (qI x1), some (qI x2), some (qI (jrem x1 v1)), some (qI (jdiv x1 v2))]) d_M_nextOf_17 (by decide) rfl rfl ?_
  refine z_iload_n d_M_nextOf_19 rfl ?_
  refine z_if (fun c3 => ?_) (fun c3 => ?_)
  · refine z_tabIn (tgt := 48) (v := 0) d_M_nextOf_20 c3 (by decide) (by decide) rfl rfl ?_
    refine z_aload_n d_M_nextOf_48 rfl ?_
    refine z_gr (ci := 10) (j := 0) (d := 1) (o2 := 89) d_M_nextOf_49 rfl fl_M_7 rfl (Nat.le_of_ble_eq_true rfl) rfl rfl ?_
    refine z_ic0 d_M_nextOf_52 ?_
    refine z_il d_M_nextOf_53 rfl rfl (fun v4 => ?_)
    refine z_iload d_M_nextOf_54 rfl ?_
    refine z_imul d_M_nextOf_56 ?_
    refine z_iload_n d_M_nextOf_57 rfl ?_
    refine z_ic1 d_M_nextOf_58 ?_
    refine z_iadd d_M_nextOf_59 ?_
    refine z_aload_n d_M_nextOf_60 rfl ?_
    refine z_gr (ci := 10) (j := 0) (d := 1) (o2 := 89) d_M_nextOf_61 rfl fl_M_7 rfl (Nat.le_of_ble_eq_true rfl) rfl rfl ?_
    refine z_ic0 d_M_nextOf_64 ?_
    refine z_il d_M_nextOf_65 rfl rfl (fun v5 => ?_)
    refine z_irem d_M_nextOf_66 (fun _ => ?_)
    refine z_iadd d_M_nextOf_67 ?_
    exact z_iret d_M_nextOf_68 rfl rfl
  · refine z_if (fun c6 => ?_) (fun c6 => ?_)
    · refine z_tabIn (tgt := 69) (v := 1) d_M_nextOf_20 c6 (by decide) (by decide) rfl rfl ?_
      refine z_aload_n d_M_nextOf_69 rfl ?_
      refine z_gr (ci := 10) (j := 0) (d := 1) (o2 := 89) d_M_nextOf_70 rfl fl_M_7 rfl (Nat.le_of_ble_eq_true rfl) rfl rfl ?_
      refine z_ic0 d_M_nextOf_73 ?_
      refine z_il d_M_nextOf_74 rfl rfl (fun v7 => ?_)
      refine z_iload d_M_nextOf_75 rfl ?_
      refine z_imul d_M_nextOf_77 ?_
      refine z_iload_n d_M_nextOf_78 rfl ?_
      refine z_aload_n d_M_nextOf_79 rfl ?_
      refine z_gr (ci := 10) (j := 0) (d := 1) (o2 := 89) d_M_nextOf_80 rfl fl_M_7 rfl (Nat.le_of_ble_eq_true rfl) rfl rfl ?_
      refine z_ic0 d_M_nextOf_83 ?_
      refine z_il d_M_nextOf_84 rfl rfl (fun v8 => ?_)
      refine z_iadd d_M_nextOf_85 ?_
      refine z_ic1 d_M_nextOf_86 ?_
      refine z_isub d_M_nextOf_87 ?_
      refine z_aload_n d_M_nextOf_88 rfl ?_
      refine z_gr (ci := 10) (j := 0) (d := 1) (o2 := 89) d_M_nextOf_89 rfl fl_M_7 rfl (Nat.le_of_ble_eq_true rfl) rfl rfl ?_
      refine z_ic0 d_M_nextOf_92 ?_
      refine z_il d_M_nextOf_93 rfl rfl (fun v9 => ?_)
      refine z_irem d_M_nextOf_94 (fun _ => ?_)
      refine z_iadd d_M_nextOf_95 ?_
      exact z_iret d_M_nextOf_96 rfl rfl
    · refine z_if (fun c10 => ?_) (fun c10 => ?_)
      · refine z_tabIn (tgt := 97) (v := 2) d_M_nextOf_20 c10 (by decide) (by decide) rfl rfl ?_
        refine z_aload_n d_M_nextOf_97 rfl ?_
        refine z_gr (ci := 10) (j := 0) (d := 1) (o2 := 89) d_M_nextOf_98 rfl fl_M_7 rfl (Nat.le_of_ble_eq_true rfl) rfl rfl ?_
        refine z_ic0 d_M_nextOf_101 ?_
        refine z_il d_M_nextOf_102 rfl rfl (fun v11 => ?_)
        refine z_iload d_M_nextOf_103 rfl ?_
        refine z_ic1 d_M_nextOf_105 ?_
        refine z_iadd d_M_nextOf_106 ?_
        refine z_aload_n d_M_nextOf_107 rfl ?_
        refine z_gr (ci := 10) (j := 0) (d := 1) (o2 := 89) d_M_nextOf_108 rfl fl_M_7 rfl (Nat.le_of_ble_eq_true rfl) rfl rfl ?_
        refine z_ic1 d_M_nextOf_111 ?_
        refine z_il d_M_nextOf_112 rfl rfl (fun v12 => ?_)
        refine z_irem d_M_nextOf_113 (fun _ => ?_)
        refine z_imul d_M_nextOf_114 ?_
        refine z_iload_n d_M_nextOf_115 rfl ?_
        refine z_iadd d_M_nextOf_116 ?_
        exact z_iret d_M_nextOf_117 rfl rfl
      · refine z_tabOut (tgt := 118) d_M_nextOf_20 (by omega) rfl ?_
        refine z_aload_n d_M_nextOf_118 rfl ?_
        refine z_gr (ci := 10) (j := 0) (d := 1) (o2 := 89) d_M_nextOf_119 rfl fl_M_7 rfl (Nat.le_of_ble_eq_true rfl) rfl rfl ?_
        refine z_ic0 d_M_nextOf_122 ?_
        refine z_il d_M_nextOf_123 rfl rfl (fun v13 => ?_)
        refine z_iload d_M_nextOf_124 rfl ?_
        refine z_aload_n d_M_nextOf_126 rfl ?_
        refine z_gr (ci := 10) (j := 0) (d := 1) (o2 := 89) d_M_nextOf_127 rfl fl_M_7 rfl (Nat.le_of_ble_eq_true rfl) rfl rfl ?_
        refine z_ic1 d_M_nextOf_130 ?_
        refine z_il d_M_nextOf_131 rfl rfl (fun v14 => ?_)
        refine z_iadd d_M_nextOf_132 ?_
        refine z_ic1 d_M_nextOf_133 ?_
        refine z_isub d_M_nextOf_134 ?_
        refine z_aload_n d_M_nextOf_135 rfl ?_
        refine z_gr (ci := 10) (j := 0) (d := 1) (o2 := 89) d_M_nextOf_136 rfl fl_M_7 rfl (Nat.le_of_ble_eq_true rfl) rfl rfl ?_
        refine z_ic1 d_M_nextOf_139 ?_
        refine z_il d_M_nextOf_140 rfl rfl (fun v15 => ?_)
        refine z_irem d_M_nextOf_141 (fun _ => ?_)
        refine z_imul d_M_nextOf_142 ?_
        refine z_iload_n d_M_nextOf_143 rfl ?_
        refine z_iadd d_M_nextOf_144 ?_
        exact z_iret d_M_nextOf_145 rfl rfl
/-! BubbleTorusModel.apart -/
theorem d_M_apart_0 : decode m_M_apart.2.1 0 = .ok (.iload_n 0, 1) := by decide +kernel
theorem d_M_apart_1 : decode m_M_apart.2.1 1 = .ok (.iload_n 1, 1) := by decide +kernel
theorem d_M_apart_2 : decode m_M_apart.2.1 2 = .ok (.if_icmp .ge 9, 3) := by decide +kernel
theorem d_M_apart_5 : decode m_M_apart.2.1 5 = .ok (.iload_n 1, 1) := by decide +kernel
theorem d_M_apart_6 : decode m_M_apart.2.1 6 = .ok (.iload_n 0, 1) := by decide +kernel
theorem d_M_apart_7 : decode m_M_apart.2.1 7 = .ok (.isub, 1) := by decide +kernel
theorem d_M_apart_8 : decode m_M_apart.2.1 8 = .ok (.goto 6, 3) := by decide +kernel
theorem d_M_apart_11 : decode m_M_apart.2.1 11 = .ok (.iload_n 0, 1) := by decide +kernel
theorem d_M_apart_12 : decode m_M_apart.2.1 12 = .ok (.iload_n 1, 1) := by decide +kernel
theorem d_M_apart_13 : decode m_M_apart.2.1 13 = .ok (.isub, 1) := by decide +kernel
theorem d_M_apart_14 : decode m_M_apart.2.1 14 = .ok (.istore_n 3, 1) := by decide +kernel
theorem d_M_apart_15 : decode m_M_apart.2.1 15 = .ok (.iload_n 3, 1) := by decide +kernel
theorem d_M_apart_16 : decode m_M_apart.2.1 16 = .ok (.iload_n 2, 1) := by decide +kernel
theorem d_M_apart_17 : decode m_M_apart.2.1 17 = .ok (.iload_n 3, 1) := by decide +kernel
theorem d_M_apart_18 : decode m_M_apart.2.1 18 = .ok (.isub, 1) := by decide +kernel
theorem d_M_apart_19 : decode m_M_apart.2.1 19 = .ok (.if_icmp .ge 7, 3) := by decide +kernel
theorem d_M_apart_22 : decode m_M_apart.2.1 22 = .ok (.iload_n 3, 1) := by decide +kernel
theorem d_M_apart_23 : decode m_M_apart.2.1 23 = .ok (.goto 6, 3) := by decide +kernel
theorem d_M_apart_26 : decode m_M_apart.2.1 26 = .ok (.iload_n 2, 1) := by decide +kernel
theorem d_M_apart_27 : decode m_M_apart.2.1 27 = .ok (.iload_n 3, 1) := by decide +kernel
theorem d_M_apart_28 : decode m_M_apart.2.1 28 = .ok (.isub, 1) := by decide +kernel
theorem d_M_apart_29 : decode m_M_apart.2.1 29 = .ok (.ireturn, 1) := by decide +kernel
def f_M_apart_14 (s0 x2 : Int) (w : qMem) : Option (Int × qMem) :=
  if s0 < (w32 (x2 - s0)) then
  some (s0, w)
  else
  some ((w32 (x2 - s0)), w)
set_option maxRecDepth 4000 in
theorem s_M_apart_14 {ph : Nat}  : ∀ (s0 x2 : Int) (w : qMem), qSim κI ph ph m_M_apart 14 [qI s0] [none, none, some (qI x2), none] w (f_M_apart_14 s0 x2 w) := by
  intro s0 x2 w
  unfold f_M_apart_14
  refine z_istore_n (pls' := [none, none, some (qI x2), some (qI s0)]) d_M_apart_14 (by decide) rfl rfl ?_
  refine z_iload_n d_M_apart_15 rfl ?_
  refine z_iload_n d_M_apart_16 rfl ?_
  refine z_iload_n d_M_apart_17 rfl ?_
  refine z_isub d_M_apart_18 ?_
  refine z_icmp_ge (tgt := 26) d_M_apart_19 rfl (fun c1 => ?_) (fun c1 => ?_)
  · refine z_iload_n d_M_apart_22 rfl ?_
    refine z_goto (tgt := 29) d_M_apart_23 rfl ?_
    exact z_iret d_M_apart_29 rfl rfl
  · refine z_iload_n d_M_apart_26 rfl ?_
    refine z_iload_n d_M_apart_27 rfl ?_
    refine z_isub d_M_apart_28 ?_
    exact z_iret d_M_apart_29 rfl rfl
def f_M_apart (x0 : Int) (x1 : Int) (x2 : Int) (w : qMem) : Option (Int × qMem) :=
  if x0 < x1 then
  f_M_apart_14 (w32 (x1 - x0)) x2 w
  else
  f_M_apart_14 (w32 (x0 - x1)) x2 w
set_option maxRecDepth 4000 in
theorem s_M_apart {ph : Nat} (x0 : Int) (x1 : Int) (x2 : Int) (w : qMem) : qSim κI ph ph m_M_apart 0 [] [some (qI x0), some (qI x1), some (qI x2), none] w (f_M_apart x0 x1 x2 w) := by
  unfold f_M_apart
  refine z_iload_n d_M_apart_0 rfl ?_
  refine z_iload_n d_M_apart_1 rfl ?_
  refine z_icmp_ge (tgt := 11) d_M_apart_2 rfl (fun c2 => ?_) (fun c2 => ?_)
  · refine z_iload_n d_M_apart_5 rfl ?_
    refine z_iload_n d_M_apart_6 rfl ?_
    refine z_isub d_M_apart_7 ?_
    refine z_goto (tgt := 14) d_M_apart_8 rfl ?_
    refine z_mask [false, false, true, false] ?_
    exact s_M_apart_14 _ _ _
  · refine z_iload_n d_M_apart_11 rfl ?_
    refine z_iload_n d_M_apart_12 rfl ?_
    refine z_isub d_M_apart_13 ?_
    refine z_mask [false, false, true, false] ?_
    exact s_M_apart_14 _ _ _
/-! BubbleTorusModel.farOf -/
theorem d_M_farOf_0 : decode m_M_farOf.2.1 0 = .ok (.iload_n 1, 1) := by decide +kernel
theorem d_M_farOf_1 : decode m_M_farOf.2.1 1 = .ok (.aload_n 0, 1) := by decide +kernel
theorem d_M_farOf_2 : decode m_M_farOf.2.1 2 = .ok (.getfield 7, 3) := by decide +kernel
theorem d_M_farOf_5 : decode m_M_farOf.2.1 5 = .ok (.iconst 0, 1) := by decide +kernel
theorem d_M_farOf_6 : decode m_M_farOf.2.1 6 = .ok (.iaload, 1) := by decide +kernel
theorem d_M_farOf_7 : decode m_M_farOf.2.1 7 = .ok (.irem, 1) := by decide +kernel
theorem d_M_farOf_8 : decode m_M_farOf.2.1 8 = .ok (.iload_n 2, 1) := by decide +kernel
theorem d_M_farOf_9 : decode m_M_farOf.2.1 9 = .ok (.aload_n 0, 1) := by decide +kernel
theorem d_M_farOf_10 : decode m_M_farOf.2.1 10 = .ok (.getfield 7, 3) := by decide +kernel
theorem d_M_farOf_13 : decode m_M_farOf.2.1 13 = .ok (.iconst 0, 1) := by decide +kernel
theorem d_M_farOf_14 : decode m_M_farOf.2.1 14 = .ok (.iaload, 1) := by decide +kernel
theorem d_M_farOf_15 : decode m_M_farOf.2.1 15 = .ok (.irem, 1) := by decide +kernel
theorem d_M_farOf_16 : decode m_M_farOf.2.1 16 = .ok (.aload_n 0, 1) := by decide +kernel
theorem d_M_farOf_17 : decode m_M_farOf.2.1 17 = .ok (.getfield 7, 3) := by decide +kernel
theorem d_M_farOf_20 : decode m_M_farOf.2.1 20 = .ok (.iconst 0, 1) := by decide +kernel
theorem d_M_farOf_21 : decode m_M_farOf.2.1 21 = .ok (.iaload, 1) := by decide +kernel
theorem d_M_farOf_22 : decode m_M_farOf.2.1 22 = .ok (.invokestatic 75, 3) := by decide +kernel
theorem d_M_farOf_25 : decode m_M_farOf.2.1 25 = .ok (.iload_n 1, 1) := by decide +kernel
theorem d_M_farOf_26 : decode m_M_farOf.2.1 26 = .ok (.aload_n 0, 1) := by decide +kernel
theorem d_M_farOf_27 : decode m_M_farOf.2.1 27 = .ok (.getfield 7, 3) := by decide +kernel
theorem d_M_farOf_30 : decode m_M_farOf.2.1 30 = .ok (.iconst 0, 1) := by decide +kernel
theorem d_M_farOf_31 : decode m_M_farOf.2.1 31 = .ok (.iaload, 1) := by decide +kernel
theorem d_M_farOf_32 : decode m_M_farOf.2.1 32 = .ok (.idiv, 1) := by decide +kernel
theorem d_M_farOf_33 : decode m_M_farOf.2.1 33 = .ok (.iload_n 2, 1) := by decide +kernel
theorem d_M_farOf_34 : decode m_M_farOf.2.1 34 = .ok (.aload_n 0, 1) := by decide +kernel
theorem d_M_farOf_35 : decode m_M_farOf.2.1 35 = .ok (.getfield 7, 3) := by decide +kernel
theorem d_M_farOf_38 : decode m_M_farOf.2.1 38 = .ok (.iconst 0, 1) := by decide +kernel
theorem d_M_farOf_39 : decode m_M_farOf.2.1 39 = .ok (.iaload, 1) := by decide +kernel
theorem d_M_farOf_40 : decode m_M_farOf.2.1 40 = .ok (.idiv, 1) := by decide +kernel
theorem d_M_farOf_41 : decode m_M_farOf.2.1 41 = .ok (.aload_n 0, 1) := by decide +kernel
theorem d_M_farOf_42 : decode m_M_farOf.2.1 42 = .ok (.getfield 7, 3) := by decide +kernel
theorem d_M_farOf_45 : decode m_M_farOf.2.1 45 = .ok (.iconst 1, 1) := by decide +kernel
theorem d_M_farOf_46 : decode m_M_farOf.2.1 46 = .ok (.iaload, 1) := by decide +kernel
theorem d_M_farOf_47 : decode m_M_farOf.2.1 47 = .ok (.invokestatic 75, 3) := by decide +kernel
theorem d_M_farOf_50 : decode m_M_farOf.2.1 50 = .ok (.iadd, 1) := by decide +kernel
theorem d_M_farOf_51 : decode m_M_farOf.2.1 51 = .ok (.ireturn, 1) := by decide +kernel
def f_M_farOf (x1 : Int) (x2 : Int) (w : qMem) : Option (Int × qMem) :=
  qld w 89 5898 0 fun v1 =>
  qdv v1 <|
  qld w 89 5898 0 fun v2 =>
  qdv v2 <|
  qld w 89 5898 0 fun v3 =>
  (f_M_apart (jrem x1 v1) (jrem x2 v2) v3 w).bind fun q4 =>
  qld q4.2 89 5898 0 fun v5 =>
  qdv v5 <|
  qld q4.2 89 5898 0 fun v6 =>
  qdv v6 <|
  qld q4.2 89 5898 1 fun v7 =>
  (f_M_apart (jdiv x1 v5) (jdiv x2 v6) v7 q4.2).bind fun q8 =>
  some ((w32 (q4.1 + q8.1)), q8.2)
set_option maxRecDepth 4000 in
theorem s_M_farOf (x1 : Int) (x2 : Int) (w : qMem) : qSim κI 100 100 m_M_farOf 0 [] [some (qR 88), some (qI x1), some (qI x2)] w (f_M_farOf x1 x2 w) := by
  unfold f_M_farOf
  refine z_iload_n d_M_farOf_0 rfl ?_
  refine z_aload_n d_M_farOf_1 rfl ?_
  refine z_gr (ci := 10) (j := 0) (d := 1) (o2 := 89) d_M_farOf_2 rfl fl_M_7 rfl (Nat.le_of_ble_eq_true rfl) rfl rfl ?_
  refine z_ic0 d_M_farOf_5 ?_
  refine z_il d_M_farOf_6 rfl rfl (fun v1 => ?_)
  refine z_irem d_M_farOf_7 (fun _ => ?_)
  refine z_iload_n d_M_farOf_8 rfl ?_
  refine z_aload_n d_M_farOf_9 rfl ?_
  refine z_gr (ci := 10) (j := 0) (d := 1) (o2 := 89) d_M_farOf_10 rfl fl_M_7 rfl (Nat.le_of_ble_eq_true rfl) rfl rfl ?_
  refine z_ic0 d_M_farOf_13 ?_
  refine z_il d_M_farOf_14 rfl rfl (fun v2 => ?_)
  refine z_irem d_M_farOf_15 (fun _ => ?_)
  refine z_aload_n d_M_farOf_16 rfl ?_
  refine z_gr (ci := 10) (j := 0) (d := 1) (o2 := 89) d_M_farOf_17 rfl fl_M_7 rfl (Nat.le_of_ble_eq_true rfl) rfl rfl ?_
  refine z_ic0 d_M_farOf_20 ?_
  refine z_il d_M_farOf_21 rfl rfl (fun v3 => ?_)
  refine z_cSI (av := [qI (jrem x1 v1), qI (jrem x2 v2), qI v3]) (st := []) (nl := 1) d_M_farOf_22 lk_M_75 mk_M_apart rfl rfl rfl (s_M_apart _ _ _ _) (fun q4 _ hq4 => ?_)
  refine z_iload_n d_M_farOf_25 rfl ?_
  refine z_aload_n d_M_farOf_26 rfl ?_
  refine z_gr (ci := 10) (j := 0) (d := 1) (o2 := 89) d_M_farOf_27 rfl fl_M_7 rfl (Nat.le_of_ble_eq_true rfl) rfl rfl ?_
  refine z_ic0 d_M_farOf_30 ?_
  refine z_il d_M_farOf_31 rfl rfl (fun v5 => ?_)
  refine z_idiv d_M_farOf_32 (fun _ => ?_)
  refine z_iload_n d_M_farOf_33 rfl ?_
  refine z_aload_n d_M_farOf_34 rfl ?_
  refine z_gr (ci := 10) (j := 0) (d := 1) (o2 := 89) d_M_farOf_35 rfl fl_M_7 rfl (Nat.le_of_ble_eq_true rfl) rfl rfl ?_
  refine z_ic0 d_M_farOf_38 ?_
  refine z_il d_M_farOf_39 rfl rfl (fun v6 => ?_)
  refine z_idiv d_M_farOf_40 (fun _ => ?_)
  refine z_aload_n d_M_farOf_41 rfl ?_
  refine z_gr (ci := 10) (j := 0) (d := 1) (o2 := 89) d_M_farOf_42 rfl fl_M_7 rfl (Nat.le_of_ble_eq_true rfl) rfl rfl ?_
  refine z_ic1 d_M_farOf_45 ?_
  refine z_il d_M_farOf_46 rfl rfl (fun v7 => ?_)
  refine z_cSI (av := [qI (jdiv x1 v5), qI (jdiv x2 v6), qI v7]) (st := [qI q4.1]) (nl := 1) d_M_farOf_47 lk_M_75 mk_M_apart rfl rfl rfl (s_M_apart _ _ _ _) (fun q8 _ hq8 => ?_)
  refine z_iadd d_M_farOf_50 ?_
  exact z_iret d_M_farOf_51 rfl rfl
/-! BubbleTorusModel.isProfitable -/
theorem d_M_isProfitable_0 : decode m_M_isProfitable.2.1 0 = .ok (.aload_n 0, 1) := by decide +kernel
theorem d_M_isProfitable_1 : decode m_M_isProfitable.2.1 1 = .ok (.aload_n 0, 1) := by decide +kernel
theorem d_M_isProfitable_2 : decode m_M_isProfitable.2.1 2 = .ok (.iload_n 1, 1) := by decide +kernel
theorem d_M_isProfitable_3 : decode m_M_isProfitable.2.1 3 = .ok (.iload_n 3, 1) := by decide +kernel
theorem d_M_isProfitable_4 : decode m_M_isProfitable.2.1 4 = .ok (.invokevirtual 79, 3) := by decide +kernel
theorem d_M_isProfitable_7 : decode m_M_isProfitable.2.1 7 = .ok (.iload_n 2, 1) := by decide +kernel
theorem d_M_isProfitable_8 : decode m_M_isProfitable.2.1 8 = .ok (.invokevirtual 83, 3) := by decide +kernel
theorem d_M_isProfitable_11 : decode m_M_isProfitable.2.1 11 = .ok (.aload_n 0, 1) := by decide +kernel
theorem d_M_isProfitable_12 : decode m_M_isProfitable.2.1 12 = .ok (.iload_n 1, 1) := by decide +kernel
theorem d_M_isProfitable_13 : decode m_M_isProfitable.2.1 13 = .ok (.iload_n 2, 1) := by decide +kernel
theorem d_M_isProfitable_14 : decode m_M_isProfitable.2.1 14 = .ok (.invokevirtual 83, 3) := by decide +kernel
theorem d_M_isProfitable_17 : decode m_M_isProfitable.2.1 17 = .ok (.if_icmp .ge 7, 3) := by decide +kernel
theorem d_M_isProfitable_20 : decode m_M_isProfitable.2.1 20 = .ok (.iconst 1, 1) := by decide +kernel
theorem d_M_isProfitable_21 : decode m_M_isProfitable.2.1 21 = .ok (.goto 4, 3) := by decide +kernel
theorem d_M_isProfitable_24 : decode m_M_isProfitable.2.1 24 = .ok (.iconst 0, 1) := by decide +kernel
theorem d_M_isProfitable_25 : decode m_M_isProfitable.2.1 25 = .ok (.ireturn, 1) := by decide +kernel
def f_M_isProfitable (x1 : Int) (x2 : Int) (x3 : Int) (w : qMem) : Option (Int × qMem) :=
  (f_M_nextOf x1 x3 w).bind fun q1 =>
  (f_M_farOf q1.1 x2 q1.2).bind fun q2 =>
  (f_M_farOf x1 x2 q2.2).bind fun q3 =>
  if q2.1 < q3.1 then
  some (1, q3.2)
  else
  some (0, q3.2)
set_option maxRecDepth 4000 in
theorem s_M_isProfitable (x1 : Int) (x2 : Int) (x3 : Int) (w : qMem) : qSim κI 100 100 m_M_isProfitable 0 [] [some (qR 88), some (qI x1), some (qI x2), some (qI x3)] w (f_M_isProfitable x1 x2 x3 w) := by
  unfold f_M_isProfitable
  refine z_aload_n d_M_isProfitable_0 rfl ?_
  refine z_aload_n d_M_isProfitable_1 rfl ?_
  refine z_iload_n d_M_isProfitable_2 rfl ?_
  refine z_iload_n d_M_isProfitable_3 rfl ?_
  refine z_cVI (as := [qI x1, qI x3]) (st := [qR 88]) (nl := 2) (ci := 10) d_M_isProfitable_4 lk_M_79 mk_M_nextOf rfl rfl rfl rfl rfl rfl (s_M_nextOf _ _ _) (fun q1 _ hq1 => ?_)
  refine z_iload_n d_M_isProfitable_7 rfl ?_
  refine z_cVI (as := [qI q1.1, qI x2]) (st := []) (nl := 0) (ci := 10) d_M_isProfitable_8 lk_M_83 mk_M_farOf rfl rfl rfl rfl rfl rfl (s_M_farOf _ _ _) (fun q2 _ hq2 => ?_)
  refine z_aload_n d_M_isProfitable_11 rfl ?_
  refine z_iload_n d_M_isProfitable_12 rfl ?_
  refine z_iload_n d_M_isProfitable_13 rfl ?_
  refine z_cVI (as := [qI x1, qI x2]) (st := [qI q2.1]) (nl := 0) (ci := 10) d_M_isProfitable_14 lk_M_83 mk_M_farOf rfl rfl rfl rfl rfl rfl (s_M_farOf _ _ _) (fun q3 _ hq3 => ?_)
  refine z_icmp_ge (tgt := 24) d_M_isProfitable_17 rfl (fun c4 => ?_) (fun c4 => ?_)
  · refine z_ic1 d_M_isProfitable_20 ?_
    refine z_goto (tgt := 25) d_M_isProfitable_21 rfl ?_
    exact z_zret d_M_isProfitable_25 rfl rfl (Or.inr rfl)
  · refine z_ic0 d_M_isProfitable_24 ?_
    exact z_zret d_M_isProfitable_25 rfl rfl (Or.inl rfl)
/-! BubbleTorusModel.escapeOf -/
theorem d_M_escapeOf_0 : decode m_M_escapeOf.2.1 0 = .ok (.iconst 0, 1) := by decide +kernel
theorem d_M_escapeOf_1 : decode m_M_escapeOf.2.1 1 = .ok (.istore_n 3, 1) := by decide +kernel
theorem d_M_escapeOf_2 : decode m_M_escapeOf.2.1 2 = .ok (.iload_n 3, 1) := by decide +kernel
theorem d_M_escapeOf_3 : decode m_M_escapeOf.2.1 3 = .ok (.iconst 4, 1) := by decide +kernel
theorem d_M_escapeOf_4 : decode m_M_escapeOf.2.1 4 = .ok (.if_icmp .ge 21, 3) := by decide +kernel
theorem d_M_escapeOf_7 : decode m_M_escapeOf.2.1 7 = .ok (.aload_n 0, 1) := by decide +kernel
theorem d_M_escapeOf_8 : decode m_M_escapeOf.2.1 8 = .ok (.iload_n 1, 1) := by decide +kernel
theorem d_M_escapeOf_9 : decode m_M_escapeOf.2.1 9 = .ok (.iload_n 2, 1) := by decide +kernel
theorem d_M_escapeOf_10 : decode m_M_escapeOf.2.1 10 = .ok (.iload_n 3, 1) := by decide +kernel
theorem d_M_escapeOf_11 : decode m_M_escapeOf.2.1 11 = .ok (.invokevirtual 86, 3) := by decide +kernel
theorem d_M_escapeOf_14 : decode m_M_escapeOf.2.1 14 = .ok (.ifCond .eq 5, 3) := by decide +kernel
theorem d_M_escapeOf_17 : decode m_M_escapeOf.2.1 17 = .ok (.iload_n 3, 1) := by decide +kernel
theorem d_M_escapeOf_18 : decode m_M_escapeOf.2.1 18 = .ok (.ireturn, 1) := by decide +kernel
theorem d_M_escapeOf_19 : decode m_M_escapeOf.2.1 19 = .ok (.iinc 3 1, 3) := by decide +kernel
theorem d_M_escapeOf_22 : decode m_M_escapeOf.2.1 22 = .ok (.goto (-20), 3) := by decide +kernel
theorem d_M_escapeOf_25 : decode m_M_escapeOf.2.1 25 = .ok (.iconst (-1), 1) := by decide +kernel
theorem d_M_escapeOf_26 : decode m_M_escapeOf.2.1 26 = .ok (.ireturn, 1) := by decide +kernel
def f_M_escapeOf_2 : Nat → Int → Int → Int → qMem → Option (Int × qMem)
  | 0, _, _, _, _ => none
  | n + 1, x1, x2, x3, w =>
    if x3 < 4 then
    (f_M_isProfitable x1 x2 x3 w).bind fun q2 =>
    if q2.1 = 0 then
    (f_M_escapeOf_2 n) x1 x2 (w32 (x3 + 1)) q2.2
    else
    some (x3, q2.2)
    else
    some ((-1), w)
set_option maxRecDepth 4000 in
theorem s_M_escapeOf_2  : ∀ (n : Nat), ∀ (x1 x2 x3 : Int) (w : qMem), qSim κI 100 100 m_M_escapeOf 2 [] [some (qR 88), some (qI x1), some (qI x2), some (qI x3)] w (f_M_escapeOf_2 n x1 x2 x3 w) := by
  intro n
  induction n with
  | zero => intro x1 x2 x3 w; exact z_none
  | succ n ih =>
    intro x1 x2 x3 w
    rw [f_M_escapeOf_2]
    refine z_iload_n d_M_escapeOf_2 rfl ?_
    refine z_ic4 d_M_escapeOf_3 ?_
    refine z_icmp_ge (tgt := 25) d_M_escapeOf_4 rfl (fun c1 => ?_) (fun c1 => ?_)
    · refine z_aload_n d_M_escapeOf_7 rfl ?_
      refine z_iload_n d_M_escapeOf_8 rfl ?_
      refine z_iload_n d_M_escapeOf_9 rfl ?_
      refine z_iload_n d_M_escapeOf_10 rfl ?_
      refine z_cVI (as := [qI x1, qI x2, qI x3]) (st := []) (nl := 0) (ci := 10) d_M_escapeOf_11 lk_M_86 mk_M_isProfitable rfl rfl rfl rfl rfl rfl (s_M_isProfitable _ _ _ _) (fun q2 _ hq2 => ?_)
      refine z_if_eq (tgt := 19) d_M_escapeOf_14 rfl (fun c3 => ?_) (fun c3 => ?_)
      · refine z_iinc (pls' := [some (qR 88), some (qI x1), some (qI x2), some (qI (w32 (x3 + 1)))]) d_M_escapeOf_19 (by decide) rfl rfl rfl ?_
        refine z_goto (tgt := 2) d_M_escapeOf_22 rfl ?_
        refine z_mask [true, true, true, true] ?_
        exact ih _ _ _ _
      · refine z_iload_n d_M_escapeOf_17 rfl ?_
        exact z_iret d_M_escapeOf_18 rfl rfl
    · refine z_icm1 d_M_escapeOf_25 ?_
      exact z_iret d_M_escapeOf_26 rfl rfl
def f_M_escapeOf (x1 : Int) (x2 : Int) (w : qMem) : Option (Int × qMem) :=
  f_M_escapeOf_2 qFU x1 x2 0 w
set_option maxRecDepth 4000 in
theorem s_M_escapeOf (x1 : Int) (x2 : Int) (w : qMem) : qSim κI 100 100 m_M_escapeOf 0 [] [some (qR 88), some (qI x1), some (qI x2), none] w (f_M_escapeOf x1 x2 w) := by
  unfold f_M_escapeOf
  refine z_ic0 d_M_escapeOf_0 ?_
  refine z_istore_n (pls' := [some (qR 88), some (qI x1), some (qI x2), some (qI 0)]) d_M_escapeOf_1 (by decide) rfl rfl ?_
  refine z_mask [true, true, true, true] ?_
  exact s_M_escapeOf_2 _ _ _ _ _
/-! BubbleTorusModel.ringFor -/
theorem d_M_ringFor_0 : decode m_M_ringFor.2.1 0 = .ok (.iload_n 2, 1) := by decide +kernel
theorem d_M_ringFor_1 : decode m_M_ringFor.2.1 1 = .ok (.iconst 2, 1) := by decide +kernel
theorem d_M_ringFor_2 : decode m_M_ringFor.2.1 2 = .ok (.if_icmp .ge 21, 3) := by decide +kernel
theorem d_M_ringFor_5 : decode m_M_ringFor.2.1 5 = .ok (.iload_n 2, 1) := by decide +kernel
theorem d_M_ringFor_6 : decode m_M_ringFor.2.1 6 = .ok (.aload_n 0, 1) := by decide +kernel
theorem d_M_ringFor_7 : decode m_M_ringFor.2.1 7 = .ok (.getfield 7, 3) := by decide +kernel
theorem d_M_ringFor_10 : decode m_M_ringFor.2.1 10 = .ok (.iconst 1, 1) := by decide +kernel
theorem d_M_ringFor_11 : decode m_M_ringFor.2.1 11 = .ok (.iaload, 1) := by decide +kernel
theorem d_M_ringFor_12 : decode m_M_ringFor.2.1 12 = .ok (.imul, 1) := by decide +kernel
theorem d_M_ringFor_13 : decode m_M_ringFor.2.1 13 = .ok (.iload_n 1, 1) := by decide +kernel
theorem d_M_ringFor_14 : decode m_M_ringFor.2.1 14 = .ok (.aload_n 0, 1) := by decide +kernel
theorem d_M_ringFor_15 : decode m_M_ringFor.2.1 15 = .ok (.getfield 7, 3) := by decide +kernel
theorem d_M_ringFor_18 : decode m_M_ringFor.2.1 18 = .ok (.iconst 0, 1) := by decide +kernel
theorem d_M_ringFor_19 : decode m_M_ringFor.2.1 19 = .ok (.iaload, 1) := by decide +kernel
theorem d_M_ringFor_20 : decode m_M_ringFor.2.1 20 = .ok (.idiv, 1) := by decide +kernel
theorem d_M_ringFor_21 : decode m_M_ringFor.2.1 21 = .ok (.iadd, 1) := by decide +kernel
theorem d_M_ringFor_22 : decode m_M_ringFor.2.1 22 = .ok (.ireturn, 1) := by decide +kernel
theorem d_M_ringFor_23 : decode m_M_ringFor.2.1 23 = .ok (.iconst 2, 1) := by decide +kernel
theorem d_M_ringFor_24 : decode m_M_ringFor.2.1 24 = .ok (.aload_n 0, 1) := by decide +kernel
theorem d_M_ringFor_25 : decode m_M_ringFor.2.1 25 = .ok (.getfield 7, 3) := by decide +kernel
theorem d_M_ringFor_28 : decode m_M_ringFor.2.1 28 = .ok (.iconst 1, 1) := by decide +kernel
theorem d_M_ringFor_29 : decode m_M_ringFor.2.1 29 = .ok (.iaload, 1) := by decide +kernel
theorem d_M_ringFor_30 : decode m_M_ringFor.2.1 30 = .ok (.imul, 1) := by decide +kernel
theorem d_M_ringFor_31 : decode m_M_ringFor.2.1 31 = .ok (.iload_n 2, 1) := by decide +kernel
theorem d_M_ringFor_32 : decode m_M_ringFor.2.1 32 = .ok (.iconst 2, 1) := by decide +kernel
theorem d_M_ringFor_33 : decode m_M_ringFor.2.1 33 = .ok (.isub, 1) := by decide +kernel
theorem d_M_ringFor_34 : decode m_M_ringFor.2.1 34 = .ok (.aload_n 0, 1) := by decide +kernel
theorem d_M_ringFor_35 : decode m_M_ringFor.2.1 35 = .ok (.getfield 7, 3) := by decide +kernel
theorem d_M_ringFor_38 : decode m_M_ringFor.2.1 38 = .ok (.iconst 0, 1) := by decide +kernel
theorem d_M_ringFor_39 : decode m_M_ringFor.2.1 39 = .ok (.iaload, 1) := by decide +kernel
theorem d_M_ringFor_40 : decode m_M_ringFor.2.1 40 = .ok (.imul, 1) := by decide +kernel
theorem d_M_ringFor_41 : decode m_M_ringFor.2.1 41 = .ok (.iadd, 1) := by decide +kernel
theorem d_M_ringFor_42 : decode m_M_ringFor.2.1 42 = .ok (.iload_n 1, 1) := by decide +kernel
theorem d_M_ringFor_43 : decode m_M_ringFor.2.1 43 = .ok (.aload_n 0, 1) := by decide +kernel
theorem d_M_ringFor_44 : decode m_M_ringFor.2.1 44 = .ok (.getfield 7, 3) := by decide +kernel
theorem d_M_ringFor_47 : decode m_M_ringFor.2.1 47 = .ok (.iconst 0, 1) := by decide +kernel
theorem d_M_ringFor_48 : decode m_M_ringFor.2.1 48 = .ok (.iaload, 1) := by decide +kernel
theorem d_M_ringFor_49 : decode m_M_ringFor.2.1 49 = .ok (.irem, 1) := by decide +kernel
theorem d_M_ringFor_50 : decode m_M_ringFor.2.1 50 = .ok (.iadd, 1) := by decide +kernel
theorem d_M_ringFor_51 : decode m_M_ringFor.2.1 51 = .ok (.ireturn, 1) := by decide +kernel
def f_M_ringFor (x1 : Int) (x2 : Int) (w : qMem) : Option (Int × qMem) :=
  if x2 < 2 then
  qld w 89 5898 1 fun v2 =>
  qld w 89 5898 0 fun v3 =>
  qdv v3 <|
  some ((w32 ((w32 (x2 * v2)) + (jdiv x1 v3))), w)
  else
  qld w 89 5898 1 fun v4 =>
  qld w 89 5898 0 fun v5 =>
  qld w 89 5898 0 fun v6 =>
  qdv v6 <|
  some ((w32 ((w32 ((w32 (2 * v4)) + (w32 ((w32 (x2 - 2)) * v5)))) + (jrem x1 v6))), w)
set_option maxRecDepth 4000 in
theorem s_M_ringFor (x1 : Int) (x2 : Int) (w : qMem) : qSim κI 100 100 m_M_ringFor 0 [] [some (qR 88), some (qI x1), some (qI x2)] w (f_M_ringFor x1 x2 w) := by
  unfold f_M_ringFor
  refine z_iload_n d_M_ringFor_0 rfl ?_
  refine z_ic2 d_M_ringFor_1 ?_
  refine z_icmp_ge (tgt := 23) d_M_ringFor_2 rfl (fun c1 => ?_) (fun c1 => ?_)
  · refine z_iload_n d_M_ringFor_5 rfl ?_
    refine z_aload_n d_M_ringFor_6 rfl ?_
    refine z_gr (ci := 10) (j := 0) (d := 1) (o2 := 89) d_M_ringFor_7 rfl fl_M_7 rfl (Nat.le_of_ble_eq_true rfl) rfl rfl ?_
    refine z_ic1 d_M_ringFor_10 ?_
    refine z_il d_M_ringFor_11 rfl rfl (fun v2 => ?_)
    refine z_imul d_M_ringFor_12 ?_
    refine z_iload_n d_M_ringFor_13 rfl ?_
    refine z_aload_n d_M_ringFor_14 rfl ?_
    refine z_gr (ci := 10) (j := 0) (d := 1) (o2 := 89) d_M_ringFor_15 rfl fl_M_7 rfl (Nat.le_of_ble_eq_true rfl) rfl rfl ?_
    refine z_ic0 d_M_ringFor_18 ?_
    refine z_il d_M_ringFor_19 rfl rfl (fun v3 => ?_)
    refine z_idiv d_M_ringFor_20 (fun _ => ?_)
    refine z_iadd d_M_ringFor_21 ?_
    exact z_iret d_M_ringFor_22 rfl rfl
  · refine z_ic2 d_M_ringFor_23 ?_
    refine z_aload_n d_M_ringFor_24 rfl ?_
    refine z_gr (ci := 10) (j := 0) (d := 1) (o2 := 89) d_M_ringFor_25 rfl fl_M_7 rfl (Nat.le_of_ble_eq_true rfl) rfl rfl ?_
    refine z_ic1 d_M_ringFor_28 ?_
    refine z_il d_M_ringFor_29 rfl rfl (fun v4 => ?_)
    refine z_imul d_M_ringFor_30 ?_
    refine z_iload_n d_M_ringFor_31 rfl ?_
    refine z_ic2 d_M_ringFor_32 ?_
    refine z_isub d_M_ringFor_33 ?_
    refine z_aload_n d_M_ringFor_34 rfl ?_
    refine z_gr (ci := 10) (j := 0) (d := 1) (o2 := 89) d_M_ringFor_35 rfl fl_M_7 rfl (Nat.le_of_ble_eq_true rfl) rfl rfl ?_
    refine z_ic0 d_M_ringFor_38 ?_
    refine z_il d_M_ringFor_39 rfl rfl (fun v5 => ?_)
    refine z_imul d_M_ringFor_40 ?_
    refine z_iadd d_M_ringFor_41 ?_
    refine z_iload_n d_M_ringFor_42 rfl ?_
    refine z_aload_n d_M_ringFor_43 rfl ?_
    refine z_gr (ci := 10) (j := 0) (d := 1) (o2 := 89) d_M_ringFor_44 rfl fl_M_7 rfl (Nat.le_of_ble_eq_true rfl) rfl rfl ?_
    refine z_ic0 d_M_ringFor_47 ?_
    refine z_il d_M_ringFor_48 rfl rfl (fun v6 => ?_)
    refine z_irem d_M_ringFor_49 (fun _ => ?_)
    refine z_iadd d_M_ringFor_50 ?_
    exact z_iret d_M_ringFor_51 rfl rfl
/-! BubbleTorusModel.next -/
theorem d_M_next_0 : decode m_M_next.2.1 0 = .ok (.aload_n 0, 1) := by decide +kernel
theorem d_M_next_1 : decode m_M_next.2.1 1 = .ok (.iload_n 1, 1) := by decide +kernel
theorem d_M_next_2 : decode m_M_next.2.1 2 = .ok (.invokevirtual 92, 3) := by decide +kernel
theorem d_M_next_5 : decode m_M_next.2.1 5 = .ok (.ifCond .eq 19, 3) := by decide +kernel
theorem d_M_next_8 : decode m_M_next.2.1 8 = .ok (.iload_n 2, 1) := by decide +kernel
theorem d_M_next_9 : decode m_M_next.2.1 9 = .ok (.invokestatic 96, 3) := by decide +kernel
theorem d_M_next_12 : decode m_M_next.2.1 12 = .ok (.ifCond .eq 12, 3) := by decide +kernel
theorem d_M_next_15 : decode m_M_next.2.1 15 = .ok (.aload_n 0, 1) := by decide +kernel
theorem d_M_next_16 : decode m_M_next.2.1 16 = .ok (.iload_n 1, 1) := by decide +kernel
theorem d_M_next_17 : decode m_M_next.2.1 17 = .ok (.iload_n 2, 1) := by decide +kernel
theorem d_M_next_18 : decode m_M_next.2.1 18 = .ok (.invokevirtual 79, 3) := by decide +kernel
theorem d_M_next_21 : decode m_M_next.2.1 21 = .ok (.goto 4, 3) := by decide +kernel
theorem d_M_next_24 : decode m_M_next.2.1 24 = .ok (.iconst (-1), 1) := by decide +kernel
theorem d_M_next_25 : decode m_M_next.2.1 25 = .ok (.ireturn, 1) := by decide +kernel
def f_M_next (x1 : Int) (x2 : Int) (w : qMem) : Option (Int × qMem) :=
  (f_M_isNode x1 w).bind fun q1 =>
  if q1.1 = 0 then
  some ((-1), q1.2)
  else
  (f_M_isDirection x2 q1.2).bind fun q3 =>
  if q3.1 = 0 then
  some ((-1), q3.2)
  else
  (f_M_nextOf x1 x2 q3.2).bind fun q5 =>
  some (q5.1, q5.2)
set_option maxRecDepth 4000 in
theorem s_M_next (x1 : Int) (x2 : Int) (w : qMem) : qSim κI 100 100 m_M_next 0 [] [some (qR 88), some (qI x1), some (qI x2)] w (f_M_next x1 x2 w) := by
  unfold f_M_next
  refine z_aload_n d_M_next_0 rfl ?_
  refine z_iload_n d_M_next_1 rfl ?_
  refine z_cVI (as := [qI x1]) (st := []) (nl := 0) (ci := 10) d_M_next_2 lk_M_92 mk_M_isNode rfl rfl rfl rfl rfl rfl (s_M_isNode _ _) (fun q1 _ hq1 => ?_)
  refine z_if_eq (tgt := 24) d_M_next_5 rfl (fun c2 => ?_) (fun c2 => ?_)
  · refine z_icm1 d_M_next_24 ?_
    exact z_iret d_M_next_25 rfl rfl
  · refine z_iload_n d_M_next_8 rfl ?_
    refine z_cSI (av := [qI x2]) (st := []) (nl := 0) d_M_next_9 lk_M_96 mk_M_isDirection rfl rfl rfl (s_M_isDirection _ _) (fun q3 _ hq3 => ?_)
    refine z_if_eq (tgt := 24) d_M_next_12 rfl (fun c4 => ?_) (fun c4 => ?_)
    · refine z_icm1 d_M_next_24 ?_
      exact z_iret d_M_next_25 rfl rfl
    · refine z_aload_n d_M_next_15 rfl ?_
      refine z_iload_n d_M_next_16 rfl ?_
      refine z_iload_n d_M_next_17 rfl ?_
      refine z_cVI (as := [qI x1, qI x2]) (st := []) (nl := 2) (ci := 10) d_M_next_18 lk_M_79 mk_M_nextOf rfl rfl rfl rfl rfl rfl (s_M_nextOf _ _ _) (fun q5 _ hq5 => ?_)
      refine z_goto (tgt := 25) d_M_next_21 rfl ?_
      exact z_iret d_M_next_25 rfl rfl
/-! BubbleTorusModel.far -/
theorem d_M_far_0 : decode m_M_far.2.1 0 = .ok (.aload_n 0, 1) := by decide +kernel
theorem d_M_far_1 : decode m_M_far.2.1 1 = .ok (.iload_n 1, 1) := by decide +kernel
theorem d_M_far_2 : decode m_M_far.2.1 2 = .ok (.invokevirtual 92, 3) := by decide +kernel
theorem d_M_far_5 : decode m_M_far.2.1 5 = .ok (.ifCond .eq 20, 3) := by decide +kernel
theorem d_M_far_8 : decode m_M_far.2.1 8 = .ok (.aload_n 0, 1) := by decide +kernel
theorem d_M_far_9 : decode m_M_far.2.1 9 = .ok (.iload_n 2, 1) := by decide +kernel
theorem d_M_far_10 : decode m_M_far.2.1 10 = .ok (.invokevirtual 92, 3) := by decide +kernel
theorem d_M_far_13 : decode m_M_far.2.1 13 = .ok (.ifCond .eq 12, 3) := by decide +kernel
theorem d_M_far_16 : decode m_M_far.2.1 16 = .ok (.aload_n 0, 1) := by decide +kernel
theorem d_M_far_17 : decode m_M_far.2.1 17 = .ok (.iload_n 1, 1) := by decide +kernel
theorem d_M_far_18 : decode m_M_far.2.1 18 = .ok (.iload_n 2, 1) := by decide +kernel
theorem d_M_far_19 : decode m_M_far.2.1 19 = .ok (.invokevirtual 83, 3) := by decide +kernel
theorem d_M_far_22 : decode m_M_far.2.1 22 = .ok (.goto 4, 3) := by decide +kernel
theorem d_M_far_25 : decode m_M_far.2.1 25 = .ok (.iconst (-1), 1) := by decide +kernel
theorem d_M_far_26 : decode m_M_far.2.1 26 = .ok (.ireturn, 1) := by decide +kernel
def f_M_far (x1 : Int) (x2 : Int) (w : qMem) : Option (Int × qMem) :=
  (f_M_isNode x1 w).bind fun q1 =>
  if q1.1 = 0 then
  some ((-1), q1.2)
  else
  (f_M_isNode x2 q1.2).bind fun q3 =>
  if q3.1 = 0 then
  some ((-1), q3.2)
  else
  (f_M_farOf x1 x2 q3.2).bind fun q5 =>
  some (q5.1, q5.2)
set_option maxRecDepth 4000 in
theorem s_M_far (x1 : Int) (x2 : Int) (w : qMem) : qSim κI 100 100 m_M_far 0 [] [some (qR 88), some (qI x1), some (qI x2)] w (f_M_far x1 x2 w) := by
  unfold f_M_far
  refine z_aload_n d_M_far_0 rfl ?_
  refine z_iload_n d_M_far_1 rfl ?_
  refine z_cVI (as := [qI x1]) (st := []) (nl := 0) (ci := 10) d_M_far_2 lk_M_92 mk_M_isNode rfl rfl rfl rfl rfl rfl (s_M_isNode _ _) (fun q1 _ hq1 => ?_)
  refine z_if_eq (tgt := 25) d_M_far_5 rfl (fun c2 => ?_) (fun c2 => ?_)
  · refine z_icm1 d_M_far_25 ?_
    exact z_iret d_M_far_26 rfl rfl
  · refine z_aload_n d_M_far_8 rfl ?_
    refine z_iload_n d_M_far_9 rfl ?_
    refine z_cVI (as := [qI x2]) (st := []) (nl := 0) (ci := 10) d_M_far_10 lk_M_92 mk_M_isNode rfl rfl rfl rfl rfl rfl (s_M_isNode _ _) (fun q3 _ hq3 => ?_)
    refine z_if_eq (tgt := 25) d_M_far_13 rfl (fun c4 => ?_) (fun c4 => ?_)
    · refine z_icm1 d_M_far_25 ?_
      exact z_iret d_M_far_26 rfl rfl
    · refine z_aload_n d_M_far_16 rfl ?_
      refine z_iload_n d_M_far_17 rfl ?_
      refine z_iload_n d_M_far_18 rfl ?_
      refine z_cVI (as := [qI x1, qI x2]) (st := []) (nl := 0) (ci := 10) d_M_far_19 lk_M_83 mk_M_farOf rfl rfl rfl rfl rfl rfl (s_M_farOf _ _ _) (fun q5 _ hq5 => ?_)
      refine z_goto (tgt := 26) d_M_far_22 rfl ?_
      exact z_iret d_M_far_26 rfl rfl
/-! BubbleTorusModel.profitable -/
theorem d_M_profitable_0 : decode m_M_profitable.2.1 0 = .ok (.aload_n 0, 1) := by decide +kernel
theorem d_M_profitable_1 : decode m_M_profitable.2.1 1 = .ok (.iload_n 1, 1) := by decide +kernel
theorem d_M_profitable_2 : decode m_M_profitable.2.1 2 = .ok (.invokevirtual 92, 3) := by decide +kernel
theorem d_M_profitable_5 : decode m_M_profitable.2.1 5 = .ok (.ifCond .eq 11, 3) := by decide +kernel
theorem d_M_profitable_8 : decode m_M_profitable.2.1 8 = .ok (.aload_n 0, 1) := by decide +kernel
theorem d_M_profitable_9 : decode m_M_profitable.2.1 9 = .ok (.iload_n 2, 1) := by decide +kernel
theorem d_M_profitable_10 : decode m_M_profitable.2.1 10 = .ok (.invokevirtual 92, 3) := by decide +kernel
theorem d_M_profitable_13 : decode m_M_profitable.2.1 13 = .ok (.ifCond .ne 5, 3) := by decide +kernel
theorem d_M_profitable_16 : decode m_M_profitable.2.1 16 = .ok (.iconst (-1), 1) := by decide +kernel
theorem d_M_profitable_17 : decode m_M_profitable.2.1 17 = .ok (.ireturn, 1) := by decide +kernel
theorem d_M_profitable_18 : decode m_M_profitable.2.1 18 = .ok (.iconst 0, 1) := by decide +kernel
theorem d_M_profitable_19 : decode m_M_profitable.2.1 19 = .ok (.istore_n 3, 1) := by decide +kernel
theorem d_M_profitable_20 : decode m_M_profitable.2.1 20 = .ok (.iconst 0, 1) := by decide +kernel
theorem d_M_profitable_21 : decode m_M_profitable.2.1 21 = .ok (.istore 4, 2) := by decide +kernel
theorem d_M_profitable_23 : decode m_M_profitable.2.1 23 = .ok (.iload 4, 2) := by decide +kernel
theorem d_M_profitable_25 : decode m_M_profitable.2.1 25 = .ok (.iconst 4, 1) := by decide +kernel
theorem d_M_profitable_26 : decode m_M_profitable.2.1 26 = .ok (.if_icmp .ge 31, 3) := by decide +kernel
theorem d_M_profitable_29 : decode m_M_profitable.2.1 29 = .ok (.iload_n 3, 1) := by decide +kernel
theorem d_M_profitable_30 : decode m_M_profitable.2.1 30 = .ok (.aload_n 0, 1) := by decide +kernel
theorem d_M_profitable_31 : decode m_M_profitable.2.1 31 = .ok (.iload_n 1, 1) := by decide +kernel
theorem d_M_profitable_32 : decode m_M_profitable.2.1 32 = .ok (.iload_n 2, 1) := by decide +kernel
theorem d_M_profitable_33 : decode m_M_profitable.2.1 33 = .ok (.iload 4, 2) := by decide +kernel
theorem d_M_profitable_35 : decode m_M_profitable.2.1 35 = .ok (.invokevirtual 86, 3) := by decide +kernel
theorem d_M_profitable_38 : decode m_M_profitable.2.1 38 = .ok (.ifCond .eq 10, 3) := by decide +kernel
theorem d_M_profitable_41 : decode m_M_profitable.2.1 41 = .ok (.iconst 1, 1) := by decide +kernel
theorem d_M_profitable_42 : decode m_M_profitable.2.1 42 = .ok (.iload 4, 2) := by decide +kernel
theorem d_M_profitable_44 : decode m_M_profitable.2.1 44 = .ok (.ishl, 1) := by decide +kernel
theorem d_M_profitable_45 : decode m_M_profitable.2.1 45 = .ok (.goto 4, 3) := by decide +kernel
theorem d_M_profitable_48 : decode m_M_profitable.2.1 48 = .ok (.iconst 0, 1) := by decide +kernel
theorem d_M_profitable_49 : decode m_M_profitable.2.1 49 = .ok (.ior, 1) := by decide +kernel
theorem d_M_profitable_50 : decode m_M_profitable.2.1 50 = .ok (.istore_n 3, 1) := by decide +kernel
theorem d_M_profitable_51 : decode m_M_profitable.2.1 51 = .ok (.iinc 4 1, 3) := by decide +kernel
theorem d_M_profitable_54 : decode m_M_profitable.2.1 54 = .ok (.goto (-31), 3) := by decide +kernel
theorem d_M_profitable_57 : decode m_M_profitable.2.1 57 = .ok (.iload_n 3, 1) := by decide +kernel
theorem d_M_profitable_58 : decode m_M_profitable.2.1 58 = .ok (.ireturn, 1) := by decide +kernel
def f_M_profitable_49 (r23 : Int → Int → Int → Int → qMem → Option (Int × qMem)) (s0 s1 x1 x2 x4 : Int) (w : qMem) : Option (Int × qMem) :=
  r23 x1 x2 (jor s0 s1) (w32 (x4 + 1)) w
set_option maxRecDepth 4000 in
theorem s_M_profitable_49  {r23 : Int → Int → Int → Int → qMem → Option (Int × qMem)} (hr23 : ∀ x1 x2 x3 x4 w, qSim κI 100 100 m_M_profitable 23 [] [some (qR 88), some (qI x1), some (qI x2), some (qI x3), some (qI x4)] w (r23 x1 x2 x3 x4 w)) : ∀ (s0 s1 x1 x2 x4 : Int) (w : qMem), qSim κI 100 100 m_M_profitable 49 [qI s1, qI s0] [some (qR 88), some (qI x1), some (qI x2), none, some (qI x4)] w (f_M_profitable_49 r23 s0 s1 x1 x2 x4 w) := by
  intro s0 s1 x1 x2 x4 w
  unfold f_M_profitable_49
  refine z_ior d_M_profitable_49 ?_
  refine z_istore_n (pls' := [some (qR 88), some (qI x1), some (qI x2), some (qI (jor s0 s1)), some (qI x4)]) d_M_profitable_50 (by decide) rfl rfl ?_
  refine z_iinc (pls' := [some (qR 88), some (qI x1), some (qI x2), some (qI (jor s0 s1)), some (qI (w32 (x4 + 1)))]) d_M_profitable_51 (by decide) rfl rfl rfl ?_
  refine z_goto (tgt := 23) d_M_profitable_54 rfl ?_
  refine z_mask [true, true, true, true, true] ?_
  exact hr23 _ _ _ _ _
def f_M_profitable_23 : Nat → Int → Int → Int → Int → qMem → Option (Int × qMem)
  | 0, _, _, _, _, _ => none
  | n + 1, x1, x2, x3, x4, w =>
    if x4 < 4 then
    (f_M_isProfitable x1 x2 x4 w).bind fun q2 =>
    if q2.1 = 0 then
    f_M_profitable_49 (f_M_profitable_23 n) x3 0 x1 x2 x4 q2.2
    else
    f_M_profitable_49 (f_M_profitable_23 n) x3 (jshl 1 x4) x1 x2 x4 q2.2
    else
    some (x3, w)
set_option maxRecDepth 4000 in
theorem s_M_profitable_23  : ∀ (n : Nat), ∀ (x1 x2 x3 x4 : Int) (w : qMem), qSim κI 100 100 m_M_profitable 23 [] [some (qR 88), some (qI x1), some (qI x2), some (qI x3), some (qI x4)] w (f_M_profitable_23 n x1 x2 x3 x4 w) := by
  intro n
  induction n with
  | zero => intro x1 x2 x3 x4 w; exact z_none
  | succ n ih =>
    intro x1 x2 x3 x4 w
    rw [f_M_profitable_23]
    refine z_iload d_M_profitable_23 rfl ?_
    refine z_ic4 d_M_profitable_25 ?_
    refine z_icmp_ge (tgt := 57) d_M_profitable_26 rfl (fun c1 => ?_) (fun c1 => ?_)
    · refine z_iload_n d_M_profitable_29 rfl ?_
      refine z_aload_n d_M_profitable_30 rfl ?_
      refine z_iload_n d_M_profitable_31 rfl ?_
      refine z_iload_n d_M_profitable_32 rfl ?_
      refine z_iload d_M_profitable_33 rfl ?_
      refine z_cVI (as := [qI x1, qI x2, qI x4]) (st := [qI x3]) (nl := 0) (ci := 10) d_M_profitable_35 lk_M_86 mk_M_isProfitable rfl rfl rfl rfl rfl rfl (s_M_isProfitable _ _ _ _) (fun q2 _ hq2 => ?_)
      refine z_if_eq (tgt := 48) d_M_profitable_38 rfl (fun c3 => ?_) (fun c3 => ?_)
      · refine z_ic0 d_M_profitable_48 ?_
        refine z_mask [true, true, true, false, true] ?_
        exact s_M_profitable_49 ih _ _ _ _ _ _
      · refine z_ic1 d_M_profitable_41 ?_
        refine z_iload d_M_profitable_42 rfl ?_
        refine z_ishl d_M_profitable_44 ?_
        refine z_goto (tgt := 49) d_M_profitable_45 rfl ?_
        refine z_mask [true, true, true, false, true] ?_
        exact s_M_profitable_49 ih _ _ _ _ _ _
    · refine z_iload_n d_M_profitable_57 rfl ?_
      exact z_iret d_M_profitable_58 rfl rfl
def f_M_profitable (x1 : Int) (x2 : Int) (w : qMem) : Option (Int × qMem) :=
  (f_M_isNode x1 w).bind fun q4 =>
  if q4.1 = 0 then
  some ((-1), q4.2)
  else
  (f_M_isNode x2 q4.2).bind fun q6 =>
  if q6.1 = 0 then
  some ((-1), q6.2)
  else
  f_M_profitable_23 qFU x1 x2 0 0 q6.2
set_option maxRecDepth 4000 in
theorem s_M_profitable (x1 : Int) (x2 : Int) (w : qMem) : qSim κI 100 100 m_M_profitable 0 [] [some (qR 88), some (qI x1), some (qI x2), none, none] w (f_M_profitable x1 x2 w) := by
  unfold f_M_profitable
  refine z_aload_n d_M_profitable_0 rfl ?_
  refine z_iload_n d_M_profitable_1 rfl ?_
  refine z_cVI (as := [qI x1]) (st := []) (nl := 0) (ci := 10) d_M_profitable_2 lk_M_92 mk_M_isNode rfl rfl rfl rfl rfl rfl (s_M_isNode _ _) (fun q4 _ hq4 => ?_)
  refine z_if_eq (tgt := 16) d_M_profitable_5 rfl (fun c5 => ?_) (fun c5 => ?_)
  · refine z_icm1 d_M_profitable_16 ?_
    exact z_iret d_M_profitable_17 rfl rfl
  · refine z_aload_n d_M_profitable_8 rfl ?_
    refine z_iload_n d_M_profitable_9 rfl ?_
    refine z_cVI (as := [qI x2]) (st := []) (nl := 0) (ci := 10) d_M_profitable_10 lk_M_92 mk_M_isNode rfl rfl rfl rfl rfl rfl (s_M_isNode _ _) (fun q6 _ hq6 => ?_)
    refine z_if_ne (tgt := 18) d_M_profitable_13 rfl (fun c7 => ?_) (fun c7 => ?_)
    · refine z_icm1 d_M_profitable_16 ?_
      exact z_iret d_M_profitable_17 rfl rfl
    · refine z_ic0 d_M_profitable_18 ?_
      refine z_istore_n (pls' := [some (qR 88), some (qI x1), some (qI x2), some (qI 0), none]) d_M_profitable_19 (by decide) rfl rfl ?_
      refine z_ic0 d_M_profitable_20 ?_
      refine z_istore (pls' := [some (qR 88), some (qI x1), some (qI x2), some (qI 0), some (qI 0)]) d_M_profitable_21 (by decide) rfl rfl ?_
      refine z_mask [true, true, true, true, true] ?_
      exact s_M_profitable_23 _ _ _ _ _ _
/-! BubbleTorusModel.way -/
theorem d_M_way_0 : decode m_M_way.2.1 0 = .ok (.aload_n 0, 1) := by decide +kernel
theorem d_M_way_1 : decode m_M_way.2.1 1 = .ok (.iload_n 1, 1) := by decide +kernel
theorem d_M_way_2 : decode m_M_way.2.1 2 = .ok (.invokevirtual 92, 3) := by decide +kernel
theorem d_M_way_5 : decode m_M_way.2.1 5 = .ok (.ifCond .eq 11, 3) := by decide +kernel
theorem d_M_way_8 : decode m_M_way.2.1 8 = .ok (.aload_n 0, 1) := by decide +kernel
theorem d_M_way_9 : decode m_M_way.2.1 9 = .ok (.iload_n 2, 1) := by decide +kernel
theorem d_M_way_10 : decode m_M_way.2.1 10 = .ok (.invokevirtual 92, 3) := by decide +kernel
theorem d_M_way_13 : decode m_M_way.2.1 13 = .ok (.ifCond .ne 5, 3) := by decide +kernel
theorem d_M_way_16 : decode m_M_way.2.1 16 = .ok (.iconst (-1), 1) := by decide +kernel
theorem d_M_way_17 : decode m_M_way.2.1 17 = .ok (.ireturn, 1) := by decide +kernel
theorem d_M_way_18 : decode m_M_way.2.1 18 = .ok (.iconst 0, 1) := by decide +kernel
theorem d_M_way_19 : decode m_M_way.2.1 19 = .ok (.istore 4, 2) := by decide +kernel
theorem d_M_way_21 : decode m_M_way.2.1 21 = .ok (.iload_n 1, 1) := by decide +kernel
theorem d_M_way_22 : decode m_M_way.2.1 22 = .ok (.istore 5, 2) := by decide +kernel
theorem d_M_way_24 : decode m_M_way.2.1 24 = .ok (.iload 5, 2) := by decide +kernel
theorem d_M_way_26 : decode m_M_way.2.1 26 = .ok (.iload_n 2, 1) := by decide +kernel
theorem d_M_way_27 : decode m_M_way.2.1 27 = .ok (.if_icmp .eq 37, 3) := by decide +kernel
theorem d_M_way_30 : decode m_M_way.2.1 30 = .ok (.aload_n 0, 1) := by decide +kernel
theorem d_M_way_31 : decode m_M_way.2.1 31 = .ok (.iload 5, 2) := by decide +kernel
theorem d_M_way_33 : decode m_M_way.2.1 33 = .ok (.iload_n 2, 1) := by decide +kernel
theorem d_M_way_34 : decode m_M_way.2.1 34 = .ok (.invokevirtual 99, 3) := by decide +kernel
theorem d_M_way_37 : decode m_M_way.2.1 37 = .ok (.istore 6, 2) := by decide +kernel
theorem d_M_way_39 : decode m_M_way.2.1 39 = .ok (.iload 4, 2) := by decide +kernel
theorem d_M_way_41 : decode m_M_way.2.1 41 = .ok (.iload_n 3, 1) := by decide +kernel
theorem d_M_way_42 : decode m_M_way.2.1 42 = .ok (.if_icmp .ne 6, 3) := by decide +kernel
theorem d_M_way_45 : decode m_M_way.2.1 45 = .ok (.iload 6, 2) := by decide +kernel
theorem d_M_way_47 : decode m_M_way.2.1 47 = .ok (.ireturn, 1) := by decide +kernel
theorem d_M_way_48 : decode m_M_way.2.1 48 = .ok (.aload_n 0, 1) := by decide +kernel
theorem d_M_way_49 : decode m_M_way.2.1 49 = .ok (.iload 5, 2) := by decide +kernel
theorem d_M_way_51 : decode m_M_way.2.1 51 = .ok (.iload 6, 2) := by decide +kernel
theorem d_M_way_53 : decode m_M_way.2.1 53 = .ok (.invokevirtual 79, 3) := by decide +kernel
theorem d_M_way_56 : decode m_M_way.2.1 56 = .ok (.istore 5, 2) := by decide +kernel
theorem d_M_way_58 : decode m_M_way.2.1 58 = .ok (.iinc 4 1, 3) := by decide +kernel
theorem d_M_way_61 : decode m_M_way.2.1 61 = .ok (.goto (-37), 3) := by decide +kernel
theorem d_M_way_64 : decode m_M_way.2.1 64 = .ok (.iload_n 3, 1) := by decide +kernel
theorem d_M_way_65 : decode m_M_way.2.1 65 = .ok (.iconst (-1), 1) := by decide +kernel
theorem d_M_way_66 : decode m_M_way.2.1 66 = .ok (.if_icmp .ne 8, 3) := by decide +kernel
theorem d_M_way_69 : decode m_M_way.2.1 69 = .ok (.iload 4, 2) := by decide +kernel
theorem d_M_way_71 : decode m_M_way.2.1 71 = .ok (.goto 4, 3) := by decide +kernel
theorem d_M_way_74 : decode m_M_way.2.1 74 = .ok (.iconst (-1), 1) := by decide +kernel
theorem d_M_way_75 : decode m_M_way.2.1 75 = .ok (.ireturn, 1) := by decide +kernel
def f_M_way_64 (x3 x4 : Int) (w : qMem) : Option (Int × qMem) :=
  if x3 = (-1) then
  some (x4, w)
  else
  some ((-1), w)
set_option maxRecDepth 4000 in
theorem s_M_way_64  : ∀ (x3 x4 : Int) (w : qMem), qSim κI 100 100 m_M_way 64 [] [none, none, none, some (qI x3), some (qI x4), none, none] w (f_M_way_64 x3 x4 w) := by
  intro x3 x4 w
  unfold f_M_way_64
  refine z_iload_n d_M_way_64 rfl ?_
  refine z_icm1 d_M_way_65 ?_
  refine z_icmp_ne (tgt := 74) d_M_way_66 rfl (fun c1 => ?_) (fun c1 => ?_)
  · refine z_iload d_M_way_69 rfl ?_
    refine z_goto (tgt := 75) d_M_way_71 rfl ?_
    exact z_iret d_M_way_75 rfl rfl
  · refine z_icm1 d_M_way_74 ?_
    exact z_iret d_M_way_75 rfl rfl
def f_M_way_24 : Nat → Int → Int → Int → Int → qMem → Option (Int × qMem)
  | 0, _, _, _, _, _ => none
  | n + 1, x2, x3, x4, x5, w =>
    if x5 = x2 then
    f_M_way_64 x3 x4 w
    else
    (f_M_escapeOf x5 x2 w).bind fun q3 =>
    if x4 = x3 then
    some (q3.1, q3.2)
    else
    (f_M_nextOf x5 q3.1 q3.2).bind fun q5 =>
    (f_M_way_24 n) x2 x3 (w32 (x4 + 1)) q5.1 q5.2
set_option maxRecDepth 4000 in
theorem s_M_way_24  : ∀ (n : Nat), ∀ (x2 x3 x4 x5 : Int) (w : qMem), qSim κI 100 100 m_M_way 24 [] [some (qR 88), none, some (qI x2), some (qI x3), some (qI x4), some (qI x5), none] w (f_M_way_24 n x2 x3 x4 x5 w) := by
  intro n
  induction n with
  | zero => intro x2 x3 x4 x5 w; exact z_none
  | succ n ih =>
    intro x2 x3 x4 x5 w
    rw [f_M_way_24]
    refine z_iload d_M_way_24 rfl ?_
    refine z_iload_n d_M_way_26 rfl ?_
    refine z_icmp_eq (tgt := 64) d_M_way_27 rfl (fun c2 => ?_) (fun c2 => ?_)
    · refine z_mask [false, false, false, true, true, false, false] ?_
      exact s_M_way_64 _ _ _
    · refine z_aload_n d_M_way_30 rfl ?_
      refine z_iload d_M_way_31 rfl ?_
      refine z_iload_n d_M_way_33 rfl ?_
      refine z_cVI (as := [qI x5, qI x2]) (st := []) (nl := 1) (ci := 10) d_M_way_34 lk_M_99 mk_M_escapeOf rfl rfl rfl rfl rfl rfl (s_M_escapeOf _ _ _) (fun q3 _ hq3 => ?_)
      refine z_istore (pls' := [some (qR 88), none, some (qI x2), some (qI x3), some (qI x4), some (qI x5), some (qI q3.1)]) d_M_way_37 (by decide) rfl rfl ?_
      refine z_iload d_M_way_39 rfl ?_
      refine z_iload_n d_M_way_41 rfl ?_
      refine z_icmp_ne (tgt := 48) d_M_way_42 rfl (fun c4 => ?_) (fun c4 => ?_)
      · refine z_iload d_M_way_45 rfl ?_
        exact z_iret d_M_way_47 rfl rfl
      · refine z_aload_n d_M_way_48 rfl ?_
        refine z_iload d_M_way_49 rfl ?_
        refine z_iload d_M_way_51 rfl ?_
        refine z_cVI (as := [qI x5, qI q3.1]) (st := []) (nl := 2) (ci := 10) d_M_way_53 lk_M_79 mk_M_nextOf rfl rfl rfl rfl rfl rfl (s_M_nextOf _ _ _) (fun q5 _ hq5 => ?_)
        refine z_istore (pls' := [some (qR 88), none, some (qI x2), some (qI x3), some (qI x4), some (qI q5.1), some (qI q3.1)]) d_M_way_56 (by decide) rfl rfl ?_
        refine z_iinc (pls' := [some (qR 88), none, some (qI x2), some (qI x3), some (qI (w32 (x4 + 1))), some (qI q5.1), some (qI q3.1)]) d_M_way_58 (by decide) rfl rfl rfl ?_
        refine z_goto (tgt := 24) d_M_way_61 rfl ?_
        refine z_mask [true, false, true, true, true, true, false] ?_
        exact ih _ _ _ _ _
def f_M_way (x1 : Int) (x2 : Int) (x3 : Int) (w : qMem) : Option (Int × qMem) :=
  (f_M_isNode x1 w).bind fun q6 =>
  if q6.1 = 0 then
  some ((-1), q6.2)
  else
  (f_M_isNode x2 q6.2).bind fun q8 =>
  if q8.1 = 0 then
  some ((-1), q8.2)
  else
  f_M_way_24 qFU x2 x3 0 x1 q8.2
set_option maxRecDepth 4000 in
theorem s_M_way (x1 : Int) (x2 : Int) (x3 : Int) (w : qMem) : qSim κI 100 100 m_M_way 0 [] [some (qR 88), some (qI x1), some (qI x2), some (qI x3), none, none, none] w (f_M_way x1 x2 x3 w) := by
  unfold f_M_way
  refine z_aload_n d_M_way_0 rfl ?_
  refine z_iload_n d_M_way_1 rfl ?_
  refine z_cVI (as := [qI x1]) (st := []) (nl := 0) (ci := 10) d_M_way_2 lk_M_92 mk_M_isNode rfl rfl rfl rfl rfl rfl (s_M_isNode _ _) (fun q6 _ hq6 => ?_)
  refine z_if_eq (tgt := 16) d_M_way_5 rfl (fun c7 => ?_) (fun c7 => ?_)
  · refine z_icm1 d_M_way_16 ?_
    exact z_iret d_M_way_17 rfl rfl
  · refine z_aload_n d_M_way_8 rfl ?_
    refine z_iload_n d_M_way_9 rfl ?_
    refine z_cVI (as := [qI x2]) (st := []) (nl := 0) (ci := 10) d_M_way_10 lk_M_92 mk_M_isNode rfl rfl rfl rfl rfl rfl (s_M_isNode _ _) (fun q8 _ hq8 => ?_)
    refine z_if_ne (tgt := 18) d_M_way_13 rfl (fun c9 => ?_) (fun c9 => ?_)
    · refine z_icm1 d_M_way_16 ?_
      exact z_iret d_M_way_17 rfl rfl
    · refine z_ic0 d_M_way_18 ?_
      refine z_istore (pls' := [some (qR 88), some (qI x1), some (qI x2), some (qI x3), some (qI 0), none, none]) d_M_way_19 (by decide) rfl rfl ?_
      refine z_iload_n d_M_way_21 rfl ?_
      refine z_istore (pls' := [some (qR 88), some (qI x1), some (qI x2), some (qI x3), some (qI 0), some (qI x1), none]) d_M_way_22 (by decide) rfl rfl ?_
      refine z_mask [true, false, true, true, true, true, false] ?_
      exact s_M_way_24 _ _ _ _ _ _
/-! BubbleTorusModel.ringOf -/
theorem d_M_ringOf_0 : decode m_M_ringOf.2.1 0 = .ok (.aload_n 0, 1) := by decide +kernel
theorem d_M_ringOf_1 : decode m_M_ringOf.2.1 1 = .ok (.iload_n 1, 1) := by decide +kernel
theorem d_M_ringOf_2 : decode m_M_ringOf.2.1 2 = .ok (.invokevirtual 92, 3) := by decide +kernel
theorem d_M_ringOf_5 : decode m_M_ringOf.2.1 5 = .ok (.ifCond .eq 19, 3) := by decide +kernel
theorem d_M_ringOf_8 : decode m_M_ringOf.2.1 8 = .ok (.iload_n 2, 1) := by decide +kernel
theorem d_M_ringOf_9 : decode m_M_ringOf.2.1 9 = .ok (.invokestatic 96, 3) := by decide +kernel
theorem d_M_ringOf_12 : decode m_M_ringOf.2.1 12 = .ok (.ifCond .eq 12, 3) := by decide +kernel
theorem d_M_ringOf_15 : decode m_M_ringOf.2.1 15 = .ok (.aload_n 0, 1) := by decide +kernel
theorem d_M_ringOf_16 : decode m_M_ringOf.2.1 16 = .ok (.iload_n 1, 1) := by decide +kernel
theorem d_M_ringOf_17 : decode m_M_ringOf.2.1 17 = .ok (.iload_n 2, 1) := by decide +kernel
theorem d_M_ringOf_18 : decode m_M_ringOf.2.1 18 = .ok (.invokevirtual 102, 3) := by decide +kernel
theorem d_M_ringOf_21 : decode m_M_ringOf.2.1 21 = .ok (.goto 4, 3) := by decide +kernel
theorem d_M_ringOf_24 : decode m_M_ringOf.2.1 24 = .ok (.iconst (-1), 1) := by decide +kernel
theorem d_M_ringOf_25 : decode m_M_ringOf.2.1 25 = .ok (.ireturn, 1) := by decide +kernel
def f_M_ringOf (x1 : Int) (x2 : Int) (w : qMem) : Option (Int × qMem) :=
  (f_M_isNode x1 w).bind fun q1 =>
  if q1.1 = 0 then
  some ((-1), q1.2)
  else
  (f_M_isDirection x2 q1.2).bind fun q3 =>
  if q3.1 = 0 then
  some ((-1), q3.2)
  else
  (f_M_ringFor x1 x2 q3.2).bind fun q5 =>
  some (q5.1, q5.2)
set_option maxRecDepth 4000 in
theorem s_M_ringOf (x1 : Int) (x2 : Int) (w : qMem) : qSim κI 100 100 m_M_ringOf 0 [] [some (qR 88), some (qI x1), some (qI x2)] w (f_M_ringOf x1 x2 w) := by
  unfold f_M_ringOf
  refine z_aload_n d_M_ringOf_0 rfl ?_
  refine z_iload_n d_M_ringOf_1 rfl ?_
  refine z_cVI (as := [qI x1]) (st := []) (nl := 0) (ci := 10) d_M_ringOf_2 lk_M_92 mk_M_isNode rfl rfl rfl rfl rfl rfl (s_M_isNode _ _) (fun q1 _ hq1 => ?_)
  refine z_if_eq (tgt := 24) d_M_ringOf_5 rfl (fun c2 => ?_) (fun c2 => ?_)
  · refine z_icm1 d_M_ringOf_24 ?_
    exact z_iret d_M_ringOf_25 rfl rfl
  · refine z_iload_n d_M_ringOf_8 rfl ?_
    refine z_cSI (av := [qI x2]) (st := []) (nl := 0) d_M_ringOf_9 lk_M_96 mk_M_isDirection rfl rfl rfl (s_M_isDirection _ _) (fun q3 _ hq3 => ?_)
    refine z_if_eq (tgt := 24) d_M_ringOf_12 rfl (fun c4 => ?_) (fun c4 => ?_)
    · refine z_icm1 d_M_ringOf_24 ?_
      exact z_iret d_M_ringOf_25 rfl rfl
    · refine z_aload_n d_M_ringOf_15 rfl ?_
      refine z_iload_n d_M_ringOf_16 rfl ?_
      refine z_iload_n d_M_ringOf_17 rfl ?_
      refine z_cVI (as := [qI x1, qI x2]) (st := []) (nl := 0) (ci := 10) d_M_ringOf_18 lk_M_102 mk_M_ringFor rfl rfl rfl rfl rfl rfl (s_M_ringFor _ _ _) (fun q5 _ hq5 => ?_)
      refine z_goto (tgt := 25) d_M_ringOf_21 rfl ?_
      exact z_iret d_M_ringOf_25 rfl rfl
/-! BubbleTorusModel.queueAt -/
theorem d_M_queueAt_0 : decode m_M_queueAt.2.1 0 = .ok (.sipush 4266, 3) := by decide +kernel
theorem d_M_queueAt_3 : decode m_M_queueAt.2.1 3 = .ok (.bipush 63, 2) := by decide +kernel
theorem d_M_queueAt_5 : decode m_M_queueAt.2.1 5 = .ok (.iload_n 0, 1) := by decide +kernel
theorem d_M_queueAt_6 : decode m_M_queueAt.2.1 6 = .ok (.imul, 1) := by decide +kernel
theorem d_M_queueAt_7 : decode m_M_queueAt.2.1 7 = .ok (.iadd, 1) := by decide +kernel
theorem d_M_queueAt_8 : decode m_M_queueAt.2.1 8 = .ok (.bipush 7, 2) := by decide +kernel
theorem d_M_queueAt_10 : decode m_M_queueAt.2.1 10 = .ok (.iload_n 1, 1) := by decide +kernel
theorem d_M_queueAt_11 : decode m_M_queueAt.2.1 11 = .ok (.imul, 1) := by decide +kernel
theorem d_M_queueAt_12 : decode m_M_queueAt.2.1 12 = .ok (.iadd, 1) := by decide +kernel
theorem d_M_queueAt_13 : decode m_M_queueAt.2.1 13 = .ok (.ireturn, 1) := by decide +kernel
def f_M_queueAt (x0 : Int) (x1 : Int) (w : qMem) : Option (Int × qMem) :=
  some ((w32 ((w32 (4266 + (w32 (63 * x0)))) + (w32 (7 * x1)))), w)
set_option maxRecDepth 4000 in
theorem s_M_queueAt {ph : Nat} (x0 : Int) (x1 : Int) (w : qMem) : qSim κI ph ph m_M_queueAt 0 [] [some (qI x0), some (qI x1)] w (f_M_queueAt x0 x1 w) := by
  unfold f_M_queueAt
  refine z_sipush d_M_queueAt_0 ⟨by decide, by decide⟩ ?_
  refine z_bipush d_M_queueAt_3 ⟨by decide, by decide⟩ ?_
  refine z_iload_n d_M_queueAt_5 rfl ?_
  refine z_imul d_M_queueAt_6 ?_
  refine z_iadd d_M_queueAt_7 ?_
  refine z_bipush d_M_queueAt_8 ⟨by decide, by decide⟩ ?_
  refine z_iload_n d_M_queueAt_10 rfl ?_
  refine z_imul d_M_queueAt_11 ?_
  refine z_iadd d_M_queueAt_12 ?_
  exact z_iret d_M_queueAt_13 rfl rfl
/-! BubbleTorusModel.many -/
theorem d_M_many_0 : decode m_M_many.2.1 0 = .ok (.aload_n 0, 1) := by decide +kernel
theorem d_M_many_1 : decode m_M_many.2.1 1 = .ok (.getfield 7, 3) := by decide +kernel
theorem d_M_many_4 : decode m_M_many.2.1 4 = .ok (.iload_n 1, 1) := by decide +kernel
theorem d_M_many_5 : decode m_M_many.2.1 5 = .ok (.iload_n 2, 1) := by decide +kernel
theorem d_M_many_6 : decode m_M_many.2.1 6 = .ok (.invokestatic 105, 3) := by decide +kernel
theorem d_M_many_9 : decode m_M_many.2.1 9 = .ok (.iaload, 1) := by decide +kernel
theorem d_M_many_10 : decode m_M_many.2.1 10 = .ok (.ireturn, 1) := by decide +kernel
def f_M_many (x1 : Int) (x2 : Int) (w : qMem) : Option (Int × qMem) :=
  (f_M_queueAt x1 x2 w).bind fun q1 =>
  qld q1.2 89 5898 q1.1 fun v2 =>
  some (v2, q1.2)
set_option maxRecDepth 4000 in
theorem s_M_many (x1 : Int) (x2 : Int) (w : qMem) : qSim κI 100 100 m_M_many 0 [] [some (qR 88), some (qI x1), some (qI x2)] w (f_M_many x1 x2 w) := by
  unfold f_M_many
  refine z_aload_n d_M_many_0 rfl ?_
  refine z_gr (ci := 10) (j := 0) (d := 1) (o2 := 89) d_M_many_1 rfl fl_M_7 rfl (Nat.le_of_ble_eq_true rfl) rfl rfl ?_
  refine z_iload_n d_M_many_4 rfl ?_
  refine z_iload_n d_M_many_5 rfl ?_
  refine z_cSI (av := [qI x1, qI x2]) (st := [qR 89]) (nl := 0) d_M_many_6 lk_M_105 mk_M_queueAt rfl rfl rfl (s_M_queueAt _ _ _) (fun q1 _ hq1 => ?_)
  refine z_il d_M_many_9 rfl rfl (fun v2 => ?_)
  exact z_iret d_M_many_10 rfl rfl
/-! BubbleTorusModel.firstOf -/
theorem d_M_firstOf_0 : decode m_M_firstOf.2.1 0 = .ok (.aload_n 0, 1) := by decide +kernel
theorem d_M_firstOf_1 : decode m_M_firstOf.2.1 1 = .ok (.iload_n 1, 1) := by decide +kernel
theorem d_M_firstOf_2 : decode m_M_firstOf.2.1 2 = .ok (.iload_n 2, 1) := by decide +kernel
theorem d_M_firstOf_3 : decode m_M_firstOf.2.1 3 = .ok (.invokevirtual 108, 3) := by decide +kernel
theorem d_M_firstOf_6 : decode m_M_firstOf.2.1 6 = .ok (.ifCond .ne 7, 3) := by decide +kernel
theorem d_M_firstOf_9 : decode m_M_firstOf.2.1 9 = .ok (.iconst (-1), 1) := by decide +kernel
theorem d_M_firstOf_10 : decode m_M_firstOf.2.1 10 = .ok (.goto 15, 3) := by decide +kernel
theorem d_M_firstOf_13 : decode m_M_firstOf.2.1 13 = .ok (.aload_n 0, 1) := by decide +kernel
theorem d_M_firstOf_14 : decode m_M_firstOf.2.1 14 = .ok (.getfield 7, 3) := by decide +kernel
theorem d_M_firstOf_17 : decode m_M_firstOf.2.1 17 = .ok (.iload_n 1, 1) := by decide +kernel
theorem d_M_firstOf_18 : decode m_M_firstOf.2.1 18 = .ok (.iload_n 2, 1) := by decide +kernel
theorem d_M_firstOf_19 : decode m_M_firstOf.2.1 19 = .ok (.invokestatic 105, 3) := by decide +kernel
theorem d_M_firstOf_22 : decode m_M_firstOf.2.1 22 = .ok (.iconst 1, 1) := by decide +kernel
theorem d_M_firstOf_23 : decode m_M_firstOf.2.1 23 = .ok (.iadd, 1) := by decide +kernel
theorem d_M_firstOf_24 : decode m_M_firstOf.2.1 24 = .ok (.iaload, 1) := by decide +kernel
theorem d_M_firstOf_25 : decode m_M_firstOf.2.1 25 = .ok (.ireturn, 1) := by decide +kernel
def f_M_firstOf (x1 : Int) (x2 : Int) (w : qMem) : Option (Int × qMem) :=
  (f_M_many x1 x2 w).bind fun q1 =>
  if q1.1 = 0 then
  some ((-1), q1.2)
  else
  (f_M_queueAt x1 x2 q1.2).bind fun q3 =>
  qld q3.2 89 5898 (w32 (q3.1 + 1)) fun v4 =>
  some (v4, q3.2)
set_option maxRecDepth 4000 in
theorem s_M_firstOf (x1 : Int) (x2 : Int) (w : qMem) : qSim κI 100 100 m_M_firstOf 0 [] [some (qR 88), some (qI x1), some (qI x2)] w (f_M_firstOf x1 x2 w) := by
  unfold f_M_firstOf
  refine z_aload_n d_M_firstOf_0 rfl ?_
  refine z_iload_n d_M_firstOf_1 rfl ?_
  refine z_iload_n d_M_firstOf_2 rfl ?_
  refine z_cVI (as := [qI x1, qI x2]) (st := []) (nl := 0) (ci := 10) d_M_firstOf_3 lk_M_108 mk_M_many rfl rfl rfl rfl rfl rfl (s_M_many _ _ _) (fun q1 _ hq1 => ?_)
  refine z_if_ne (tgt := 13) d_M_firstOf_6 rfl (fun c2 => ?_) (fun c2 => ?_)
  · refine z_icm1 d_M_firstOf_9 ?_
    refine z_goto (tgt := 25) d_M_firstOf_10 rfl ?_
    exact z_iret d_M_firstOf_25 rfl rfl
  · refine z_aload_n d_M_firstOf_13 rfl ?_
    refine z_gr (ci := 10) (j := 0) (d := 1) (o2 := 89) d_M_firstOf_14 rfl fl_M_7 rfl (Nat.le_of_ble_eq_true rfl) rfl rfl ?_
    refine z_iload_n d_M_firstOf_17 rfl ?_
    refine z_iload_n d_M_firstOf_18 rfl ?_
    refine z_cSI (av := [qI x1, qI x2]) (st := [qR 89]) (nl := 0) d_M_firstOf_19 lk_M_105 mk_M_queueAt rfl rfl rfl (s_M_queueAt _ _ _) (fun q3 _ hq3 => ?_)
    refine z_ic1 d_M_firstOf_22 ?_
    refine z_iadd d_M_firstOf_23 ?_
    refine z_il d_M_firstOf_24 rfl rfl (fun v4 => ?_)
    exact z_iret d_M_firstOf_25 rfl rfl
/-! BubbleTorusModel.placesOf -/
theorem d_M_placesOf_0 : decode m_M_placesOf.2.1 0 = .ok (.iload_n 1, 1) := by decide +kernel
theorem d_M_placesOf_1 : decode m_M_placesOf.2.1 1 = .ok (.ifCond .ne 8, 3) := by decide +kernel
theorem d_M_placesOf_4 : decode m_M_placesOf.2.1 4 = .ok (.bipush 6, 2) := by decide +kernel
theorem d_M_placesOf_6 : decode m_M_placesOf.2.1 6 = .ok (.goto 23, 3) := by decide +kernel
theorem d_M_placesOf_9 : decode m_M_placesOf.2.1 9 = .ok (.iload_n 1, 1) := by decide +kernel
theorem d_M_placesOf_10 : decode m_M_placesOf.2.1 10 = .ok (.iconst 5, 1) := by decide +kernel
theorem d_M_placesOf_11 : decode m_M_placesOf.2.1 11 = .ok (.if_icmp .ge 12, 3) := by decide +kernel
theorem d_M_placesOf_14 : decode m_M_placesOf.2.1 14 = .ok (.aload_n 0, 1) := by decide +kernel
theorem d_M_placesOf_15 : decode m_M_placesOf.2.1 15 = .ok (.getfield 7, 3) := by decide +kernel
theorem d_M_placesOf_18 : decode m_M_placesOf.2.1 18 = .ok (.iconst 2, 1) := by decide +kernel
theorem d_M_placesOf_19 : decode m_M_placesOf.2.1 19 = .ok (.iaload, 1) := by decide +kernel
theorem d_M_placesOf_20 : decode m_M_placesOf.2.1 20 = .ok (.goto 9, 3) := by decide +kernel
theorem d_M_placesOf_23 : decode m_M_placesOf.2.1 23 = .ok (.aload_n 0, 1) := by decide +kernel
theorem d_M_placesOf_24 : decode m_M_placesOf.2.1 24 = .ok (.getfield 7, 3) := by decide +kernel
theorem d_M_placesOf_27 : decode m_M_placesOf.2.1 27 = .ok (.iconst 3, 1) := by decide +kernel
theorem d_M_placesOf_28 : decode m_M_placesOf.2.1 28 = .ok (.iaload, 1) := by decide +kernel
theorem d_M_placesOf_29 : decode m_M_placesOf.2.1 29 = .ok (.ireturn, 1) := by decide +kernel
def f_M_placesOf (x1 : Int) (w : qMem) : Option (Int × qMem) :=
  if x1 = 0 then
  some (6, w)
  else
  if x1 < 5 then
  qld w 89 5898 2 fun v3 =>
  some (v3, w)
  else
  qld w 89 5898 3 fun v4 =>
  some (v4, w)
set_option maxRecDepth 4000 in
theorem s_M_placesOf (x1 : Int) (w : qMem) : qSim κI 100 100 m_M_placesOf 0 [] [some (qR 88), some (qI x1)] w (f_M_placesOf x1 w) := by
  unfold f_M_placesOf
  refine z_iload_n d_M_placesOf_0 rfl ?_
  refine z_if_ne (tgt := 9) d_M_placesOf_1 rfl (fun c1 => ?_) (fun c1 => ?_)
  · refine z_bipush d_M_placesOf_4 ⟨by decide, by decide⟩ ?_
    refine z_goto (tgt := 29) d_M_placesOf_6 rfl ?_
    exact z_iret d_M_placesOf_29 rfl rfl
  · refine z_iload_n d_M_placesOf_9 rfl ?_
    refine z_ic5 d_M_placesOf_10 ?_
    refine z_icmp_ge (tgt := 23) d_M_placesOf_11 rfl (fun c2 => ?_) (fun c2 => ?_)
    · refine z_aload_n d_M_placesOf_14 rfl ?_
      refine z_gr (ci := 10) (j := 0) (d := 1) (o2 := 89) d_M_placesOf_15 rfl fl_M_7 rfl (Nat.le_of_ble_eq_true rfl) rfl rfl ?_
      refine z_ic2 d_M_placesOf_18 ?_
      refine z_il d_M_placesOf_19 rfl rfl (fun v3 => ?_)
      refine z_goto (tgt := 29) d_M_placesOf_20 rfl ?_
      exact z_iret d_M_placesOf_29 rfl rfl
    · refine z_aload_n d_M_placesOf_23 rfl ?_
      refine z_gr (ci := 10) (j := 0) (d := 1) (o2 := 89) d_M_placesOf_24 rfl fl_M_7 rfl (Nat.le_of_ble_eq_true rfl) rfl rfl ?_
      refine z_ic3 d_M_placesOf_27 ?_
      refine z_il d_M_placesOf_28 rfl rfl (fun v4 => ?_)
      exact z_iret d_M_placesOf_29 rfl rfl
/-! BubbleTorusModel.free -/
theorem d_M_free_0 : decode m_M_free.2.1 0 = .ok (.aload_n 0, 1) := by decide +kernel
theorem d_M_free_1 : decode m_M_free.2.1 1 = .ok (.iload_n 2, 1) := by decide +kernel
theorem d_M_free_2 : decode m_M_free.2.1 2 = .ok (.invokevirtual 111, 3) := by decide +kernel
theorem d_M_free_5 : decode m_M_free.2.1 5 = .ok (.aload_n 0, 1) := by decide +kernel
theorem d_M_free_6 : decode m_M_free.2.1 6 = .ok (.iload_n 1, 1) := by decide +kernel
theorem d_M_free_7 : decode m_M_free.2.1 7 = .ok (.iload_n 2, 1) := by decide +kernel
theorem d_M_free_8 : decode m_M_free.2.1 8 = .ok (.invokevirtual 108, 3) := by decide +kernel
theorem d_M_free_11 : decode m_M_free.2.1 11 = .ok (.isub, 1) := by decide +kernel
theorem d_M_free_12 : decode m_M_free.2.1 12 = .ok (.ireturn, 1) := by decide +kernel
def f_M_free (x1 : Int) (x2 : Int) (w : qMem) : Option (Int × qMem) :=
  (f_M_placesOf x2 w).bind fun q1 =>
  (f_M_many x1 x2 q1.2).bind fun q2 =>
  some ((w32 (q1.1 - q2.1)), q2.2)
set_option maxRecDepth 4000 in
theorem s_M_free (x1 : Int) (x2 : Int) (w : qMem) : qSim κI 100 100 m_M_free 0 [] [some (qR 88), some (qI x1), some (qI x2)] w (f_M_free x1 x2 w) := by
  unfold f_M_free
  refine z_aload_n d_M_free_0 rfl ?_
  refine z_iload_n d_M_free_1 rfl ?_
  refine z_cVI (as := [qI x2]) (st := []) (nl := 0) (ci := 10) d_M_free_2 lk_M_111 mk_M_placesOf rfl rfl rfl rfl rfl rfl (s_M_placesOf _ _) (fun q1 _ hq1 => ?_)
  refine z_aload_n d_M_free_5 rfl ?_
  refine z_iload_n d_M_free_6 rfl ?_
  refine z_iload_n d_M_free_7 rfl ?_
  refine z_cVI (as := [qI x1, qI x2]) (st := [qI q1.1]) (nl := 0) (ci := 10) d_M_free_8 lk_M_108 mk_M_many rfl rfl rfl rfl rfl rfl (s_M_many _ _ _) (fun q2 _ hq2 => ?_)
  refine z_isub d_M_free_11 ?_
  exact z_iret d_M_free_12 rfl rfl
/-! BubbleTorusModel.comes -/
theorem d_M_comes_0 : decode m_M_comes.2.1 0 = .ok (.iload_n 1, 1) := by decide +kernel
theorem d_M_comes_1 : decode m_M_comes.2.1 1 = .ok (.iload_n 2, 1) := by decide +kernel
theorem d_M_comes_2 : decode m_M_comes.2.1 2 = .ok (.invokestatic 105, 3) := by decide +kernel
theorem d_M_comes_5 : decode m_M_comes.2.1 5 = .ok (.istore 4, 2) := by decide +kernel
theorem d_M_comes_7 : decode m_M_comes.2.1 7 = .ok (.aload_n 0, 1) := by decide +kernel
theorem d_M_comes_8 : decode m_M_comes.2.1 8 = .ok (.getfield 7, 3) := by decide +kernel
theorem d_M_comes_11 : decode m_M_comes.2.1 11 = .ok (.iload 4, 2) := by decide +kernel
theorem d_M_comes_13 : decode m_M_comes.2.1 13 = .ok (.dup2, 1) := by decide +kernel
theorem d_M_comes_14 : decode m_M_comes.2.1 14 = .ok (.iaload, 1) := by decide +kernel
theorem d_M_comes_15 : decode m_M_comes.2.1 15 = .ok (.iconst 1, 1) := by decide +kernel
theorem d_M_comes_16 : decode m_M_comes.2.1 16 = .ok (.iadd, 1) := by decide +kernel
theorem d_M_comes_17 : decode m_M_comes.2.1 17 = .ok (.iastore, 1) := by decide +kernel
theorem d_M_comes_18 : decode m_M_comes.2.1 18 = .ok (.aload_n 0, 1) := by decide +kernel
theorem d_M_comes_19 : decode m_M_comes.2.1 19 = .ok (.getfield 7, 3) := by decide +kernel
theorem d_M_comes_22 : decode m_M_comes.2.1 22 = .ok (.iload 4, 2) := by decide +kernel
theorem d_M_comes_24 : decode m_M_comes.2.1 24 = .ok (.aload_n 0, 1) := by decide +kernel
theorem d_M_comes_25 : decode m_M_comes.2.1 25 = .ok (.getfield 7, 3) := by decide +kernel
theorem d_M_comes_28 : decode m_M_comes.2.1 28 = .ok (.iload 4, 2) := by decide +kernel
theorem d_M_comes_30 : decode m_M_comes.2.1 30 = .ok (.iaload, 1) := by decide +kernel
theorem d_M_comes_31 : decode m_M_comes.2.1 31 = .ok (.iadd, 1) := by decide +kernel
theorem d_M_comes_32 : decode m_M_comes.2.1 32 = .ok (.iload_n 3, 1) := by decide +kernel
theorem d_M_comes_33 : decode m_M_comes.2.1 33 = .ok (.iastore, 1) := by decide +kernel
theorem d_M_comes_34 : decode m_M_comes.2.1 34 = .ok (.return_, 1) := by decide +kernel
def f_M_comes (x1 : Int) (x2 : Int) (x3 : Int) (w : qMem) : Option (qMem) :=
  (f_M_queueAt x1 x2 w).bind fun q1 =>
  qld q1.2 89 5898 q1.1 fun v2 =>
  qst q1.2 89 5898 q1.1 (w32 (v2 + 1)) fun w3 =>
  qld w3 89 5898 q1.1 fun v4 =>
  qst w3 89 5898 (w32 (q1.1 + v4)) x3 fun w5 =>
  some w5
set_option maxRecDepth 4000 in
theorem s_M_comes (x1 : Int) (x2 : Int) (x3 : Int) (w : qMem) : qSim κV 100 100 m_M_comes 0 [] [some (qR 88), some (qI x1), some (qI x2), some (qI x3), none] w (f_M_comes x1 x2 x3 w) := by
  unfold f_M_comes
  refine z_iload_n d_M_comes_0 rfl ?_
  refine z_iload_n d_M_comes_1 rfl ?_
  refine z_cSI (av := [qI x1, qI x2]) (st := []) (nl := 0) d_M_comes_2 lk_M_105 mk_M_queueAt rfl rfl rfl (s_M_queueAt _ _ _) (fun q1 _ hq1 => ?_)
  refine z_istore (pls' := [some (qR 88), some (qI x1), some (qI x2), some (qI x3), some (qI q1.1)]) d_M_comes_5 (by decide) rfl rfl ?_
  refine z_aload_n d_M_comes_7 rfl ?_
  refine z_gr (ci := 10) (j := 0) (d := 1) (o2 := 89) d_M_comes_8 rfl fl_M_7 rfl (Nat.le_of_ble_eq_true rfl) rfl rfl ?_
  refine z_iload d_M_comes_11 rfl ?_
  refine z_dup2 d_M_comes_13 rfl rfl ?_
  refine z_il d_M_comes_14 rfl rfl (fun v2 => ?_)
  refine z_ic1 d_M_comes_15 ?_
  refine z_iadd d_M_comes_16 ?_
  refine z_is d_M_comes_17 rfl rfl (fun w3 => ?_)
  refine z_aload_n d_M_comes_18 rfl ?_
  refine z_gr (ci := 10) (j := 0) (d := 1) (o2 := 89) d_M_comes_19 rfl fl_M_7 rfl (Nat.le_of_ble_eq_true rfl) rfl rfl ?_
  refine z_iload d_M_comes_22 rfl ?_
  refine z_aload_n d_M_comes_24 rfl ?_
  refine z_gr (ci := 10) (j := 0) (d := 1) (o2 := 89) d_M_comes_25 rfl fl_M_7 rfl (Nat.le_of_ble_eq_true rfl) rfl rfl ?_
  refine z_iload d_M_comes_28 rfl ?_
  refine z_il d_M_comes_30 rfl rfl (fun v4 => ?_)
  refine z_iadd d_M_comes_31 ?_
  refine z_iload_n d_M_comes_32 rfl ?_
  refine z_is d_M_comes_33 rfl rfl (fun w5 => ?_)
  exact z_vret d_M_comes_34 rfl rfl
/-! BubbleTorusModel.leaves -/
theorem d_M_leaves_0 : decode m_M_leaves.2.1 0 = .ok (.iload_n 1, 1) := by decide +kernel
theorem d_M_leaves_1 : decode m_M_leaves.2.1 1 = .ok (.iload_n 2, 1) := by decide +kernel
theorem d_M_leaves_2 : decode m_M_leaves.2.1 2 = .ok (.invokestatic 105, 3) := by decide +kernel
theorem d_M_leaves_5 : decode m_M_leaves.2.1 5 = .ok (.istore_n 3, 1) := by decide +kernel
theorem d_M_leaves_6 : decode m_M_leaves.2.1 6 = .ok (.iconst 1, 1) := by decide +kernel
theorem d_M_leaves_7 : decode m_M_leaves.2.1 7 = .ok (.istore 4, 2) := by decide +kernel
theorem d_M_leaves_9 : decode m_M_leaves.2.1 9 = .ok (.iload 4, 2) := by decide +kernel
theorem d_M_leaves_11 : decode m_M_leaves.2.1 11 = .ok (.aload_n 0, 1) := by decide +kernel
theorem d_M_leaves_12 : decode m_M_leaves.2.1 12 = .ok (.getfield 7, 3) := by decide +kernel
theorem d_M_leaves_15 : decode m_M_leaves.2.1 15 = .ok (.iload_n 3, 1) := by decide +kernel
theorem d_M_leaves_16 : decode m_M_leaves.2.1 16 = .ok (.iaload, 1) := by decide +kernel
theorem d_M_leaves_17 : decode m_M_leaves.2.1 17 = .ok (.if_icmp .ge 29, 3) := by decide +kernel
theorem d_M_leaves_20 : decode m_M_leaves.2.1 20 = .ok (.aload_n 0, 1) := by decide +kernel
theorem d_M_leaves_21 : decode m_M_leaves.2.1 21 = .ok (.getfield 7, 3) := by decide +kernel
theorem d_M_leaves_24 : decode m_M_leaves.2.1 24 = .ok (.iload_n 3, 1) := by decide +kernel
theorem d_M_leaves_25 : decode m_M_leaves.2.1 25 = .ok (.iload 4, 2) := by decide +kernel
theorem d_M_leaves_27 : decode m_M_leaves.2.1 27 = .ok (.iadd, 1) := by decide +kernel
theorem d_M_leaves_28 : decode m_M_leaves.2.1 28 = .ok (.aload_n 0, 1) := by decide +kernel
theorem d_M_leaves_29 : decode m_M_leaves.2.1 29 = .ok (.getfield 7, 3) := by decide +kernel
theorem d_M_leaves_32 : decode m_M_leaves.2.1 32 = .ok (.iload_n 3, 1) := by decide +kernel
theorem d_M_leaves_33 : decode m_M_leaves.2.1 33 = .ok (.iload 4, 2) := by decide +kernel
theorem d_M_leaves_35 : decode m_M_leaves.2.1 35 = .ok (.iadd, 1) := by decide +kernel
theorem d_M_leaves_36 : decode m_M_leaves.2.1 36 = .ok (.iconst 1, 1) := by decide +kernel
theorem d_M_leaves_37 : decode m_M_leaves.2.1 37 = .ok (.iadd, 1) := by decide +kernel
theorem d_M_leaves_38 : decode m_M_leaves.2.1 38 = .ok (.iaload, 1) := by decide +kernel
theorem d_M_leaves_39 : decode m_M_leaves.2.1 39 = .ok (.iastore, 1) := by decide +kernel
theorem d_M_leaves_40 : decode m_M_leaves.2.1 40 = .ok (.iinc 4 1, 3) := by decide +kernel
theorem d_M_leaves_43 : decode m_M_leaves.2.1 43 = .ok (.goto (-34), 3) := by decide +kernel
theorem d_M_leaves_46 : decode m_M_leaves.2.1 46 = .ok (.aload_n 0, 1) := by decide +kernel
theorem d_M_leaves_47 : decode m_M_leaves.2.1 47 = .ok (.getfield 7, 3) := by decide +kernel
theorem d_M_leaves_50 : decode m_M_leaves.2.1 50 = .ok (.iload_n 3, 1) := by decide +kernel
theorem d_M_leaves_51 : decode m_M_leaves.2.1 51 = .ok (.dup2, 1) := by decide +kernel
theorem d_M_leaves_52 : decode m_M_leaves.2.1 52 = .ok (.iaload, 1) := by decide +kernel
theorem d_M_leaves_53 : decode m_M_leaves.2.1 53 = .ok (.iconst 1, 1) := by decide +kernel
theorem d_M_leaves_54 : decode m_M_leaves.2.1 54 = .ok (.isub, 1) := by decide +kernel
theorem d_M_leaves_55 : decode m_M_leaves.2.1 55 = .ok (.iastore, 1) := by decide +kernel
theorem d_M_leaves_56 : decode m_M_leaves.2.1 56 = .ok (.return_, 1) := by decide +kernel
def f_M_leaves_46 (x3 : Int) (w : qMem) : Option (qMem) :=
  qld w 89 5898 x3 fun v1 =>
  qst w 89 5898 x3 (w32 (v1 - 1)) fun w2 =>
  some w2
set_option maxRecDepth 4000 in
theorem s_M_leaves_46  : ∀ (x3 : Int) (w : qMem), qSim κV 100 100 m_M_leaves 46 [] [some (qR 88), none, none, some (qI x3), none] w (f_M_leaves_46 x3 w) := by
  intro x3 w
  unfold f_M_leaves_46
  refine z_aload_n d_M_leaves_46 rfl ?_
  refine z_gr (ci := 10) (j := 0) (d := 1) (o2 := 89) d_M_leaves_47 rfl fl_M_7 rfl (Nat.le_of_ble_eq_true rfl) rfl rfl ?_
  refine z_iload_n d_M_leaves_50 rfl ?_
  refine z_dup2 d_M_leaves_51 rfl rfl ?_
  refine z_il d_M_leaves_52 rfl rfl (fun v1 => ?_)
  refine z_ic1 d_M_leaves_53 ?_
  refine z_isub d_M_leaves_54 ?_
  refine z_is d_M_leaves_55 rfl rfl (fun w2 => ?_)
  exact z_vret d_M_leaves_56 rfl rfl
def f_M_leaves_9 : Nat → Int → Int → qMem → Option (qMem)
  | 0, _, _, _ => none
  | n + 1, x3, x4, w =>
    qld w 89 5898 x3 fun v3 =>
    if x4 < v3 then
    qld w 89 5898 (w32 ((w32 (x3 + x4)) + 1)) fun v5 =>
    qst w 89 5898 (w32 (x3 + x4)) v5 fun w6 =>
    (f_M_leaves_9 n) x3 (w32 (x4 + 1)) w6
    else
    f_M_leaves_46 x3 w
set_option maxRecDepth 4000 in
theorem s_M_leaves_9  : ∀ (n : Nat), ∀ (x3 x4 : Int) (w : qMem), qSim κV 100 100 m_M_leaves 9 [] [some (qR 88), none, none, some (qI x3), some (qI x4)] w (f_M_leaves_9 n x3 x4 w) := by
  intro n
  induction n with
  | zero => intro x3 x4 w; exact z_none
  | succ n ih =>
    intro x3 x4 w
    rw [f_M_leaves_9]
    refine z_iload d_M_leaves_9 rfl ?_
    refine z_aload_n d_M_leaves_11 rfl ?_
    refine z_gr (ci := 10) (j := 0) (d := 1) (o2 := 89) d_M_leaves_12 rfl fl_M_7 rfl (Nat.le_of_ble_eq_true rfl) rfl rfl ?_
    refine z_iload_n d_M_leaves_15 rfl ?_
    refine z_il d_M_leaves_16 rfl rfl (fun v3 => ?_)
    refine z_icmp_ge (tgt := 46) d_M_leaves_17 rfl (fun c4 => ?_) (fun c4 => ?_)
    · refine z_aload_n d_M_leaves_20 rfl ?_
      refine z_gr (ci := 10) (j := 0) (d := 1) (o2 := 89) d_M_leaves_21 rfl fl_M_7 rfl (Nat.le_of_ble_eq_true rfl) rfl rfl ?_
      refine z_iload_n d_M_leaves_24 rfl ?_
      refine z_iload d_M_leaves_25 rfl ?_
      refine z_iadd d_M_leaves_27 ?_
      refine z_aload_n d_M_leaves_28 rfl ?_
      refine z_gr (ci := 10) (j := 0) (d := 1) (o2 := 89) d_M_leaves_29 rfl fl_M_7 rfl (Nat.le_of_ble_eq_true rfl) rfl rfl ?_
      refine z_iload_n d_M_leaves_32 rfl ?_
      refine z_iload d_M_leaves_33 rfl ?_
      refine z_iadd d_M_leaves_35 ?_
      refine z_ic1 d_M_leaves_36 ?_
      refine z_iadd d_M_leaves_37 ?_
      refine z_il d_M_leaves_38 rfl rfl (fun v5 => ?_)
      refine z_is d_M_leaves_39 rfl rfl (fun w6 => ?_)
      refine z_iinc (pls' := [some (qR 88), none, none, some (qI x3), some (qI (w32 (x4 + 1)))]) d_M_leaves_40 (by decide) rfl rfl rfl ?_
      refine z_goto (tgt := 9) d_M_leaves_43 rfl ?_
      refine z_mask [true, false, false, true, true] ?_
      exact ih _ _ _
    · refine z_mask [true, false, false, true, false] ?_
      exact s_M_leaves_46 _ _
def f_M_leaves (x1 : Int) (x2 : Int) (w : qMem) : Option (qMem) :=
  (f_M_queueAt x1 x2 w).bind fun q7 =>
  f_M_leaves_9 qFU q7.1 1 q7.2
set_option maxRecDepth 4000 in
theorem s_M_leaves (x1 : Int) (x2 : Int) (w : qMem) : qSim κV 100 100 m_M_leaves 0 [] [some (qR 88), some (qI x1), some (qI x2), none, none] w (f_M_leaves x1 x2 w) := by
  unfold f_M_leaves
  refine z_iload_n d_M_leaves_0 rfl ?_
  refine z_iload_n d_M_leaves_1 rfl ?_
  refine z_cSI (av := [qI x1, qI x2]) (st := []) (nl := 0) d_M_leaves_2 lk_M_105 mk_M_queueAt rfl rfl rfl (s_M_queueAt _ _ _) (fun q7 _ hq7 => ?_)
  refine z_istore_n (pls' := [some (qR 88), some (qI x1), some (qI x2), some (qI q7.1), none]) d_M_leaves_5 (by decide) rfl rfl ?_
  refine z_ic1 d_M_leaves_6 ?_
  refine z_istore (pls' := [some (qR 88), some (qI x1), some (qI x2), some (qI q7.1), some (qI 1)]) d_M_leaves_7 (by decide) rfl rfl ?_
  refine z_mask [true, false, false, true, true] ?_
  exact s_M_leaves_9 _ _ _ _
/-! BubbleTorusModel.packetAt -/
theorem d_M_packetAt_0 : decode m_M_packetAt.2.1 0 = .ok (.bipush 16, 2) := by decide +kernel
theorem d_M_packetAt_2 : decode m_M_packetAt.2.1 2 = .ok (.bipush 17, 2) := by decide +kernel
theorem d_M_packetAt_4 : decode m_M_packetAt.2.1 4 = .ok (.iload_n 0, 1) := by decide +kernel
theorem d_M_packetAt_5 : decode m_M_packetAt.2.1 5 = .ok (.imul, 1) := by decide +kernel
theorem d_M_packetAt_6 : decode m_M_packetAt.2.1 6 = .ok (.iadd, 1) := by decide +kernel
theorem d_M_packetAt_7 : decode m_M_packetAt.2.1 7 = .ok (.ireturn, 1) := by decide +kernel
def f_M_packetAt (x0 : Int) (w : qMem) : Option (Int × qMem) :=
  some ((w32 (16 + (w32 (17 * x0)))), w)
set_option maxRecDepth 4000 in
theorem s_M_packetAt {ph : Nat} (x0 : Int) (w : qMem) : qSim κI ph ph m_M_packetAt 0 [] [some (qI x0)] w (f_M_packetAt x0 w) := by
  unfold f_M_packetAt
  refine z_bipush d_M_packetAt_0 ⟨by decide, by decide⟩ ?_
  refine z_bipush d_M_packetAt_2 ⟨by decide, by decide⟩ ?_
  refine z_iload_n d_M_packetAt_4 rfl ?_
  refine z_imul d_M_packetAt_5 ?_
  refine z_iadd d_M_packetAt_6 ?_
  exact z_iret d_M_packetAt_7 rfl rfl
/-! BubbleTorusModel.of -/
theorem d_M_of_0 : decode m_M_of.2.1 0 = .ok (.aload_n 0, 1) := by decide +kernel
theorem d_M_of_1 : decode m_M_of.2.1 1 = .ok (.getfield 7, 3) := by decide +kernel
theorem d_M_of_4 : decode m_M_of.2.1 4 = .ok (.iload_n 1, 1) := by decide +kernel
theorem d_M_of_5 : decode m_M_of.2.1 5 = .ok (.invokestatic 114, 3) := by decide +kernel
theorem d_M_of_8 : decode m_M_of.2.1 8 = .ok (.iload_n 2, 1) := by decide +kernel
theorem d_M_of_9 : decode m_M_of.2.1 9 = .ok (.iadd, 1) := by decide +kernel
theorem d_M_of_10 : decode m_M_of.2.1 10 = .ok (.iaload, 1) := by decide +kernel
theorem d_M_of_11 : decode m_M_of.2.1 11 = .ok (.ireturn, 1) := by decide +kernel
def f_M_of (x1 : Int) (x2 : Int) (w : qMem) : Option (Int × qMem) :=
  (f_M_packetAt x1 w).bind fun q1 =>
  qld q1.2 89 5898 (w32 (q1.1 + x2)) fun v2 =>
  some (v2, q1.2)
set_option maxRecDepth 4000 in
theorem s_M_of (x1 : Int) (x2 : Int) (w : qMem) : qSim κI 100 100 m_M_of 0 [] [some (qR 88), some (qI x1), some (qI x2)] w (f_M_of x1 x2 w) := by
  unfold f_M_of
  refine z_aload_n d_M_of_0 rfl ?_
  refine z_gr (ci := 10) (j := 0) (d := 1) (o2 := 89) d_M_of_1 rfl fl_M_7 rfl (Nat.le_of_ble_eq_true rfl) rfl rfl ?_
  refine z_iload_n d_M_of_4 rfl ?_
  refine z_cSI (av := [qI x1]) (st := [qR 89]) (nl := 0) d_M_of_5 lk_M_114 mk_M_packetAt rfl rfl rfl (s_M_packetAt _ _) (fun q1 _ hq1 => ?_)
  refine z_iload_n d_M_of_8 rfl ?_
  refine z_iadd d_M_of_9 ?_
  refine z_il d_M_of_10 rfl rfl (fun v2 => ?_)
  exact z_iret d_M_of_11 rfl rfl
/-! BubbleTorusModel.isPacket -/
theorem d_M_isPacket_0 : decode m_M_isPacket.2.1 0 = .ok (.iload_n 1, 1) := by decide +kernel
theorem d_M_isPacket_1 : decode m_M_isPacket.2.1 1 = .ok (.iconst 0, 1) := by decide +kernel
theorem d_M_isPacket_2 : decode m_M_isPacket.2.1 2 = .ok (.aload_n 0, 1) := by decide +kernel
theorem d_M_isPacket_3 : decode m_M_isPacket.2.1 3 = .ok (.getfield 7, 3) := by decide +kernel
theorem d_M_isPacket_6 : decode m_M_isPacket.2.1 6 = .ok (.bipush 7, 2) := by decide +kernel
theorem d_M_isPacket_8 : decode m_M_isPacket.2.1 8 = .ok (.iaload, 1) := by decide +kernel
theorem d_M_isPacket_9 : decode m_M_isPacket.2.1 9 = .ok (.iconst 1, 1) := by decide +kernel
theorem d_M_isPacket_10 : decode m_M_isPacket.2.1 10 = .ok (.isub, 1) := by decide +kernel
theorem d_M_isPacket_11 : decode m_M_isPacket.2.1 11 = .ok (.invokestatic 68, 3) := by decide +kernel
theorem d_M_isPacket_14 : decode m_M_isPacket.2.1 14 = .ok (.ireturn, 1) := by decide +kernel
def f_M_isPacket (x1 : Int) (w : qMem) : Option (Int × qMem) :=
  qld w 89 5898 7 fun v1 =>
  (f_M_isIn x1 0 (w32 (v1 - 1)) w).bind fun q2 =>
  some (q2.1, q2.2)
set_option maxRecDepth 4000 in
theorem s_M_isPacket (x1 : Int) (w : qMem) : qSim κI 100 100 m_M_isPacket 0 [] [some (qR 88), some (qI x1)] w (f_M_isPacket x1 w) := by
  unfold f_M_isPacket
  refine z_iload_n d_M_isPacket_0 rfl ?_
  refine z_ic0 d_M_isPacket_1 ?_
  refine z_aload_n d_M_isPacket_2 rfl ?_
  refine z_gr (ci := 10) (j := 0) (d := 1) (o2 := 89) d_M_isPacket_3 rfl fl_M_7 rfl (Nat.le_of_ble_eq_true rfl) rfl rfl ?_
  refine z_bipush d_M_isPacket_6 ⟨by decide, by decide⟩ ?_
  refine z_il d_M_isPacket_8 rfl rfl (fun v1 => ?_)
  refine z_ic1 d_M_isPacket_9 ?_
  refine z_isub d_M_isPacket_10 ?_
  refine z_cSI (av := [qI x1, qI 0, qI (w32 (v1 - 1))]) (st := []) (nl := 0) d_M_isPacket_11 lk_M_68 mk_M_isIn rfl rfl rfl (s_M_isIn _ _ _ _) (fun q2 _ hq2 => ?_)
  exact z_zret d_M_isPacket_14 rfl rfl (q_boo rfl hq2)
/-! BubbleTorusModel.sends -/
theorem d_M_sends_0 : decode m_M_sends.2.1 0 = .ok (.aload_n 0, 1) := by decide +kernel
theorem d_M_sends_1 : decode m_M_sends.2.1 1 = .ok (.getfield 7, 3) := by decide +kernel
theorem d_M_sends_4 : decode m_M_sends.2.1 4 = .ok (.bipush 7, 2) := by decide +kernel
theorem d_M_sends_6 : decode m_M_sends.2.1 6 = .ok (.iaload, 1) := by decide +kernel
theorem d_M_sends_7 : decode m_M_sends.2.1 7 = .ok (.sipush 250, 3) := by decide +kernel
theorem d_M_sends_10 : decode m_M_sends.2.1 10 = .ok (.if_icmp .eq 12, 3) := by decide +kernel
theorem d_M_sends_13 : decode m_M_sends.2.1 13 = .ok (.aload_n 0, 1) := by decide +kernel
theorem d_M_sends_14 : decode m_M_sends.2.1 14 = .ok (.iload_n 1, 1) := by decide +kernel
theorem d_M_sends_15 : decode m_M_sends.2.1 15 = .ok (.iconst 0, 1) := by decide +kernel
theorem d_M_sends_16 : decode m_M_sends.2.1 16 = .ok (.invokevirtual 117, 3) := by decide +kernel
theorem d_M_sends_19 : decode m_M_sends.2.1 19 = .ok (.ifCond .ne 5, 3) := by decide +kernel
theorem d_M_sends_22 : decode m_M_sends.2.1 22 = .ok (.iconst (-1), 1) := by decide +kernel
theorem d_M_sends_23 : decode m_M_sends.2.1 23 = .ok (.ireturn, 1) := by decide +kernel
theorem d_M_sends_24 : decode m_M_sends.2.1 24 = .ok (.aload_n 0, 1) := by decide +kernel
theorem d_M_sends_25 : decode m_M_sends.2.1 25 = .ok (.getfield 7, 3) := by decide +kernel
theorem d_M_sends_28 : decode m_M_sends.2.1 28 = .ok (.bipush 7, 2) := by decide +kernel
theorem d_M_sends_30 : decode m_M_sends.2.1 30 = .ok (.iaload, 1) := by decide +kernel
theorem d_M_sends_31 : decode m_M_sends.2.1 31 = .ok (.istore_n 3, 1) := by decide +kernel
theorem d_M_sends_32 : decode m_M_sends.2.1 32 = .ok (.iload_n 3, 1) := by decide +kernel
theorem d_M_sends_33 : decode m_M_sends.2.1 33 = .ok (.invokestatic 114, 3) := by decide +kernel
theorem d_M_sends_36 : decode m_M_sends.2.1 36 = .ok (.istore 4, 2) := by decide +kernel
theorem d_M_sends_38 : decode m_M_sends.2.1 38 = .ok (.iconst 0, 1) := by decide +kernel
theorem d_M_sends_39 : decode m_M_sends.2.1 39 = .ok (.istore 5, 2) := by decide +kernel
theorem d_M_sends_41 : decode m_M_sends.2.1 41 = .ok (.iload 5, 2) := by decide +kernel
theorem d_M_sends_43 : decode m_M_sends.2.1 43 = .ok (.bipush 17, 2) := by decide +kernel
theorem d_M_sends_45 : decode m_M_sends.2.1 45 = .ok (.if_icmp .ge 20, 3) := by decide +kernel
theorem d_M_sends_48 : decode m_M_sends.2.1 48 = .ok (.aload_n 0, 1) := by decide +kernel
theorem d_M_sends_49 : decode m_M_sends.2.1 49 = .ok (.getfield 7, 3) := by decide +kernel
theorem d_M_sends_52 : decode m_M_sends.2.1 52 = .ok (.iload 4, 2) := by decide +kernel
theorem d_M_sends_54 : decode m_M_sends.2.1 54 = .ok (.iload 5, 2) := by decide +kernel
theorem d_M_sends_56 : decode m_M_sends.2.1 56 = .ok (.iadd, 1) := by decide +kernel
theorem d_M_sends_57 : decode m_M_sends.2.1 57 = .ok (.iconst 0, 1) := by decide +kernel
theorem d_M_sends_58 : decode m_M_sends.2.1 58 = .ok (.iastore, 1) := by decide +kernel
theorem d_M_sends_59 : decode m_M_sends.2.1 59 = .ok (.iinc 5 1, 3) := by decide +kernel
theorem d_M_sends_62 : decode m_M_sends.2.1 62 = .ok (.goto (-21), 3) := by decide +kernel
theorem d_M_sends_65 : decode m_M_sends.2.1 65 = .ok (.aload_n 0, 1) := by decide +kernel
theorem d_M_sends_66 : decode m_M_sends.2.1 66 = .ok (.getfield 7, 3) := by decide +kernel
theorem d_M_sends_69 : decode m_M_sends.2.1 69 = .ok (.iload 4, 2) := by decide +kernel
theorem d_M_sends_71 : decode m_M_sends.2.1 71 = .ok (.iconst 0, 1) := by decide +kernel
theorem d_M_sends_72 : decode m_M_sends.2.1 72 = .ok (.iadd, 1) := by decide +kernel
theorem d_M_sends_73 : decode m_M_sends.2.1 73 = .ok (.iload_n 1, 1) := by decide +kernel
theorem d_M_sends_74 : decode m_M_sends.2.1 74 = .ok (.iastore, 1) := by decide +kernel
theorem d_M_sends_75 : decode m_M_sends.2.1 75 = .ok (.aload_n 0, 1) := by decide +kernel
theorem d_M_sends_76 : decode m_M_sends.2.1 76 = .ok (.getfield 7, 3) := by decide +kernel
theorem d_M_sends_79 : decode m_M_sends.2.1 79 = .ok (.iload 4, 2) := by decide +kernel
theorem d_M_sends_81 : decode m_M_sends.2.1 81 = .ok (.iconst 1, 1) := by decide +kernel
theorem d_M_sends_82 : decode m_M_sends.2.1 82 = .ok (.iadd, 1) := by decide +kernel
theorem d_M_sends_83 : decode m_M_sends.2.1 83 = .ok (.iload_n 2, 1) := by decide +kernel
theorem d_M_sends_84 : decode m_M_sends.2.1 84 = .ok (.iastore, 1) := by decide +kernel
theorem d_M_sends_85 : decode m_M_sends.2.1 85 = .ok (.aload_n 0, 1) := by decide +kernel
theorem d_M_sends_86 : decode m_M_sends.2.1 86 = .ok (.getfield 7, 3) := by decide +kernel
theorem d_M_sends_89 : decode m_M_sends.2.1 89 = .ok (.iload 4, 2) := by decide +kernel
theorem d_M_sends_91 : decode m_M_sends.2.1 91 = .ok (.iconst 2, 1) := by decide +kernel
theorem d_M_sends_92 : decode m_M_sends.2.1 92 = .ok (.iadd, 1) := by decide +kernel
theorem d_M_sends_93 : decode m_M_sends.2.1 93 = .ok (.aload_n 0, 1) := by decide +kernel
theorem d_M_sends_94 : decode m_M_sends.2.1 94 = .ok (.getfield 7, 3) := by decide +kernel
theorem d_M_sends_97 : decode m_M_sends.2.1 97 = .ok (.bipush 6, 2) := by decide +kernel
theorem d_M_sends_99 : decode m_M_sends.2.1 99 = .ok (.iaload, 1) := by decide +kernel
theorem d_M_sends_100 : decode m_M_sends.2.1 100 = .ok (.iastore, 1) := by decide +kernel
theorem d_M_sends_101 : decode m_M_sends.2.1 101 = .ok (.aload_n 0, 1) := by decide +kernel
theorem d_M_sends_102 : decode m_M_sends.2.1 102 = .ok (.getfield 7, 3) := by decide +kernel
theorem d_M_sends_105 : decode m_M_sends.2.1 105 = .ok (.iload 4, 2) := by decide +kernel
theorem d_M_sends_107 : decode m_M_sends.2.1 107 = .ok (.iconst 4, 1) := by decide +kernel
theorem d_M_sends_108 : decode m_M_sends.2.1 108 = .ok (.iadd, 1) := by decide +kernel
theorem d_M_sends_109 : decode m_M_sends.2.1 109 = .ok (.iload_n 1, 1) := by decide +kernel
theorem d_M_sends_110 : decode m_M_sends.2.1 110 = .ok (.iastore, 1) := by decide +kernel
theorem d_M_sends_111 : decode m_M_sends.2.1 111 = .ok (.aload_n 0, 1) := by decide +kernel
theorem d_M_sends_112 : decode m_M_sends.2.1 112 = .ok (.getfield 7, 3) := by decide +kernel
theorem d_M_sends_115 : decode m_M_sends.2.1 115 = .ok (.iload 4, 2) := by decide +kernel
theorem d_M_sends_117 : decode m_M_sends.2.1 117 = .ok (.iconst 5, 1) := by decide +kernel
theorem d_M_sends_118 : decode m_M_sends.2.1 118 = .ok (.iadd, 1) := by decide +kernel
theorem d_M_sends_119 : decode m_M_sends.2.1 119 = .ok (.iconst (-1), 1) := by decide +kernel
theorem d_M_sends_120 : decode m_M_sends.2.1 120 = .ok (.iastore, 1) := by decide +kernel
theorem d_M_sends_121 : decode m_M_sends.2.1 121 = .ok (.aload_n 0, 1) := by decide +kernel
theorem d_M_sends_122 : decode m_M_sends.2.1 122 = .ok (.getfield 7, 3) := by decide +kernel
theorem d_M_sends_125 : decode m_M_sends.2.1 125 = .ok (.iload 4, 2) := by decide +kernel
theorem d_M_sends_127 : decode m_M_sends.2.1 127 = .ok (.bipush 7, 2) := by decide +kernel
theorem d_M_sends_129 : decode m_M_sends.2.1 129 = .ok (.iadd, 1) := by decide +kernel
theorem d_M_sends_130 : decode m_M_sends.2.1 130 = .ok (.iconst (-1), 1) := by decide +kernel
theorem d_M_sends_131 : decode m_M_sends.2.1 131 = .ok (.iastore, 1) := by decide +kernel
theorem d_M_sends_132 : decode m_M_sends.2.1 132 = .ok (.aload_n 0, 1) := by decide +kernel
theorem d_M_sends_133 : decode m_M_sends.2.1 133 = .ok (.getfield 7, 3) := by decide +kernel
theorem d_M_sends_136 : decode m_M_sends.2.1 136 = .ok (.iload 4, 2) := by decide +kernel
theorem d_M_sends_138 : decode m_M_sends.2.1 138 = .ok (.bipush 10, 2) := by decide +kernel
theorem d_M_sends_140 : decode m_M_sends.2.1 140 = .ok (.iadd, 1) := by decide +kernel
theorem d_M_sends_141 : decode m_M_sends.2.1 141 = .ok (.iconst (-1), 1) := by decide +kernel
theorem d_M_sends_142 : decode m_M_sends.2.1 142 = .ok (.iastore, 1) := by decide +kernel
theorem d_M_sends_143 : decode m_M_sends.2.1 143 = .ok (.aload_n 0, 1) := by decide +kernel
theorem d_M_sends_144 : decode m_M_sends.2.1 144 = .ok (.getfield 7, 3) := by decide +kernel
theorem d_M_sends_147 : decode m_M_sends.2.1 147 = .ok (.iload 4, 2) := by decide +kernel
theorem d_M_sends_149 : decode m_M_sends.2.1 149 = .ok (.bipush 11, 2) := by decide +kernel
theorem d_M_sends_151 : decode m_M_sends.2.1 151 = .ok (.iadd, 1) := by decide +kernel
theorem d_M_sends_152 : decode m_M_sends.2.1 152 = .ok (.iconst (-1), 1) := by decide +kernel
theorem d_M_sends_153 : decode m_M_sends.2.1 153 = .ok (.iastore, 1) := by decide +kernel
theorem d_M_sends_154 : decode m_M_sends.2.1 154 = .ok (.aload_n 0, 1) := by decide +kernel
theorem d_M_sends_155 : decode m_M_sends.2.1 155 = .ok (.getfield 7, 3) := by decide +kernel
theorem d_M_sends_158 : decode m_M_sends.2.1 158 = .ok (.iload 4, 2) := by decide +kernel
theorem d_M_sends_160 : decode m_M_sends.2.1 160 = .ok (.bipush 12, 2) := by decide +kernel
theorem d_M_sends_162 : decode m_M_sends.2.1 162 = .ok (.iadd, 1) := by decide +kernel
theorem d_M_sends_163 : decode m_M_sends.2.1 163 = .ok (.iload_n 1, 1) := by decide +kernel
theorem d_M_sends_164 : decode m_M_sends.2.1 164 = .ok (.iastore, 1) := by decide +kernel
theorem d_M_sends_165 : decode m_M_sends.2.1 165 = .ok (.aload_n 0, 1) := by decide +kernel
theorem d_M_sends_166 : decode m_M_sends.2.1 166 = .ok (.iload_n 1, 1) := by decide +kernel
theorem d_M_sends_167 : decode m_M_sends.2.1 167 = .ok (.iconst 0, 1) := by decide +kernel
theorem d_M_sends_168 : decode m_M_sends.2.1 168 = .ok (.iload_n 3, 1) := by decide +kernel
theorem d_M_sends_169 : decode m_M_sends.2.1 169 = .ok (.invokevirtual 120, 3) := by decide +kernel
theorem d_M_sends_172 : decode m_M_sends.2.1 172 = .ok (.aload_n 0, 1) := by decide +kernel
theorem d_M_sends_173 : decode m_M_sends.2.1 173 = .ok (.getfield 7, 3) := by decide +kernel
theorem d_M_sends_176 : decode m_M_sends.2.1 176 = .ok (.bipush 7, 2) := by decide +kernel
theorem d_M_sends_178 : decode m_M_sends.2.1 178 = .ok (.dup2, 1) := by decide +kernel
theorem d_M_sends_179 : decode m_M_sends.2.1 179 = .ok (.iaload, 1) := by decide +kernel
theorem d_M_sends_180 : decode m_M_sends.2.1 180 = .ok (.iconst 1, 1) := by decide +kernel
theorem d_M_sends_181 : decode m_M_sends.2.1 181 = .ok (.iadd, 1) := by decide +kernel
theorem d_M_sends_182 : decode m_M_sends.2.1 182 = .ok (.iastore, 1) := by decide +kernel
theorem d_M_sends_183 : decode m_M_sends.2.1 183 = .ok (.iload_n 3, 1) := by decide +kernel
theorem d_M_sends_184 : decode m_M_sends.2.1 184 = .ok (.ireturn, 1) := by decide +kernel
def f_M_sends_65 (x1 x2 x3 x4 : Int) (w : qMem) : Option (Int × qMem) :=
  qst w 89 5898 (w32 (x4 + 0)) x1 fun w1 =>
  qst w1 89 5898 (w32 (x4 + 1)) x2 fun w2 =>
  qld w2 89 5898 6 fun v3 =>
  qst w2 89 5898 (w32 (x4 + 2)) v3 fun w4 =>
  qst w4 89 5898 (w32 (x4 + 4)) x1 fun w5 =>
  qst w5 89 5898 (w32 (x4 + 5)) (-1) fun w6 =>
  qst w6 89 5898 (w32 (x4 + 7)) (-1) fun w7 =>
  qst w7 89 5898 (w32 (x4 + 10)) (-1) fun w8 =>
  qst w8 89 5898 (w32 (x4 + 11)) (-1) fun w9 =>
  qst w9 89 5898 (w32 (x4 + 12)) x1 fun w10 =>
  (f_M_comes x1 0 x3 w10).bind fun q11 =>
  qld q11 89 5898 7 fun v12 =>
  qst q11 89 5898 7 (w32 (v12 + 1)) fun w13 =>
  some (x3, w13)
set_option maxRecDepth 4000 in
theorem s_M_sends_65  : ∀ (x1 x2 x3 x4 : Int) (w : qMem), qSim κI 100 100 m_M_sends 65 [] [some (qR 88), some (qI x1), some (qI x2), some (qI x3), some (qI x4), none] w (f_M_sends_65 x1 x2 x3 x4 w) := by
  intro x1 x2 x3 x4 w
  unfold f_M_sends_65
  refine z_aload_n d_M_sends_65 rfl ?_
  refine z_gr (ci := 10) (j := 0) (d := 1) (o2 := 89) d_M_sends_66 rfl fl_M_7 rfl (Nat.le_of_ble_eq_true rfl) rfl rfl ?_
  refine z_iload d_M_sends_69 rfl ?_
  refine z_ic0 d_M_sends_71 ?_
  refine z_iadd d_M_sends_72 ?_
  refine z_iload_n d_M_sends_73 rfl ?_
  refine z_is d_M_sends_74 rfl rfl (fun w1 => ?_)
  refine z_aload_n d_M_sends_75 rfl ?_
  refine z_gr (ci := 10) (j := 0) (d := 1) (o2 := 89) d_M_sends_76 rfl fl_M_7 rfl (Nat.le_of_ble_eq_true rfl) rfl rfl ?_
  refine z_iload d_M_sends_79 rfl ?_
  refine z_ic1 d_M_sends_81 ?_
  refine z_iadd d_M_sends_82 ?_
  refine z_iload_n d_M_sends_83 rfl ?_
  refine z_is d_M_sends_84 rfl rfl (fun w2 => ?_)
  refine z_aload_n d_M_sends_85 rfl ?_
  refine z_gr (ci := 10) (j := 0) (d := 1) (o2 := 89) d_M_sends_86 rfl fl_M_7 rfl (Nat.le_of_ble_eq_true rfl) rfl rfl ?_
  refine z_iload d_M_sends_89 rfl ?_
  refine z_ic2 d_M_sends_91 ?_
  refine z_iadd d_M_sends_92 ?_
  refine z_aload_n d_M_sends_93 rfl ?_
  refine z_gr (ci := 10) (j := 0) (d := 1) (o2 := 89) d_M_sends_94 rfl fl_M_7 rfl (Nat.le_of_ble_eq_true rfl) rfl rfl ?_
  refine z_bipush d_M_sends_97 ⟨by decide, by decide⟩ ?_
  refine z_il d_M_sends_99 rfl rfl (fun v3 => ?_)
  refine z_is d_M_sends_100 rfl rfl (fun w4 => ?_)
  refine z_aload_n d_M_sends_101 rfl ?_
  refine z_gr (ci := 10) (j := 0) (d := 1) (o2 := 89) d_M_sends_102 rfl fl_M_7 rfl (Nat.le_of_ble_eq_true rfl) rfl rfl ?_
  refine z_iload d_M_sends_105 rfl ?_
  refine z_ic4 d_M_sends_107 ?_
  refine z_iadd d_M_sends_108 ?_
  refine z_iload_n d_M_sends_109 rfl ?_
  refine z_is d_M_sends_110 rfl rfl (fun w5 => ?_)
  refine z_aload_n d_M_sends_111 rfl ?_
  refine z_gr (ci := 10) (j := 0) (d := 1) (o2 := 89) d_M_sends_112 rfl fl_M_7 rfl (Nat.le_of_ble_eq_true rfl) rfl rfl ?_
  refine z_iload d_M_sends_115 rfl ?_
  refine z_ic5 d_M_sends_117 ?_
  refine z_iadd d_M_sends_118 ?_
  refine z_icm1 d_M_sends_119 ?_
  refine z_is d_M_sends_120 rfl rfl (fun w6 => ?_)
  refine z_aload_n d_M_sends_121 rfl ?_
  refine z_gr (ci := 10) (j := 0) (d := 1) (o2 := 89) d_M_sends_122 rfl fl_M_7 rfl (Nat.le_of_ble_eq_true rfl) rfl rfl ?_
  refine z_iload d_M_sends_125 rfl ?_
  refine z_bipush d_M_sends_127 ⟨by decide, by decide⟩ ?_
  refine z_iadd d_M_sends_129 ?_
  refine z_icm1 d_M_sends_130 ?_
  refine z_is d_M_sends_131 rfl rfl (fun w7 => ?_)
  refine z_aload_n d_M_sends_132 rfl ?_
  refine z_gr (ci := 10) (j := 0) (d := 1) (o2 := 89) d_M_sends_133 rfl fl_M_7 rfl (Nat.le_of_ble_eq_true rfl) rfl rfl ?_
  refine z_iload d_M_sends_136 rfl ?_
  refine z_bipush d_M_sends_138 ⟨by decide, by decide⟩ ?_
  refine z_iadd d_M_sends_140 ?_
  refine z_icm1 d_M_sends_141 ?_
  refine z_is d_M_sends_142 rfl rfl (fun w8 => ?_)
  refine z_aload_n d_M_sends_143 rfl ?_
  refine z_gr (ci := 10) (j := 0) (d := 1) (o2 := 89) d_M_sends_144 rfl fl_M_7 rfl (Nat.le_of_ble_eq_true rfl) rfl rfl ?_
  refine z_iload d_M_sends_147 rfl ?_
  refine z_bipush d_M_sends_149 ⟨by decide, by decide⟩ ?_
  refine z_iadd d_M_sends_151 ?_
  refine z_icm1 d_M_sends_152 ?_
  refine z_is d_M_sends_153 rfl rfl (fun w9 => ?_)
  refine z_aload_n d_M_sends_154 rfl ?_
  refine z_gr (ci := 10) (j := 0) (d := 1) (o2 := 89) d_M_sends_155 rfl fl_M_7 rfl (Nat.le_of_ble_eq_true rfl) rfl rfl ?_
  refine z_iload d_M_sends_158 rfl ?_
  refine z_bipush d_M_sends_160 ⟨by decide, by decide⟩ ?_
  refine z_iadd d_M_sends_162 ?_
  refine z_iload_n d_M_sends_163 rfl ?_
  refine z_is d_M_sends_164 rfl rfl (fun w10 => ?_)
  refine z_aload_n d_M_sends_165 rfl ?_
  refine z_iload_n d_M_sends_166 rfl ?_
  refine z_ic0 d_M_sends_167 ?_
  refine z_iload_n d_M_sends_168 rfl ?_
  refine z_cVV (as := [qI x1, qI 0, qI x3]) (st := []) (nl := 1) (ci := 10) d_M_sends_169 lk_M_120 mk_M_comes rfl rfl rfl rfl rfl rfl (s_M_comes _ _ _ _) (fun q11 _ => ?_)
  refine z_aload_n d_M_sends_172 rfl ?_
  refine z_gr (ci := 10) (j := 0) (d := 1) (o2 := 89) d_M_sends_173 rfl fl_M_7 rfl (Nat.le_of_ble_eq_true rfl) rfl rfl ?_
  refine z_bipush d_M_sends_176 ⟨by decide, by decide⟩ ?_
  refine z_dup2 d_M_sends_178 rfl rfl ?_
  refine z_il d_M_sends_179 rfl rfl (fun v12 => ?_)
  refine z_ic1 d_M_sends_180 ?_
  refine z_iadd d_M_sends_181 ?_
  refine z_is d_M_sends_182 rfl rfl (fun w13 => ?_)
  refine z_iload_n d_M_sends_183 rfl ?_
  exact z_iret d_M_sends_184 rfl rfl
def f_M_sends_41 : Nat → Int → Int → Int → Int → Int → qMem → Option (Int × qMem)
  | 0, _, _, _, _, _, _ => none
  | n + 1, x1, x2, x3, x4, x5, w =>
    if x5 < 17 then
    qst w 89 5898 (w32 (x4 + x5)) 0 fun w15 =>
    (f_M_sends_41 n) x1 x2 x3 x4 (w32 (x5 + 1)) w15
    else
    f_M_sends_65 x1 x2 x3 x4 w
set_option maxRecDepth 4000 in
theorem s_M_sends_41  : ∀ (n : Nat), ∀ (x1 x2 x3 x4 x5 : Int) (w : qMem), qSim κI 100 100 m_M_sends 41 [] [some (qR 88), some (qI x1), some (qI x2), some (qI x3), some (qI x4), some (qI x5)] w (f_M_sends_41 n x1 x2 x3 x4 x5 w) := by
  intro n
  induction n with
  | zero => intro x1 x2 x3 x4 x5 w; exact z_none
  | succ n ih =>
    intro x1 x2 x3 x4 x5 w
    rw [f_M_sends_41]
    refine z_iload d_M_sends_41 rfl ?_
    refine z_bipush d_M_sends_43 ⟨by decide, by decide⟩ ?_
    refine z_icmp_ge (tgt := 65) d_M_sends_45 rfl (fun c14 => ?_) (fun c14 => ?_)
    · refine z_aload_n d_M_sends_48 rfl ?_
      refine z_gr (ci := 10) (j := 0) (d := 1) (o2 := 89) d_M_sends_49 rfl fl_M_7 rfl (Nat.le_of_ble_eq_true rfl) rfl rfl ?_
      refine z_iload d_M_sends_52 rfl ?_
      refine z_iload d_M_sends_54 rfl ?_
      refine z_iadd d_M_sends_56 ?_
      refine z_ic0 d_M_sends_57 ?_
      refine z_is d_M_sends_58 rfl rfl (fun w15 => ?_)
      refine z_iinc (pls' := [some (qR 88), some (qI x1), some (qI x2), some (qI x3), some (qI x4), some (qI (w32 (x5 + 1)))]) d_M_sends_59 (by decide) rfl rfl rfl ?_
      refine z_goto (tgt := 41) d_M_sends_62 rfl ?_
      refine z_mask [true, true, true, true, true, true] ?_
      exact ih _ _ _ _ _ _
    · refine z_mask [true, true, true, true, true, false] ?_
      exact s_M_sends_65 _ _ _ _ _
def f_M_sends (x1 : Int) (x2 : Int) (w : qMem) : Option (Int × qMem) :=
  qld w 89 5898 7 fun v16 =>
  if v16 = 250 then
  some ((-1), w)
  else
  (f_M_free x1 0 w).bind fun q18 =>
  if q18.1 = 0 then
  some ((-1), q18.2)
  else
  qld q18.2 89 5898 7 fun v20 =>
  (f_M_packetAt v20 q18.2).bind fun q21 =>
  f_M_sends_41 qFU x1 x2 v20 q21.1 0 q21.2
set_option maxRecDepth 4000 in
theorem s_M_sends (x1 : Int) (x2 : Int) (w : qMem) : qSim κI 100 100 m_M_sends 0 [] [some (qR 88), some (qI x1), some (qI x2), none, none, none] w (f_M_sends x1 x2 w) := by
  unfold f_M_sends
  refine z_aload_n d_M_sends_0 rfl ?_
  refine z_gr (ci := 10) (j := 0) (d := 1) (o2 := 89) d_M_sends_1 rfl fl_M_7 rfl (Nat.le_of_ble_eq_true rfl) rfl rfl ?_
  refine z_bipush d_M_sends_4 ⟨by decide, by decide⟩ ?_
  refine z_il d_M_sends_6 rfl rfl (fun v16 => ?_)
  refine z_sipush d_M_sends_7 ⟨by decide, by decide⟩ ?_
  refine z_icmp_eq (tgt := 22) d_M_sends_10 rfl (fun c17 => ?_) (fun c17 => ?_)
  · refine z_icm1 d_M_sends_22 ?_
    exact z_iret d_M_sends_23 rfl rfl
  · refine z_aload_n d_M_sends_13 rfl ?_
    refine z_iload_n d_M_sends_14 rfl ?_
    refine z_ic0 d_M_sends_15 ?_
    refine z_cVI (as := [qI x1, qI 0]) (st := []) (nl := 0) (ci := 10) d_M_sends_16 lk_M_117 mk_M_free rfl rfl rfl rfl rfl rfl (s_M_free _ _ _) (fun q18 _ hq18 => ?_)
    refine z_if_ne (tgt := 24) d_M_sends_19 rfl (fun c19 => ?_) (fun c19 => ?_)
    · refine z_icm1 d_M_sends_22 ?_
      exact z_iret d_M_sends_23 rfl rfl
    · refine z_aload_n d_M_sends_24 rfl ?_
      refine z_gr (ci := 10) (j := 0) (d := 1) (o2 := 89) d_M_sends_25 rfl fl_M_7 rfl (Nat.le_of_ble_eq_true rfl) rfl rfl ?_
      refine z_bipush d_M_sends_28 ⟨by decide, by decide⟩ ?_
      refine z_il d_M_sends_30 rfl rfl (fun v20 => ?_)
      refine z_istore_n (pls' := [some (qR 88), some (qI x1), some (qI x2), some (qI v20), none, none]) d_M_sends_31 (by decide) rfl rfl ?_
      refine z_iload_n d_M_sends_32 rfl ?_
      refine z_cSI (av := [qI v20]) (st := []) (nl := 0) d_M_sends_33 lk_M_114 mk_M_packetAt rfl rfl rfl (s_M_packetAt _ _) (fun q21 _ hq21 => ?_)
      refine z_istore (pls' := [some (qR 88), some (qI x1), some (qI x2), some (qI v20), some (qI q21.1), none]) d_M_sends_36 (by decide) rfl rfl ?_
      refine z_ic0 d_M_sends_38 ?_
      refine z_istore (pls' := [some (qR 88), some (qI x1), some (qI x2), some (qI v20), some (qI q21.1), some (qI 0)]) d_M_sends_39 (by decide) rfl rfl ?_
      refine z_mask [true, true, true, true, true, true] ?_
      exact s_M_sends_41 _ _ _ _ _ _ _
/-! BubbleTorusModel.send -/
theorem d_M_send_0 : decode m_M_send.2.1 0 = .ok (.aload_n 0, 1) := by decide +kernel
theorem d_M_send_1 : decode m_M_send.2.1 1 = .ok (.iload_n 1, 1) := by decide +kernel
theorem d_M_send_2 : decode m_M_send.2.1 2 = .ok (.invokevirtual 92, 3) := by decide +kernel
theorem d_M_send_5 : decode m_M_send.2.1 5 = .ok (.ifCond .eq 25, 3) := by decide +kernel
theorem d_M_send_8 : decode m_M_send.2.1 8 = .ok (.aload_n 0, 1) := by decide +kernel
theorem d_M_send_9 : decode m_M_send.2.1 9 = .ok (.iload_n 2, 1) := by decide +kernel
theorem d_M_send_10 : decode m_M_send.2.1 10 = .ok (.invokevirtual 92, 3) := by decide +kernel
theorem d_M_send_13 : decode m_M_send.2.1 13 = .ok (.ifCond .eq 17, 3) := by decide +kernel
theorem d_M_send_16 : decode m_M_send.2.1 16 = .ok (.iload_n 1, 1) := by decide +kernel
theorem d_M_send_17 : decode m_M_send.2.1 17 = .ok (.iload_n 2, 1) := by decide +kernel
theorem d_M_send_18 : decode m_M_send.2.1 18 = .ok (.if_icmp .eq 12, 3) := by decide +kernel
theorem d_M_send_21 : decode m_M_send.2.1 21 = .ok (.aload_n 0, 1) := by decide +kernel
theorem d_M_send_22 : decode m_M_send.2.1 22 = .ok (.iload_n 1, 1) := by decide +kernel
theorem d_M_send_23 : decode m_M_send.2.1 23 = .ok (.iload_n 2, 1) := by decide +kernel
theorem d_M_send_24 : decode m_M_send.2.1 24 = .ok (.invokevirtual 124, 3) := by decide +kernel
theorem d_M_send_27 : decode m_M_send.2.1 27 = .ok (.goto 4, 3) := by decide +kernel
theorem d_M_send_30 : decode m_M_send.2.1 30 = .ok (.iconst (-1), 1) := by decide +kernel
theorem d_M_send_31 : decode m_M_send.2.1 31 = .ok (.ireturn, 1) := by decide +kernel
def f_M_send (x1 : Int) (x2 : Int) (w : qMem) : Option (Int × qMem) :=
  (f_M_isNode x1 w).bind fun q1 =>
  if q1.1 = 0 then
  some ((-1), q1.2)
  else
  (f_M_isNode x2 q1.2).bind fun q3 =>
  if q3.1 = 0 then
  some ((-1), q3.2)
  else
  if x1 = x2 then
  some ((-1), q3.2)
  else
  (f_M_sends x1 x2 q3.2).bind fun q6 =>
  some (q6.1, q6.2)
set_option maxRecDepth 4000 in
theorem s_M_send (x1 : Int) (x2 : Int) (w : qMem) : qSim κI 100 100 m_M_send 0 [] [some (qR 88), some (qI x1), some (qI x2)] w (f_M_send x1 x2 w) := by
  unfold f_M_send
  refine z_aload_n d_M_send_0 rfl ?_
  refine z_iload_n d_M_send_1 rfl ?_
  refine z_cVI (as := [qI x1]) (st := []) (nl := 0) (ci := 10) d_M_send_2 lk_M_92 mk_M_isNode rfl rfl rfl rfl rfl rfl (s_M_isNode _ _) (fun q1 _ hq1 => ?_)
  refine z_if_eq (tgt := 30) d_M_send_5 rfl (fun c2 => ?_) (fun c2 => ?_)
  · refine z_icm1 d_M_send_30 ?_
    exact z_iret d_M_send_31 rfl rfl
  · refine z_aload_n d_M_send_8 rfl ?_
    refine z_iload_n d_M_send_9 rfl ?_
    refine z_cVI (as := [qI x2]) (st := []) (nl := 0) (ci := 10) d_M_send_10 lk_M_92 mk_M_isNode rfl rfl rfl rfl rfl rfl (s_M_isNode _ _) (fun q3 _ hq3 => ?_)
    refine z_if_eq (tgt := 30) d_M_send_13 rfl (fun c4 => ?_) (fun c4 => ?_)
    · refine z_icm1 d_M_send_30 ?_
      exact z_iret d_M_send_31 rfl rfl
    · refine z_iload_n d_M_send_16 rfl ?_
      refine z_iload_n d_M_send_17 rfl ?_
      refine z_icmp_eq (tgt := 30) d_M_send_18 rfl (fun c5 => ?_) (fun c5 => ?_)
      · refine z_icm1 d_M_send_30 ?_
        exact z_iret d_M_send_31 rfl rfl
      · refine z_aload_n d_M_send_21 rfl ?_
        refine z_iload_n d_M_send_22 rfl ?_
        refine z_iload_n d_M_send_23 rfl ?_
        refine z_cVI (as := [qI x1, qI x2]) (st := []) (nl := 3) (ci := 10) d_M_send_24 lk_M_124 mk_M_sends rfl rfl rfl rfl rfl rfl (s_M_sends _ _ _) (fun q6 _ hq6 => ?_)
        refine z_goto (tgt := 31) d_M_send_27 rfl ?_
        exact z_iret d_M_send_31 rfl rfl
/-! BubbleTorusModel.drawOf -/
theorem d_M_drawOf_0 : decode m_M_drawOf.2.1 0 = .ok (.aload_n 0, 1) := by decide +kernel
theorem d_M_drawOf_1 : decode m_M_drawOf.2.1 1 = .ok (.ldc 127, 2) := by decide +kernel
theorem d_M_drawOf_3 : decode m_M_drawOf.2.1 3 = .ok (.aload_n 0, 1) := by decide +kernel
theorem d_M_drawOf_4 : decode m_M_drawOf.2.1 4 = .ok (.getfield 128, 3) := by decide +kernel
theorem d_M_drawOf_7 : decode m_M_drawOf.2.1 7 = .ok (.imul, 1) := by decide +kernel
theorem d_M_drawOf_8 : decode m_M_drawOf.2.1 8 = .ok (.ldc 132, 2) := by decide +kernel
theorem d_M_drawOf_10 : decode m_M_drawOf.2.1 10 = .ok (.iadd, 1) := by decide +kernel
theorem d_M_drawOf_11 : decode m_M_drawOf.2.1 11 = .ok (.putfield 128, 3) := by decide +kernel
theorem d_M_drawOf_14 : decode m_M_drawOf.2.1 14 = .ok (.aload_n 0, 1) := by decide +kernel
theorem d_M_drawOf_15 : decode m_M_drawOf.2.1 15 = .ok (.getfield 128, 3) := by decide +kernel
theorem d_M_drawOf_18 : decode m_M_drawOf.2.1 18 = .ok (.bipush 8, 2) := by decide +kernel
theorem d_M_drawOf_20 : decode m_M_drawOf.2.1 20 = .ok (.iushr, 1) := by decide +kernel
theorem d_M_drawOf_21 : decode m_M_drawOf.2.1 21 = .ok (.iload_n 1, 1) := by decide +kernel
theorem d_M_drawOf_22 : decode m_M_drawOf.2.1 22 = .ok (.irem, 1) := by decide +kernel
theorem d_M_drawOf_23 : decode m_M_drawOf.2.1 23 = .ok (.ireturn, 1) := by decide +kernel
def f_M_drawOf (x1 : Int) (w : qMem) : Option (Int × qMem) :=
  qlt (qud w 88 2 (w32 ((w32 (1664525 * (w 88 2))) + 1013904223))) fun w1 =>
  qdv x1 <|
  some ((jrem (jushr (w1 88 2) 8) x1), w1)
set_option maxRecDepth 4000 in
theorem s_M_drawOf (x1 : Int) (w : qMem) : qSim κI 100 100 m_M_drawOf 0 [] [some (qR 88), some (qI x1)] w (f_M_drawOf x1 w) := by
  unfold f_M_drawOf
  refine z_aload_n d_M_drawOf_0 rfl ?_
  refine z_ldc (n := 1664525) d_M_drawOf_1 ck_M_127 (by decide) ?_
  refine z_aload_n d_M_drawOf_3 rfl ?_
  refine z_gi (ci := 10) (j := 2) (ji := 2) d_M_drawOf_4 rfl fl_M_128 rfl rfl rfl ?_
  refine z_imul d_M_drawOf_7 ?_
  refine z_ldc (n := 1013904223) d_M_drawOf_8 ck_M_132 (by decide) ?_
  refine z_iadd d_M_drawOf_10 ?_
  refine z_pi (ci := 10) (j := 2) (ji := 2) d_M_drawOf_11 rfl fl_M_128 rfl rfl rfl rfl rfl (fun w1 => ?_)
  refine z_aload_n d_M_drawOf_14 rfl ?_
  refine z_gi (ci := 10) (j := 2) (ji := 2) d_M_drawOf_15 rfl fl_M_128 rfl rfl rfl ?_
  refine z_bipush d_M_drawOf_18 ⟨by decide, by decide⟩ ?_
  refine z_iushr d_M_drawOf_20 ?_
  refine z_iload_n d_M_drawOf_21 rfl ?_
  refine z_irem d_M_drawOf_22 (fun _ => ?_)
  exact z_iret d_M_drawOf_23 rfl rfl
/-! BubbleTorusModel.state -/
theorem d_M_state_0 : decode m_M_state.2.1 0 = .ok (.aload_n 0, 1) := by decide +kernel
theorem d_M_state_1 : decode m_M_state.2.1 1 = .ok (.getfield 128, 3) := by decide +kernel
theorem d_M_state_4 : decode m_M_state.2.1 4 = .ok (.istore_n 2, 1) := by decide +kernel
theorem d_M_state_5 : decode m_M_state.2.1 5 = .ok (.aload_n 0, 1) := by decide +kernel
theorem d_M_state_6 : decode m_M_state.2.1 6 = .ok (.iload_n 1, 1) := by decide +kernel
theorem d_M_state_7 : decode m_M_state.2.1 7 = .ok (.putfield 128, 3) := by decide +kernel
theorem d_M_state_10 : decode m_M_state.2.1 10 = .ok (.iload_n 2, 1) := by decide +kernel
theorem d_M_state_11 : decode m_M_state.2.1 11 = .ok (.ireturn, 1) := by decide +kernel
def f_M_state (x1 : Int) (w : qMem) : Option (Int × qMem) :=
  qlt (qud w 88 2 x1) fun w1 =>
  some ((w 88 2), w1)
set_option maxRecDepth 4000 in
theorem s_M_state (x1 : Int) (w : qMem) : qSim κI 100 100 m_M_state 0 [] [some (qR 88), some (qI x1), none] w (f_M_state x1 w) := by
  unfold f_M_state
  refine z_aload_n d_M_state_0 rfl ?_
  refine z_gi (ci := 10) (j := 2) (ji := 2) d_M_state_1 rfl fl_M_128 rfl rfl rfl ?_
  refine z_istore_n (pls' := [some (qR 88), some (qI x1), some (qI (w 88 2))]) d_M_state_4 (by decide) rfl rfl ?_
  refine z_aload_n d_M_state_5 rfl ?_
  refine z_iload_n d_M_state_6 rfl ?_
  refine z_pi (ci := 10) (j := 2) (ji := 2) d_M_state_7 rfl fl_M_128 rfl rfl rfl rfl rfl (fun w1 => ?_)
  refine z_iload_n d_M_state_10 rfl ?_
  exact z_iret d_M_state_11 rfl rfl
/-! BubbleTorusModel.sendsOrNot -/
theorem d_M_sendsOrNot_0 : decode m_M_sendsOrNot.2.1 0 = .ok (.aload_n 0, 1) := by decide +kernel
theorem d_M_sendsOrNot_1 : decode m_M_sendsOrNot.2.1 1 = .ok (.iload_n 1, 1) := by decide +kernel
theorem d_M_sendsOrNot_2 : decode m_M_sendsOrNot.2.1 2 = .ok (.iload_n 2, 1) := by decide +kernel
theorem d_M_sendsOrNot_3 : decode m_M_sendsOrNot.2.1 3 = .ok (.invokevirtual 124, 3) := by decide +kernel
theorem d_M_sendsOrNot_6 : decode m_M_sendsOrNot.2.1 6 = .ok (.iconst (-1), 1) := by decide +kernel
theorem d_M_sendsOrNot_7 : decode m_M_sendsOrNot.2.1 7 = .ok (.if_icmp .eq 7, 3) := by decide +kernel
theorem d_M_sendsOrNot_10 : decode m_M_sendsOrNot.2.1 10 = .ok (.iconst 1, 1) := by decide +kernel
theorem d_M_sendsOrNot_11 : decode m_M_sendsOrNot.2.1 11 = .ok (.goto 4, 3) := by decide +kernel
theorem d_M_sendsOrNot_14 : decode m_M_sendsOrNot.2.1 14 = .ok (.iconst 0, 1) := by decide +kernel
theorem d_M_sendsOrNot_15 : decode m_M_sendsOrNot.2.1 15 = .ok (.istore_n 3, 1) := by decide +kernel
theorem d_M_sendsOrNot_16 : decode m_M_sendsOrNot.2.1 16 = .ok (.aload_n 0, 1) := by decide +kernel
theorem d_M_sendsOrNot_17 : decode m_M_sendsOrNot.2.1 17 = .ok (.getfield 7, 3) := by decide +kernel
theorem d_M_sendsOrNot_20 : decode m_M_sendsOrNot.2.1 20 = .ok (.bipush 14, 2) := by decide +kernel
theorem d_M_sendsOrNot_22 : decode m_M_sendsOrNot.2.1 22 = .ok (.dup2, 1) := by decide +kernel
theorem d_M_sendsOrNot_23 : decode m_M_sendsOrNot.2.1 23 = .ok (.iaload, 1) := by decide +kernel
theorem d_M_sendsOrNot_24 : decode m_M_sendsOrNot.2.1 24 = .ok (.iload_n 3, 1) := by decide +kernel
theorem d_M_sendsOrNot_25 : decode m_M_sendsOrNot.2.1 25 = .ok (.ifCond .eq 7, 3) := by decide +kernel
theorem d_M_sendsOrNot_28 : decode m_M_sendsOrNot.2.1 28 = .ok (.iconst 0, 1) := by decide +kernel
theorem d_M_sendsOrNot_29 : decode m_M_sendsOrNot.2.1 29 = .ok (.goto 4, 3) := by decide +kernel
theorem d_M_sendsOrNot_32 : decode m_M_sendsOrNot.2.1 32 = .ok (.iconst 1, 1) := by decide +kernel
theorem d_M_sendsOrNot_33 : decode m_M_sendsOrNot.2.1 33 = .ok (.iadd, 1) := by decide +kernel
theorem d_M_sendsOrNot_34 : decode m_M_sendsOrNot.2.1 34 = .ok (.iastore, 1) := by decide +kernel
theorem d_M_sendsOrNot_35 : decode m_M_sendsOrNot.2.1 35 = .ok (.iload_n 3, 1) := by decide +kernel
theorem d_M_sendsOrNot_36 : decode m_M_sendsOrNot.2.1 36 = .ok (.ifCond .eq 7, 3) := by decide +kernel
theorem d_M_sendsOrNot_39 : decode m_M_sendsOrNot.2.1 39 = .ok (.iconst 1, 1) := by decide +kernel
theorem d_M_sendsOrNot_40 : decode m_M_sendsOrNot.2.1 40 = .ok (.goto 4, 3) := by decide +kernel
theorem d_M_sendsOrNot_43 : decode m_M_sendsOrNot.2.1 43 = .ok (.iconst 0, 1) := by decide +kernel
theorem d_M_sendsOrNot_44 : decode m_M_sendsOrNot.2.1 44 = .ok (.ireturn, 1) := by decide +kernel
def f_M_sendsOrNot_33 (s1 s2 s3 x3 : Int) (w : qMem) : Option (Int × qMem) :=
  qst w 89 5898 s1 (w32 (s2 + s3)) fun w1 =>
  if x3 = 0 then
  some (0, w1)
  else
  some (1, w1)
set_option maxRecDepth 4000 in
theorem s_M_sendsOrNot_33  : ∀ (s1 s2 s3 x3 : Int) (w : qMem), (s3 = 0 ∨ s3 = 1) → (x3 = 0 ∨ x3 = 1) → qSim κI 100 100 m_M_sendsOrNot 33 [qI s3, qI s2, qI s1, qR 89] [none, none, none, some (qI x3)] w (f_M_sendsOrNot_33 s1 s2 s3 x3 w) := by
  intro s1 s2 s3 x3 w hs3 hx3
  unfold f_M_sendsOrNot_33
  refine z_iadd d_M_sendsOrNot_33 ?_
  refine z_is d_M_sendsOrNot_34 rfl rfl (fun w1 => ?_)
  refine z_iload_n d_M_sendsOrNot_35 rfl ?_
  refine z_if_eq (tgt := 43) d_M_sendsOrNot_36 rfl (fun c2 => ?_) (fun c2 => ?_)
  · refine z_ic0 d_M_sendsOrNot_43 ?_
    exact z_iret d_M_sendsOrNot_44 rfl rfl
  · refine z_ic1 d_M_sendsOrNot_39 ?_
    refine z_goto (tgt := 44) d_M_sendsOrNot_40 rfl ?_
    exact z_iret d_M_sendsOrNot_44 rfl rfl
def f_M_sendsOrNot_15 (s0 : Int) (w : qMem) : Option (Int × qMem) :=
  qld w 89 5898 14 fun v3 =>
  if s0 = 0 then
  f_M_sendsOrNot_33 14 v3 1 s0 w
  else
  f_M_sendsOrNot_33 14 v3 0 s0 w
set_option maxRecDepth 4000 in
theorem s_M_sendsOrNot_15  : ∀ (s0 : Int) (w : qMem), (s0 = 0 ∨ s0 = 1) → qSim κI 100 100 m_M_sendsOrNot 15 [qI s0] [some (qR 88), none, none, none] w (f_M_sendsOrNot_15 s0 w) := by
  intro s0 w hs0
  unfold f_M_sendsOrNot_15
  refine z_istore_n (pls' := [some (qR 88), none, none, some (qI s0)]) d_M_sendsOrNot_15 (by decide) rfl rfl ?_
  refine z_aload_n d_M_sendsOrNot_16 rfl ?_
  refine z_gr (ci := 10) (j := 0) (d := 1) (o2 := 89) d_M_sendsOrNot_17 rfl fl_M_7 rfl (Nat.le_of_ble_eq_true rfl) rfl rfl ?_
  refine z_bipush d_M_sendsOrNot_20 ⟨by decide, by decide⟩ ?_
  refine z_dup2 d_M_sendsOrNot_22 rfl rfl ?_
  refine z_il d_M_sendsOrNot_23 rfl rfl (fun v3 => ?_)
  refine z_iload_n d_M_sendsOrNot_24 rfl ?_
  refine z_if_eq (tgt := 32) d_M_sendsOrNot_25 rfl (fun c4 => ?_) (fun c4 => ?_)
  · refine z_ic1 d_M_sendsOrNot_32 ?_
    refine z_mask [false, false, false, true] ?_
    exact s_M_sendsOrNot_33 _ _ _ _ _ (Or.inr rfl) hs0
  · refine z_ic0 d_M_sendsOrNot_28 ?_
    refine z_goto (tgt := 33) d_M_sendsOrNot_29 rfl ?_
    refine z_mask [false, false, false, true] ?_
    exact s_M_sendsOrNot_33 _ _ _ _ _ (Or.inl rfl) hs0
def f_M_sendsOrNot (x1 : Int) (x2 : Int) (w : qMem) : Option (Int × qMem) :=
  (f_M_sends x1 x2 w).bind fun q5 =>
  if q5.1 = (-1) then
  f_M_sendsOrNot_15 0 q5.2
  else
  f_M_sendsOrNot_15 1 q5.2
set_option maxRecDepth 4000 in
theorem s_M_sendsOrNot (x1 : Int) (x2 : Int) (w : qMem) : qSim κI 100 100 m_M_sendsOrNot 0 [] [some (qR 88), some (qI x1), some (qI x2), none] w (f_M_sendsOrNot x1 x2 w) := by
  unfold f_M_sendsOrNot
  refine z_aload_n d_M_sendsOrNot_0 rfl ?_
  refine z_iload_n d_M_sendsOrNot_1 rfl ?_
  refine z_iload_n d_M_sendsOrNot_2 rfl ?_
  refine z_cVI (as := [qI x1, qI x2]) (st := []) (nl := 3) (ci := 10) d_M_sendsOrNot_3 lk_M_124 mk_M_sends rfl rfl rfl rfl rfl rfl (s_M_sends _ _ _) (fun q5 _ hq5 => ?_)
  refine z_icm1 d_M_sendsOrNot_6 ?_
  refine z_icmp_eq (tgt := 14) d_M_sendsOrNot_7 rfl (fun c6 => ?_) (fun c6 => ?_)
  · refine z_ic0 d_M_sendsOrNot_14 ?_
    refine z_mask [true, false, false, false] ?_
    exact s_M_sendsOrNot_15 _ _ (Or.inl rfl)
  · refine z_ic1 d_M_sendsOrNot_10 ?_
    refine z_goto (tgt := 15) d_M_sendsOrNot_11 rfl ?_
    refine z_mask [true, false, false, false] ?_
    exact s_M_sendsOrNot_15 _ _ (Or.inr rfl)
/-! BubbleTorusModel.shower -/
theorem d_M_shower_0 : decode m_M_shower.2.1 0 = .ok (.iload_n 1, 1) := by decide +kernel
theorem d_M_shower_1 : decode m_M_shower.2.1 1 = .ok (.iconst 1, 1) := by decide +kernel
theorem d_M_shower_2 : decode m_M_shower.2.1 2 = .ok (.bipush 60, 2) := by decide +kernel
theorem d_M_shower_4 : decode m_M_shower.2.1 4 = .ok (.invokestatic 68, 3) := by decide +kernel
theorem d_M_shower_7 : decode m_M_shower.2.1 7 = .ok (.ifCond .ne 5, 3) := by decide +kernel
theorem d_M_shower_10 : decode m_M_shower.2.1 10 = .ok (.iconst (-1), 1) := by decide +kernel
theorem d_M_shower_11 : decode m_M_shower.2.1 11 = .ok (.ireturn, 1) := by decide +kernel
theorem d_M_shower_12 : decode m_M_shower.2.1 12 = .ok (.iconst 0, 1) := by decide +kernel
theorem d_M_shower_13 : decode m_M_shower.2.1 13 = .ok (.istore_n 2, 1) := by decide +kernel
theorem d_M_shower_14 : decode m_M_shower.2.1 14 = .ok (.iconst 0, 1) := by decide +kernel
theorem d_M_shower_15 : decode m_M_shower.2.1 15 = .ok (.istore_n 3, 1) := by decide +kernel
theorem d_M_shower_16 : decode m_M_shower.2.1 16 = .ok (.iload_n 3, 1) := by decide +kernel
theorem d_M_shower_17 : decode m_M_shower.2.1 17 = .ok (.iload_n 1, 1) := by decide +kernel
theorem d_M_shower_18 : decode m_M_shower.2.1 18 = .ok (.if_icmp .ge 56, 3) := by decide +kernel
theorem d_M_shower_21 : decode m_M_shower.2.1 21 = .ok (.aload_n 0, 1) := by decide +kernel
theorem d_M_shower_22 : decode m_M_shower.2.1 22 = .ok (.aload_n 0, 1) := by decide +kernel
theorem d_M_shower_23 : decode m_M_shower.2.1 23 = .ok (.invokevirtual 72, 3) := by decide +kernel
theorem d_M_shower_26 : decode m_M_shower.2.1 26 = .ok (.invokevirtual 133, 3) := by decide +kernel
theorem d_M_shower_29 : decode m_M_shower.2.1 29 = .ok (.istore 4, 2) := by decide +kernel
theorem d_M_shower_31 : decode m_M_shower.2.1 31 = .ok (.aload_n 0, 1) := by decide +kernel
theorem d_M_shower_32 : decode m_M_shower.2.1 32 = .ok (.aload_n 0, 1) := by decide +kernel
theorem d_M_shower_33 : decode m_M_shower.2.1 33 = .ok (.invokevirtual 72, 3) := by decide +kernel
theorem d_M_shower_36 : decode m_M_shower.2.1 36 = .ok (.iconst 1, 1) := by decide +kernel
theorem d_M_shower_37 : decode m_M_shower.2.1 37 = .ok (.isub, 1) := by decide +kernel
theorem d_M_shower_38 : decode m_M_shower.2.1 38 = .ok (.invokevirtual 133, 3) := by decide +kernel
theorem d_M_shower_41 : decode m_M_shower.2.1 41 = .ok (.istore 5, 2) := by decide +kernel
theorem d_M_shower_43 : decode m_M_shower.2.1 43 = .ok (.iload_n 2, 1) := by decide +kernel
theorem d_M_shower_44 : decode m_M_shower.2.1 44 = .ok (.aload_n 0, 1) := by decide +kernel
theorem d_M_shower_45 : decode m_M_shower.2.1 45 = .ok (.iload 4, 2) := by decide +kernel
theorem d_M_shower_47 : decode m_M_shower.2.1 47 = .ok (.iload 5, 2) := by decide +kernel
theorem d_M_shower_49 : decode m_M_shower.2.1 49 = .ok (.iload 4, 2) := by decide +kernel
theorem d_M_shower_51 : decode m_M_shower.2.1 51 = .ok (.if_icmp .lt 10, 3) := by decide +kernel
theorem d_M_shower_54 : decode m_M_shower.2.1 54 = .ok (.iload 5, 2) := by decide +kernel
theorem d_M_shower_56 : decode m_M_shower.2.1 56 = .ok (.iconst 1, 1) := by decide +kernel
theorem d_M_shower_57 : decode m_M_shower.2.1 57 = .ok (.iadd, 1) := by decide +kernel
theorem d_M_shower_58 : decode m_M_shower.2.1 58 = .ok (.goto 5, 3) := by decide +kernel
theorem d_M_shower_61 : decode m_M_shower.2.1 61 = .ok (.iload 5, 2) := by decide +kernel
theorem d_M_shower_63 : decode m_M_shower.2.1 63 = .ok (.invokevirtual 136, 3) := by decide +kernel
theorem d_M_shower_66 : decode m_M_shower.2.1 66 = .ok (.iadd, 1) := by decide +kernel
theorem d_M_shower_67 : decode m_M_shower.2.1 67 = .ok (.istore_n 2, 1) := by decide +kernel
theorem d_M_shower_68 : decode m_M_shower.2.1 68 = .ok (.iinc 3 1, 3) := by decide +kernel
theorem d_M_shower_71 : decode m_M_shower.2.1 71 = .ok (.goto (-55), 3) := by decide +kernel
theorem d_M_shower_74 : decode m_M_shower.2.1 74 = .ok (.iload_n 2, 1) := by decide +kernel
theorem d_M_shower_75 : decode m_M_shower.2.1 75 = .ok (.ireturn, 1) := by decide +kernel
def f_M_shower_63 (r16 : Int → Int → Int → qMem → Option (Int × qMem)) (s0 s2 s3 x1 x3 : Int) (w : qMem) : Option (Int × qMem) :=
  (f_M_sendsOrNot s2 s3 w).bind fun q1 =>
  r16 x1 (w32 (s0 + q1.1)) (w32 (x3 + 1)) q1.2
set_option maxRecDepth 4000 in
theorem s_M_shower_63  {r16 : Int → Int → Int → qMem → Option (Int × qMem)} (hr16 : ∀ x1 x2 x3 w, qSim κI 100 100 m_M_shower 16 [] [some (qR 88), some (qI x1), some (qI x2), some (qI x3), none, none] w (r16 x1 x2 x3 w)) : ∀ (s0 s2 s3 x1 x3 : Int) (w : qMem), qSim κI 100 100 m_M_shower 63 [qI s3, qI s2, qR 88, qI s0] [some (qR 88), some (qI x1), none, some (qI x3), none, none] w (f_M_shower_63 r16 s0 s2 s3 x1 x3 w) := by
  intro s0 s2 s3 x1 x3 w
  unfold f_M_shower_63
  refine z_cVI (as := [qI s2, qI s3]) (st := [qI s0]) (nl := 1) (ci := 10) d_M_shower_63 lk_M_136 mk_M_sendsOrNot rfl rfl rfl rfl rfl rfl (s_M_sendsOrNot _ _ _) (fun q1 _ hq1 => ?_)
  refine z_iadd d_M_shower_66 ?_
  refine z_istore_n (pls' := [some (qR 88), some (qI x1), some (qI (w32 (s0 + q1.1))), some (qI x3), none, none]) d_M_shower_67 (by decide) rfl rfl ?_
  refine z_iinc (pls' := [some (qR 88), some (qI x1), some (qI (w32 (s0 + q1.1))), some (qI (w32 (x3 + 1))), none, none]) d_M_shower_68 (by decide) rfl rfl rfl ?_
  refine z_goto (tgt := 16) d_M_shower_71 rfl ?_
  refine z_mask [true, true, true, true, false, false] ?_
  exact hr16 _ _ _ _
def f_M_shower_16 : Nat → Int → Int → Int → qMem → Option (Int × qMem)
  | 0, _, _, _, _ => none
  | n + 1, x1, x2, x3, w =>
    if x3 < x1 then
    (f_M_nodes w).bind fun q3 =>
    (f_M_drawOf q3.1 q3.2).bind fun q4 =>
    (f_M_nodes q4.2).bind fun q5 =>
    (f_M_drawOf (w32 (q5.1 - 1)) q5.2).bind fun q6 =>
    if q6.1 < q4.1 then
    f_M_shower_63 (f_M_shower_16 n) x2 q4.1 q6.1 x1 x3 q6.2
    else
    f_M_shower_63 (f_M_shower_16 n) x2 q4.1 (w32 (q6.1 + 1)) x1 x3 q6.2
    else
    some (x2, w)
set_option maxRecDepth 4000 in
theorem s_M_shower_16  : ∀ (n : Nat), ∀ (x1 x2 x3 : Int) (w : qMem), qSim κI 100 100 m_M_shower 16 [] [some (qR 88), some (qI x1), some (qI x2), some (qI x3), none, none] w (f_M_shower_16 n x1 x2 x3 w) := by
  intro n
  induction n with
  | zero => intro x1 x2 x3 w; exact z_none
  | succ n ih =>
    intro x1 x2 x3 w
    rw [f_M_shower_16]
    refine z_iload_n d_M_shower_16 rfl ?_
    refine z_iload_n d_M_shower_17 rfl ?_
    refine z_icmp_ge (tgt := 74) d_M_shower_18 rfl (fun c2 => ?_) (fun c2 => ?_)
    · refine z_aload_n d_M_shower_21 rfl ?_
      refine z_aload_n d_M_shower_22 rfl ?_
      refine z_cVI (as := []) (st := [qR 88]) (nl := 0) (ci := 10) d_M_shower_23 lk_M_72 mk_M_nodes rfl rfl rfl rfl rfl rfl (s_M_nodes _) (fun q3 _ hq3 => ?_)
      refine z_cVI (as := [qI q3.1]) (st := []) (nl := 0) (ci := 10) d_M_shower_26 lk_M_133 mk_M_drawOf rfl rfl rfl rfl rfl rfl (s_M_drawOf _ _) (fun q4 _ hq4 => ?_)
      refine z_istore (pls' := [some (qR 88), some (qI x1), some (qI x2), some (qI x3), some (qI q4.1), none]) d_M_shower_29 (by decide) rfl rfl ?_
      refine z_aload_n d_M_shower_31 rfl ?_
      refine z_aload_n d_M_shower_32 rfl ?_
      refine z_cVI (as := []) (st := [qR 88]) (nl := 0) (ci := 10) d_M_shower_33 lk_M_72 mk_M_nodes rfl rfl rfl rfl rfl rfl (s_M_nodes _) (fun q5 _ hq5 => ?_)
      refine z_ic1 d_M_shower_36 ?_
      refine z_isub d_M_shower_37 ?_
      refine z_cVI (as := [qI (w32 (q5.1 - 1))]) (st := []) (nl := 0) (ci := 10) d_M_shower_38 lk_M_133 mk_M_drawOf rfl rfl rfl rfl rfl rfl (s_M_drawOf _ _) (fun q6 _ hq6 => ?_)
      refine z_istore (pls' := [some (qR 88), some (qI x1), some (qI x2), some (qI x3), some (qI q4.1), some (qI q6.1)]) d_M_shower_41 (by decide) rfl rfl ?_
      refine z_iload_n d_M_shower_43 rfl ?_
      refine z_aload_n d_M_shower_44 rfl ?_
      refine z_iload d_M_shower_45 rfl ?_
      refine z_iload d_M_shower_47 rfl ?_
      refine z_iload d_M_shower_49 rfl ?_
      refine z_icmp_lt (tgt := 61) d_M_shower_51 rfl (fun c7 => ?_) (fun c7 => ?_)
      · refine z_iload d_M_shower_61 rfl ?_
        refine z_mask [true, true, false, true, false, false] ?_
        exact s_M_shower_63 ih _ _ _ _ _ _
      · refine z_iload d_M_shower_54 rfl ?_
        refine z_ic1 d_M_shower_56 ?_
        refine z_iadd d_M_shower_57 ?_
        refine z_goto (tgt := 63) d_M_shower_58 rfl ?_
        refine z_mask [true, true, false, true, false, false] ?_
        exact s_M_shower_63 ih _ _ _ _ _ _
    · refine z_iload_n d_M_shower_74 rfl ?_
      exact z_iret d_M_shower_75 rfl rfl
def f_M_shower (x1 : Int) (w : qMem) : Option (Int × qMem) :=
  (f_M_isIn x1 1 60 w).bind fun q8 =>
  if q8.1 = 0 then
  some ((-1), q8.2)
  else
  f_M_shower_16 qFU x1 0 0 q8.2
set_option maxRecDepth 4000 in
theorem s_M_shower (x1 : Int) (w : qMem) : qSim κI 100 100 m_M_shower 0 [] [some (qR 88), some (qI x1), none, none, none, none] w (f_M_shower x1 w) := by
  unfold f_M_shower
  refine z_iload_n d_M_shower_0 rfl ?_
  refine z_ic1 d_M_shower_1 ?_
  refine z_bipush d_M_shower_2 ⟨by decide, by decide⟩ ?_
  refine z_cSI (av := [qI x1, qI 1, qI 60]) (st := []) (nl := 0) d_M_shower_4 lk_M_68 mk_M_isIn rfl rfl rfl (s_M_isIn _ _ _ _) (fun q8 _ hq8 => ?_)
  refine z_if_ne (tgt := 12) d_M_shower_7 rfl (fun c9 => ?_) (fun c9 => ?_)
  · refine z_icm1 d_M_shower_10 ?_
    exact z_iret d_M_shower_11 rfl rfl
  · refine z_ic0 d_M_shower_12 ?_
    refine z_istore_n (pls' := [some (qR 88), some (qI x1), some (qI 0), none, none, none]) d_M_shower_13 (by decide) rfl rfl ?_
    refine z_ic0 d_M_shower_14 ?_
    refine z_istore_n (pls' := [some (qR 88), some (qI x1), some (qI 0), some (qI 0), none, none]) d_M_shower_15 (by decide) rfl rfl ?_
    refine z_mask [true, true, true, true, false, false] ?_
    exact s_M_shower_16 _ _ _ _ _
/-! BubbleTorusModel.patternTo -/
theorem d_M_patternTo_0 : decode m_M_patternTo.2.1 0 = .ok (.iload_n 3, 1) := by decide +kernel
theorem d_M_patternTo_1 : decode m_M_patternTo.2.1 1 = .ok (.aload_n 0, 1) := by decide +kernel
theorem d_M_patternTo_2 : decode m_M_patternTo.2.1 2 = .ok (.getfield 7, 3) := by decide +kernel
theorem d_M_patternTo_5 : decode m_M_patternTo.2.1 5 = .ok (.iconst 0, 1) := by decide +kernel
theorem d_M_patternTo_6 : decode m_M_patternTo.2.1 6 = .ok (.iaload, 1) := by decide +kernel
theorem d_M_patternTo_7 : decode m_M_patternTo.2.1 7 = .ok (.irem, 1) := by decide +kernel
theorem d_M_patternTo_8 : decode m_M_patternTo.2.1 8 = .ok (.istore 4, 2) := by decide +kernel
theorem d_M_patternTo_10 : decode m_M_patternTo.2.1 10 = .ok (.iload_n 3, 1) := by decide +kernel
theorem d_M_patternTo_11 : decode m_M_patternTo.2.1 11 = .ok (.aload_n 0, 1) := by decide +kernel
theorem d_M_patternTo_12 : decode m_M_patternTo.2.1 12 = .ok (.getfield 7, 3) := by decide +kernel
theorem d_M_patternTo_15 : decode m_M_patternTo.2.1 15 = .ok (.iconst 0, 1) := by decide +kernel
theorem d_M_patternTo_16 : decode m_M_patternTo.2.1 16 = .ok (.iaload, 1) := by decide +kernel
theorem d_M_patternTo_17 : decode m_M_patternTo.2.1 17 = .ok (.idiv, 1) := by decide +kernel
theorem d_M_patternTo_18 : decode m_M_patternTo.2.1 18 = .ok (.istore 5, 2) := by decide +kernel
theorem d_M_patternTo_20 : decode m_M_patternTo.2.1 20 = .ok (.iload_n 1, 1) := by decide +kernel
theorem d_M_patternTo_21 : decode m_M_patternTo.2.1 21 = .ok (.tableswitch 119 0 3 #[31, 76, 85, 112], 31) := by decide +kernel
theorem d_M_patternTo_52 : decode m_M_patternTo.2.1 52 = .ok (.aload_n 0, 1) := by decide +kernel
theorem d_M_patternTo_53 : decode m_M_patternTo.2.1 53 = .ok (.getfield 7, 3) := by decide +kernel
theorem d_M_patternTo_56 : decode m_M_patternTo.2.1 56 = .ok (.iconst 0, 1) := by decide +kernel
theorem d_M_patternTo_57 : decode m_M_patternTo.2.1 57 = .ok (.iaload, 1) := by decide +kernel
theorem d_M_patternTo_58 : decode m_M_patternTo.2.1 58 = .ok (.iload 5, 2) := by decide +kernel
theorem d_M_patternTo_60 : decode m_M_patternTo.2.1 60 = .ok (.aload_n 0, 1) := by decide +kernel
theorem d_M_patternTo_61 : decode m_M_patternTo.2.1 61 = .ok (.getfield 7, 3) := by decide +kernel
theorem d_M_patternTo_64 : decode m_M_patternTo.2.1 64 = .ok (.iconst 1, 1) := by decide +kernel
theorem d_M_patternTo_65 : decode m_M_patternTo.2.1 65 = .ok (.iaload, 1) := by decide +kernel
theorem d_M_patternTo_66 : decode m_M_patternTo.2.1 66 = .ok (.iconst 2, 1) := by decide +kernel
theorem d_M_patternTo_67 : decode m_M_patternTo.2.1 67 = .ok (.idiv, 1) := by decide +kernel
theorem d_M_patternTo_68 : decode m_M_patternTo.2.1 68 = .ok (.iadd, 1) := by decide +kernel
theorem d_M_patternTo_69 : decode m_M_patternTo.2.1 69 = .ok (.aload_n 0, 1) := by decide +kernel
theorem d_M_patternTo_70 : decode m_M_patternTo.2.1 70 = .ok (.getfield 7, 3) := by decide +kernel
theorem d_M_patternTo_73 : decode m_M_patternTo.2.1 73 = .ok (.iconst 1, 1) := by decide +kernel
theorem d_M_patternTo_74 : decode m_M_patternTo.2.1 74 = .ok (.iaload, 1) := by decide +kernel
theorem d_M_patternTo_75 : decode m_M_patternTo.2.1 75 = .ok (.irem, 1) := by decide +kernel
theorem d_M_patternTo_76 : decode m_M_patternTo.2.1 76 = .ok (.imul, 1) := by decide +kernel
theorem d_M_patternTo_77 : decode m_M_patternTo.2.1 77 = .ok (.iload 4, 2) := by decide +kernel
theorem d_M_patternTo_79 : decode m_M_patternTo.2.1 79 = .ok (.aload_n 0, 1) := by decide +kernel
theorem d_M_patternTo_80 : decode m_M_patternTo.2.1 80 = .ok (.getfield 7, 3) := by decide +kernel
theorem d_M_patternTo_83 : decode m_M_patternTo.2.1 83 = .ok (.iconst 0, 1) := by decide +kernel
theorem d_M_patternTo_84 : decode m_M_patternTo.2.1 84 = .ok (.iaload, 1) := by decide +kernel
theorem d_M_patternTo_85 : decode m_M_patternTo.2.1 85 = .ok (.iconst 2, 1) := by decide +kernel
theorem d_M_patternTo_86 : decode m_M_patternTo.2.1 86 = .ok (.idiv, 1) := by decide +kernel
theorem d_M_patternTo_87 : decode m_M_patternTo.2.1 87 = .ok (.iadd, 1) := by decide +kernel
theorem d_M_patternTo_88 : decode m_M_patternTo.2.1 88 = .ok (.aload_n 0, 1) := by decide +kernel
theorem d_M_patternTo_89 : decode m_M_patternTo.2.1 89 = .ok (.getfield 7, 3) := by decide +kernel
theorem d_M_patternTo_92 : decode m_M_patternTo.2.1 92 = .ok (.iconst 0, 1) := by decide +kernel
theorem d_M_patternTo_93 : decode m_M_patternTo.2.1 93 = .ok (.iaload, 1) := by decide +kernel
theorem d_M_patternTo_94 : decode m_M_patternTo.2.1 94 = .ok (.irem, 1) := by decide +kernel
theorem d_M_patternTo_95 : decode m_M_patternTo.2.1 95 = .ok (.iadd, 1) := by decide +kernel
theorem d_M_patternTo_96 : decode m_M_patternTo.2.1 96 = .ok (.ireturn, 1) := by decide +kernel
theorem d_M_patternTo_97 : decode m_M_patternTo.2.1 97 = .ok (.aload_n 0, 1) := by decide +kernel
theorem d_M_patternTo_98 : decode m_M_patternTo.2.1 98 = .ok (.invokevirtual 72, 3) := by decide +kernel
theorem d_M_patternTo_101 : decode m_M_patternTo.2.1 101 = .ok (.iconst 1, 1) := by decide +kernel
theorem d_M_patternTo_102 : decode m_M_patternTo.2.1 102 = .ok (.isub, 1) := by decide +kernel
theorem d_M_patternTo_103 : decode m_M_patternTo.2.1 103 = .ok (.iload_n 3, 1) := by decide +kernel
theorem d_M_patternTo_104 : decode m_M_patternTo.2.1 104 = .ok (.isub, 1) := by decide +kernel
theorem d_M_patternTo_105 : decode m_M_patternTo.2.1 105 = .ok (.ireturn, 1) := by decide +kernel
theorem d_M_patternTo_106 : decode m_M_patternTo.2.1 106 = .ok (.aload_n 0, 1) := by decide +kernel
theorem d_M_patternTo_107 : decode m_M_patternTo.2.1 107 = .ok (.getfield 7, 3) := by decide +kernel
theorem d_M_patternTo_110 : decode m_M_patternTo.2.1 110 = .ok (.iconst 0, 1) := by decide +kernel
theorem d_M_patternTo_111 : decode m_M_patternTo.2.1 111 = .ok (.iaload, 1) := by decide +kernel
theorem d_M_patternTo_112 : decode m_M_patternTo.2.1 112 = .ok (.iload 4, 2) := by decide +kernel
theorem d_M_patternTo_114 : decode m_M_patternTo.2.1 114 = .ok (.aload_n 0, 1) := by decide +kernel
theorem d_M_patternTo_115 : decode m_M_patternTo.2.1 115 = .ok (.getfield 7, 3) := by decide +kernel
theorem d_M_patternTo_118 : decode m_M_patternTo.2.1 118 = .ok (.iconst 1, 1) := by decide +kernel
theorem d_M_patternTo_119 : decode m_M_patternTo.2.1 119 = .ok (.iaload, 1) := by decide +kernel
theorem d_M_patternTo_120 : decode m_M_patternTo.2.1 120 = .ok (.irem, 1) := by decide +kernel
theorem d_M_patternTo_121 : decode m_M_patternTo.2.1 121 = .ok (.imul, 1) := by decide +kernel
theorem d_M_patternTo_122 : decode m_M_patternTo.2.1 122 = .ok (.iload 5, 2) := by decide +kernel
theorem d_M_patternTo_124 : decode m_M_patternTo.2.1 124 = .ok (.aload_n 0, 1) := by decide +kernel
theorem d_M_patternTo_125 : decode m_M_patternTo.2.1 125 = .ok (.getfield 7, 3) := by decide +kernel
theorem d_M_patternTo_128 : decode m_M_patternTo.2.1 128 = .ok (.iconst 0, 1) := by decide +kernel
theorem d_M_patternTo_129 : decode m_M_patternTo.2.1 129 = .ok (.iaload, 1) := by decide +kernel
theorem d_M_patternTo_130 : decode m_M_patternTo.2.1 130 = .ok (.irem, 1) := by decide +kernel
theorem d_M_patternTo_131 : decode m_M_patternTo.2.1 131 = .ok (.iadd, 1) := by decide +kernel
theorem d_M_patternTo_132 : decode m_M_patternTo.2.1 132 = .ok (.ireturn, 1) := by decide +kernel
theorem d_M_patternTo_133 : decode m_M_patternTo.2.1 133 = .ok (.aload_n 0, 1) := by decide +kernel
theorem d_M_patternTo_134 : decode m_M_patternTo.2.1 134 = .ok (.iload_n 3, 1) := by decide +kernel
theorem d_M_patternTo_135 : decode m_M_patternTo.2.1 135 = .ok (.iconst 0, 1) := by decide +kernel
theorem d_M_patternTo_136 : decode m_M_patternTo.2.1 136 = .ok (.invokevirtual 79, 3) := by decide +kernel
theorem d_M_patternTo_139 : decode m_M_patternTo.2.1 139 = .ok (.ireturn, 1) := by decide +kernel
theorem d_M_patternTo_140 : decode m_M_patternTo.2.1 140 = .ok (.iload_n 2, 1) := by decide +kernel
theorem d_M_patternTo_141 : decode m_M_patternTo.2.1 141 = .ok (.ireturn, 1) := by decide +kernel
def f_M_patternTo (x1 : Int) (x2 : Int) (x3 : Int) (w : qMem) : Option (Int × qMem) :=
  qld w 89 5898 0 fun v1 =>
  qdv v1 <|
  qld w 89 5898 0 fun v2 =>
  qdv v2 <|
  if x1 = 0 then
  qld w 89 5898 0 fun v4 =>
  qld w 89 5898 1 fun v5 =>
  qdv 2 <|
  qld w 89 5898 1 fun v6 =>
  qdv v6 <|
  qld w 89 5898 0 fun v7 =>
  qdv 2 <|
  qld w 89 5898 0 fun v8 =>
  qdv v8 <|
  some ((w32 ((w32 (v4 * (jrem (w32 ((jdiv x3 v2) + (jdiv v5 2))) v6))) + (jrem (w32 ((jrem x3 v1) + (jdiv v7 2))) v8))), w)
  else
  if x1 = 1 then
  (f_M_nodes w).bind fun q10 =>
  some ((w32 ((w32 (q10.1 - 1)) - x3)), q10.2)
  else
  if x1 = 2 then
  qld w 89 5898 0 fun v12 =>
  qld w 89 5898 1 fun v13 =>
  qdv v13 <|
  qld w 89 5898 0 fun v14 =>
  qdv v14 <|
  some ((w32 ((w32 (v12 * (jrem (jrem x3 v1) v13))) + (jrem (jdiv x3 v2) v14))), w)
  else
  if x1 = 3 then
  (f_M_nextOf x3 0 w).bind fun q16 =>
  some (q16.1, q16.2)
  else
  some (x2, w)
set_option maxRecDepth 4000 in
theorem s_M_patternTo (x1 : Int) (x2 : Int) (x3 : Int) (w : qMem) : qSim κI 100 100 m_M_patternTo 0 [] [some (qR 88), some (qI x1), some (qI x2), some (qI x3), none, none] w (f_M_patternTo x1 x2 x3 w) := by
  unfold f_M_patternTo
  refine z_iload_n d_M_patternTo_0 rfl ?_
  refine z_aload_n d_M_patternTo_1 rfl ?_
  refine z_gr (ci := 10) (j := 0) (d := 1) (o2 := 89) d_M_patternTo_2 rfl fl_M_7 rfl (Nat.le_of_ble_eq_true rfl) rfl rfl ?_
  refine z_ic0 d_M_patternTo_5 ?_
  refine z_il d_M_patternTo_6 rfl rfl (fun v1 => ?_)
  refine z_irem d_M_patternTo_7 (fun _ => ?_)
  refine z_istore (pls' := [some (qR 88), some (qI x1), some (qI x2), some (qI x3), some (qI (jrem x3 v1)), none]) d_M_patternTo_8 (by decide) rfl rfl ?_
  refine z_iload_n d_M_patternTo_10 rfl ?_
  refine z_aload_n d_M_patternTo_11 rfl ?_
  refine z_gr (ci := 10) (j := 0) (d := 1) (o2 := 89) d_M_patternTo_12 rfl fl_M_7 rfl (Nat.le_of_ble_eq_true rfl) rfl rfl ?_
  refine z_ic0 d_M_patternTo_15 ?_
  refine z_il d_M_patternTo_16 rfl rfl (fun v2 => ?_)
  refine z_idiv d_M_patternTo_17 (fun _ => ?_)
  refine z_istore (pls' := [some (qR 88), some (qI x1), some (qI x2), some (qI x3), some (qI (jrem x3 v1)), some (qI (jdiv x3 v2))]) d_M_patternTo_18 (by decide) rfl rfl ?_
  refine z_iload_n d_M_patternTo_20 rfl ?_
  refine z_if (fun c3 => ?_) (fun c3 => ?_)
  · refine z_tabIn (tgt := 52) (v := 0) d_M_patternTo_21 c3 (by decide) (by decide) rfl rfl ?_
    refine z_aload_n d_M_patternTo_52 rfl ?_
    refine z_gr (ci := 10) (j := 0) (d := 1) (o2 := 89) d_M_patternTo_53 rfl fl_M_7 rfl (Nat.le_of_ble_eq_true rfl) rfl rfl ?_
    refine z_ic0 d_M_patternTo_56 ?_
    refine z_il d_M_patternTo_57 rfl rfl (fun v4 => ?_)
    refine z_iload d_M_patternTo_58 rfl ?_
    refine z_aload_n d_M_patternTo_60 rfl ?_
    refine z_gr (ci := 10) (j := 0) (d := 1) (o2 := 89) d_M_patternTo_61 rfl fl_M_7 rfl (Nat.le_of_ble_eq_true rfl) rfl rfl ?_
    refine z_ic1 d_M_patternTo_64 ?_
    refine z_il d_M_patternTo_65 rfl rfl (fun v5 => ?_)
    refine z_ic2 d_M_patternTo_66 ?_
    refine z_idiv d_M_patternTo_67 (fun _ => ?_)
    refine z_iadd d_M_patternTo_68 ?_
    refine z_aload_n d_M_patternTo_69 rfl ?_
    refine z_gr (ci := 10) (j := 0) (d := 1) (o2 := 89) d_M_patternTo_70 rfl fl_M_7 rfl (Nat.le_of_ble_eq_true rfl) rfl rfl ?_
    refine z_ic1 d_M_patternTo_73 ?_
    refine z_il d_M_patternTo_74 rfl rfl (fun v6 => ?_)
    refine z_irem d_M_patternTo_75 (fun _ => ?_)
    refine z_imul d_M_patternTo_76 ?_
    refine z_iload d_M_patternTo_77 rfl ?_
    refine z_aload_n d_M_patternTo_79 rfl ?_
    refine z_gr (ci := 10) (j := 0) (d := 1) (o2 := 89) d_M_patternTo_80 rfl fl_M_7 rfl (Nat.le_of_ble_eq_true rfl) rfl rfl ?_
    refine z_ic0 d_M_patternTo_83 ?_
    refine z_il d_M_patternTo_84 rfl rfl (fun v7 => ?_)
    refine z_ic2 d_M_patternTo_85 ?_
    refine z_idiv d_M_patternTo_86 (fun _ => ?_)
    refine z_iadd d_M_patternTo_87 ?_
    refine z_aload_n d_M_patternTo_88 rfl ?_
    refine z_gr (ci := 10) (j := 0) (d := 1) (o2 := 89) d_M_patternTo_89 rfl fl_M_7 rfl (Nat.le_of_ble_eq_true rfl) rfl rfl ?_
    refine z_ic0 d_M_patternTo_92 ?_
    refine z_il d_M_patternTo_93 rfl rfl (fun v8 => ?_)
    refine z_irem d_M_patternTo_94 (fun _ => ?_)
    refine z_iadd d_M_patternTo_95 ?_
    exact z_iret d_M_patternTo_96 rfl rfl
  · refine z_if (fun c9 => ?_) (fun c9 => ?_)
    · refine z_tabIn (tgt := 97) (v := 1) d_M_patternTo_21 c9 (by decide) (by decide) rfl rfl ?_
      refine z_aload_n d_M_patternTo_97 rfl ?_
      refine z_cVI (as := []) (st := []) (nl := 0) (ci := 10) d_M_patternTo_98 lk_M_72 mk_M_nodes rfl rfl rfl rfl rfl rfl (s_M_nodes _) (fun q10 _ hq10 => ?_)
      refine z_ic1 d_M_patternTo_101 ?_
      refine z_isub d_M_patternTo_102 ?_
      refine z_iload_n d_M_patternTo_103 rfl ?_
      refine z_isub d_M_patternTo_104 ?_
      exact z_iret d_M_patternTo_105 rfl rfl
    · refine z_if (fun c11 => ?_) (fun c11 => ?_)
      · refine z_tabIn (tgt := 106) (v := 2) d_M_patternTo_21 c11 (by decide) (by decide) rfl rfl ?_
        refine z_aload_n d_M_patternTo_106 rfl ?_
        refine z_gr (ci := 10) (j := 0) (d := 1) (o2 := 89) d_M_patternTo_107 rfl fl_M_7 rfl (Nat.le_of_ble_eq_true rfl) rfl rfl ?_
        refine z_ic0 d_M_patternTo_110 ?_
        refine z_il d_M_patternTo_111 rfl rfl (fun v12 => ?_)
        refine z_iload d_M_patternTo_112 rfl ?_
        refine z_aload_n d_M_patternTo_114 rfl ?_
        refine z_gr (ci := 10) (j := 0) (d := 1) (o2 := 89) d_M_patternTo_115 rfl fl_M_7 rfl (Nat.le_of_ble_eq_true rfl) rfl rfl ?_
        refine z_ic1 d_M_patternTo_118 ?_
        refine z_il d_M_patternTo_119 rfl rfl (fun v13 => ?_)
        refine z_irem d_M_patternTo_120 (fun _ => ?_)
        refine z_imul d_M_patternTo_121 ?_
        refine z_iload d_M_patternTo_122 rfl ?_
        refine z_aload_n d_M_patternTo_124 rfl ?_
        refine z_gr (ci := 10) (j := 0) (d := 1) (o2 := 89) d_M_patternTo_125 rfl fl_M_7 rfl (Nat.le_of_ble_eq_true rfl) rfl rfl ?_
        refine z_ic0 d_M_patternTo_128 ?_
        refine z_il d_M_patternTo_129 rfl rfl (fun v14 => ?_)
        refine z_irem d_M_patternTo_130 (fun _ => ?_)
        refine z_iadd d_M_patternTo_131 ?_
        exact z_iret d_M_patternTo_132 rfl rfl
      · refine z_if (fun c15 => ?_) (fun c15 => ?_)
        · refine z_tabIn (tgt := 133) (v := 3) d_M_patternTo_21 c15 (by decide) (by decide) rfl rfl ?_
          refine z_aload_n d_M_patternTo_133 rfl ?_
          refine z_iload_n d_M_patternTo_134 rfl ?_
          refine z_ic0 d_M_patternTo_135 ?_
          refine z_cVI (as := [qI x3, qI 0]) (st := []) (nl := 2) (ci := 10) d_M_patternTo_136 lk_M_79 mk_M_nextOf rfl rfl rfl rfl rfl rfl (s_M_nextOf _ _ _) (fun q16 _ hq16 => ?_)
          exact z_iret d_M_patternTo_139 rfl rfl
        · refine z_tabOut (tgt := 140) d_M_patternTo_21 (by omega) rfl ?_
          refine z_iload_n d_M_patternTo_140 rfl ?_
          exact z_iret d_M_patternTo_141 rfl rfl
