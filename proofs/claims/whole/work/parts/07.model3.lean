/-! ===== X4_comeToBlock ===== -/
theorem dX4_comeToBlock_0 : decode cX4_comeToBlock 0 = .ok (.aload_n 0, 1) := by decide +kernel
theorem dX4_comeToBlock_1 : decode cX4_comeToBlock 1 = .ok (.getfield 16, 3) := by decide +kernel
theorem dX4_comeToBlock_4 : decode cX4_comeToBlock 4 = .ok (.iload_n 1, 1) := by decide +kernel
theorem dX4_comeToBlock_5 : decode cX4_comeToBlock 5 = .ok (.iaload, 1) := by decide +kernel
theorem dX4_comeToBlock_6 : decode cX4_comeToBlock 6 = .ok (.ifCond .ne 36, 3) := by decide +kernel
theorem dX4_comeToBlock_9 : decode cX4_comeToBlock 9 = .ok (.aload_n 0, 1) := by decide +kernel
theorem dX4_comeToBlock_10 : decode cX4_comeToBlock 10 = .ok (.iload_n 1, 1) := by decide +kernel
theorem dX4_comeToBlock_11 : decode cX4_comeToBlock 11 = .ok (.iconst 0, 1) := by decide +kernel
theorem dX4_comeToBlock_12 : decode cX4_comeToBlock 12 = .ok (.iconst 1, 1) := by decide +kernel
theorem dX4_comeToBlock_13 : decode cX4_comeToBlock 13 = .ok (.invokevirtual 143, 3) := by decide +kernel
theorem dX4_comeToBlock_16 : decode cX4_comeToBlock 16 = .ok (.istore 4, 2) := by decide +kernel
theorem dX4_comeToBlock_18 : decode cX4_comeToBlock 18 = .ok (.iload 4, 2) := by decide +kernel
theorem dX4_comeToBlock_20 : decode cX4_comeToBlock 20 = .ok (.ifCond .eq 19, 3) := by decide +kernel
theorem dX4_comeToBlock_23 : decode cX4_comeToBlock 23 = .ok (.aload_n 0, 1) := by decide +kernel
theorem dX4_comeToBlock_24 : decode cX4_comeToBlock 24 = .ok (.iload_n 1, 1) := by decide +kernel
theorem dX4_comeToBlock_25 : decode cX4_comeToBlock 25 = .ok (.iconst 0, 1) := by decide +kernel
theorem dX4_comeToBlock_26 : decode cX4_comeToBlock 26 = .ok (.iload_n 3, 1) := by decide +kernel
theorem dX4_comeToBlock_27 : decode cX4_comeToBlock 27 = .ok (.invokevirtual 135, 3) := by decide +kernel
theorem dX4_comeToBlock_30 : decode cX4_comeToBlock 30 = .ok (.aload_n 0, 1) := by decide +kernel
theorem dX4_comeToBlock_31 : decode cX4_comeToBlock 31 = .ok (.getfield 38, 3) := by decide +kernel
theorem dX4_comeToBlock_34 : decode cX4_comeToBlock 34 = .ok (.iload_n 3, 1) := by decide +kernel
theorem dX4_comeToBlock_35 : decode cX4_comeToBlock 35 = .ok (.sipush 128, 3) := by decide +kernel
theorem dX4_comeToBlock_38 : decode cX4_comeToBlock 38 = .ok (.iastore, 1) := by decide +kernel
theorem dX4_comeToBlock_39 : decode cX4_comeToBlock 39 = .ok (.iload 4, 2) := by decide +kernel
theorem dX4_comeToBlock_41 : decode cX4_comeToBlock 41 = .ok (.ireturn, 1) := by decide +kernel
theorem dX4_comeToBlock_42 : decode cX4_comeToBlock 42 = .ok (.aload_n 0, 1) := by decide +kernel
theorem dX4_comeToBlock_43 : decode cX4_comeToBlock 43 = .ok (.iload_n 1, 1) := by decide +kernel
theorem dX4_comeToBlock_44 : decode cX4_comeToBlock 44 = .ok (.iload_n 2, 1) := by decide +kernel
theorem dX4_comeToBlock_45 : decode cX4_comeToBlock 45 = .ok (.ifCond .le 9, 3) := by decide +kernel
theorem dX4_comeToBlock_48 : decode cX4_comeToBlock 48 = .ok (.iload_n 2, 1) := by decide +kernel
theorem dX4_comeToBlock_49 : decode cX4_comeToBlock 49 = .ok (.iconst 1, 1) := by decide +kernel
theorem dX4_comeToBlock_50 : decode cX4_comeToBlock 50 = .ok (.isub, 1) := by decide +kernel
theorem dX4_comeToBlock_51 : decode cX4_comeToBlock 51 = .ok (.goto 4, 3) := by decide +kernel
theorem dX4_comeToBlock_54 : decode cX4_comeToBlock 54 = .ok (.iconst 0, 1) := by decide +kernel
theorem dX4_comeToBlock_55 : decode cX4_comeToBlock 55 = .ok (.invokevirtual 146, 3) := by decide +kernel
theorem dX4_comeToBlock_58 : decode cX4_comeToBlock 58 = .ok (.istore 4, 2) := by decide +kernel
theorem dX4_comeToBlock_60 : decode cX4_comeToBlock 60 = .ok (.aload_n 0, 1) := by decide +kernel
theorem dX4_comeToBlock_61 : decode cX4_comeToBlock 61 = .ok (.iload_n 1, 1) := by decide +kernel
theorem dX4_comeToBlock_62 : decode cX4_comeToBlock 62 = .ok (.iload 4, 2) := by decide +kernel
theorem dX4_comeToBlock_64 : decode cX4_comeToBlock 64 = .ok (.invokevirtual 150, 3) := by decide +kernel
theorem dX4_comeToBlock_67 : decode cX4_comeToBlock 67 = .ok (.istore 5, 2) := by decide +kernel
theorem dX4_comeToBlock_69 : decode cX4_comeToBlock 69 = .ok (.aload_n 0, 1) := by decide +kernel
theorem dX4_comeToBlock_70 : decode cX4_comeToBlock 70 = .ok (.getfield 28, 3) := by decide +kernel
theorem dX4_comeToBlock_73 : decode cX4_comeToBlock 73 = .ok (.sipush 600, 3) := by decide +kernel
theorem dX4_comeToBlock_76 : decode cX4_comeToBlock 76 = .ok (.iload_n 1, 1) := by decide +kernel
theorem dX4_comeToBlock_77 : decode cX4_comeToBlock 77 = .ok (.imul, 1) := by decide +kernel
theorem dX4_comeToBlock_78 : decode cX4_comeToBlock 78 = .ok (.iload 4, 2) := by decide +kernel
theorem dX4_comeToBlock_80 : decode cX4_comeToBlock 80 = .ok (.iadd, 1) := by decide +kernel
theorem dX4_comeToBlock_81 : decode cX4_comeToBlock 81 = .ok (.iaload, 1) := by decide +kernel
theorem dX4_comeToBlock_82 : decode cX4_comeToBlock 82 = .ok (.istore 6, 2) := by decide +kernel
theorem dX4_comeToBlock_84 : decode cX4_comeToBlock 84 = .ok (.aload_n 0, 1) := by decide +kernel
theorem dX4_comeToBlock_85 : decode cX4_comeToBlock 85 = .ok (.iload_n 1, 1) := by decide +kernel
theorem dX4_comeToBlock_86 : decode cX4_comeToBlock 86 = .ok (.iload 5, 2) := by decide +kernel
theorem dX4_comeToBlock_88 : decode cX4_comeToBlock 88 = .ok (.iload 6, 2) := by decide +kernel
theorem dX4_comeToBlock_90 : decode cX4_comeToBlock 90 = .ok (.invokevirtual 153, 3) := by decide +kernel
theorem dX4_comeToBlock_93 : decode cX4_comeToBlock 93 = .ok (.aload_n 0, 1) := by decide +kernel
theorem dX4_comeToBlock_94 : decode cX4_comeToBlock 94 = .ok (.iload_n 2, 1) := by decide +kernel
theorem dX4_comeToBlock_95 : decode cX4_comeToBlock 95 = .ok (.iload 5, 2) := by decide +kernel
theorem dX4_comeToBlock_97 : decode cX4_comeToBlock 97 = .ok (.isub, 1) := by decide +kernel
theorem dX4_comeToBlock_98 : decode cX4_comeToBlock 98 = .ok (.ldc2_w 156, 3) := by decide +kernel
theorem dX4_comeToBlock_101 : decode cX4_comeToBlock 101 = .ok (.invokevirtual 120, 3) := by decide +kernel
theorem dX4_comeToBlock_104 : decode cX4_comeToBlock 104 = .ok (.ifCond .ne 26, 3) := by decide +kernel
theorem dX4_comeToBlock_107 : decode cX4_comeToBlock 107 = .ok (.aload_n 0, 1) := by decide +kernel
theorem dX4_comeToBlock_108 : decode cX4_comeToBlock 108 = .ok (.iload_n 2, 1) := by decide +kernel
theorem dX4_comeToBlock_109 : decode cX4_comeToBlock 109 = .ok (.iload 5, 2) := by decide +kernel
theorem dX4_comeToBlock_111 : decode cX4_comeToBlock 111 = .ok (.isub, 1) := by decide +kernel
theorem dX4_comeToBlock_112 : decode cX4_comeToBlock 112 = .ok (.invokevirtual 117, 3) := by decide +kernel
theorem dX4_comeToBlock_115 : decode cX4_comeToBlock 115 = .ok (.aload_n 0, 1) := by decide +kernel
theorem dX4_comeToBlock_116 : decode cX4_comeToBlock 116 = .ok (.iload_n 1, 1) := by decide +kernel
theorem dX4_comeToBlock_117 : decode cX4_comeToBlock 117 = .ok (.iconst 0, 1) := by decide +kernel
theorem dX4_comeToBlock_118 : decode cX4_comeToBlock 118 = .ok (.iload 6, 2) := by decide +kernel
theorem dX4_comeToBlock_120 : decode cX4_comeToBlock 120 = .ok (.iconst 1, 1) := by decide +kernel
theorem dX4_comeToBlock_121 : decode cX4_comeToBlock 121 = .ok (.iadd, 1) := by decide +kernel
theorem dX4_comeToBlock_122 : decode cX4_comeToBlock 122 = .ok (.lconst 0, 1) := by decide +kernel
theorem dX4_comeToBlock_123 : decode cX4_comeToBlock 123 = .ok (.bipush 8, 2) := by decide +kernel
theorem dX4_comeToBlock_125 : decode cX4_comeToBlock 125 = .ok (.iload 6, 2) := by decide +kernel
theorem dX4_comeToBlock_127 : decode cX4_comeToBlock 127 = .ok (.invokevirtual 124, 3) := by decide +kernel
theorem dX4_comeToBlock_130 : decode cX4_comeToBlock 130 = .ok (.aload_n 0, 1) := by decide +kernel
theorem dX4_comeToBlock_131 : decode cX4_comeToBlock 131 = .ok (.iload_n 1, 1) := by decide +kernel
theorem dX4_comeToBlock_132 : decode cX4_comeToBlock 132 = .ok (.iload_n 2, 1) := by decide +kernel
theorem dX4_comeToBlock_133 : decode cX4_comeToBlock 133 = .ok (.iload_n 3, 1) := by decide +kernel
theorem dX4_comeToBlock_134 : decode cX4_comeToBlock 134 = .ok (.invokevirtual 135, 3) := by decide +kernel
theorem dX4_comeToBlock_137 : decode cX4_comeToBlock 137 = .ok (.aload_n 0, 1) := by decide +kernel
theorem dX4_comeToBlock_138 : decode cX4_comeToBlock 138 = .ok (.iload_n 1, 1) := by decide +kernel
theorem dX4_comeToBlock_139 : decode cX4_comeToBlock 139 = .ok (.iload 5, 2) := by decide +kernel
theorem dX4_comeToBlock_141 : decode cX4_comeToBlock 141 = .ok (.invokevirtual 139, 3) := by decide +kernel
theorem dX4_comeToBlock_144 : decode cX4_comeToBlock 144 = .ok (.aload_n 0, 1) := by decide +kernel
theorem dX4_comeToBlock_145 : decode cX4_comeToBlock 145 = .ok (.getfield 28, 3) := by decide +kernel
theorem dX4_comeToBlock_148 : decode cX4_comeToBlock 148 = .ok (.sipush 600, 3) := by decide +kernel
theorem dX4_comeToBlock_151 : decode cX4_comeToBlock 151 = .ok (.iload_n 1, 1) := by decide +kernel
theorem dX4_comeToBlock_152 : decode cX4_comeToBlock 152 = .ok (.imul, 1) := by decide +kernel
theorem dX4_comeToBlock_153 : decode cX4_comeToBlock 153 = .ok (.iload 4, 2) := by decide +kernel
theorem dX4_comeToBlock_155 : decode cX4_comeToBlock 155 = .ok (.iadd, 1) := by decide +kernel
theorem dX4_comeToBlock_156 : decode cX4_comeToBlock 156 = .ok (.dup2, 1) := by decide +kernel
theorem dX4_comeToBlock_157 : decode cX4_comeToBlock 157 = .ok (.iaload, 1) := by decide +kernel
theorem dX4_comeToBlock_158 : decode cX4_comeToBlock 158 = .ok (.iconst 1, 1) := by decide +kernel
theorem dX4_comeToBlock_159 : decode cX4_comeToBlock 159 = .ok (.iadd, 1) := by decide +kernel
theorem dX4_comeToBlock_160 : decode cX4_comeToBlock 160 = .ok (.iastore, 1) := by decide +kernel
theorem dX4_comeToBlock_161 : decode cX4_comeToBlock 161 = .ok (.iload 6, 2) := by decide +kernel
theorem dX4_comeToBlock_163 : decode cX4_comeToBlock 163 = .ok (.iconst 1, 1) := by decide +kernel
theorem dX4_comeToBlock_164 : decode cX4_comeToBlock 164 = .ok (.iadd, 1) := by decide +kernel
theorem dX4_comeToBlock_165 : decode cX4_comeToBlock 165 = .ok (.bipush 9, 2) := by decide +kernel
theorem dX4_comeToBlock_167 : decode cX4_comeToBlock 167 = .ok (.if_icmp .ge 5, 3) := by decide +kernel
theorem dX4_comeToBlock_170 : decode cX4_comeToBlock 170 = .ok (.iconst 1, 1) := by decide +kernel
theorem dX4_comeToBlock_171 : decode cX4_comeToBlock 171 = .ok (.ireturn, 1) := by decide +kernel
theorem dX4_comeToBlock_172 : decode cX4_comeToBlock 172 = .ok (.aload_n 0, 1) := by decide +kernel
theorem dX4_comeToBlock_173 : decode cX4_comeToBlock 173 = .ok (.iload_n 1, 1) := by decide +kernel
theorem dX4_comeToBlock_174 : decode cX4_comeToBlock 174 = .ok (.iload 4, 2) := by decide +kernel
theorem dX4_comeToBlock_176 : decode cX4_comeToBlock 176 = .ok (.iconst 1, 1) := by decide +kernel
theorem dX4_comeToBlock_177 : decode cX4_comeToBlock 177 = .ok (.iadd, 1) := by decide +kernel
theorem dX4_comeToBlock_178 : decode cX4_comeToBlock 178 = .ok (.iconst 4, 1) := by decide +kernel
theorem dX4_comeToBlock_179 : decode cX4_comeToBlock 179 = .ok (.invokevirtual 143, 3) := by decide +kernel
theorem dX4_comeToBlock_182 : decode cX4_comeToBlock 182 = .ok (.ifCond .ne 5, 3) := by decide +kernel
theorem dX4_comeToBlock_185 : decode cX4_comeToBlock 185 = .ok (.iconst 0, 1) := by decide +kernel
theorem dX4_comeToBlock_186 : decode cX4_comeToBlock 186 = .ok (.ireturn, 1) := by decide +kernel
theorem dX4_comeToBlock_187 : decode cX4_comeToBlock 187 = .ok (.aload_n 0, 1) := by decide +kernel
theorem dX4_comeToBlock_188 : decode cX4_comeToBlock 188 = .ok (.getfield 28, 3) := by decide +kernel
theorem dX4_comeToBlock_191 : decode cX4_comeToBlock 191 = .ok (.sipush 600, 3) := by decide +kernel
theorem dX4_comeToBlock_194 : decode cX4_comeToBlock 194 = .ok (.iload_n 1, 1) := by decide +kernel
theorem dX4_comeToBlock_195 : decode cX4_comeToBlock 195 = .ok (.imul, 1) := by decide +kernel
theorem dX4_comeToBlock_196 : decode cX4_comeToBlock 196 = .ok (.iload 4, 2) := by decide +kernel
theorem dX4_comeToBlock_198 : decode cX4_comeToBlock 198 = .ok (.iadd, 1) := by decide +kernel
theorem dX4_comeToBlock_199 : decode cX4_comeToBlock 199 = .ok (.iconst 5, 1) := by decide +kernel
theorem dX4_comeToBlock_200 : decode cX4_comeToBlock 200 = .ok (.iastore, 1) := by decide +kernel
theorem dX4_comeToBlock_201 : decode cX4_comeToBlock 201 = .ok (.aload_n 0, 1) := by decide +kernel
theorem dX4_comeToBlock_202 : decode cX4_comeToBlock 202 = .ok (.iload_n 1, 1) := by decide +kernel
theorem dX4_comeToBlock_203 : decode cX4_comeToBlock 203 = .ok (.iload 5, 2) := by decide +kernel
theorem dX4_comeToBlock_205 : decode cX4_comeToBlock 205 = .ok (.iconst 5, 1) := by decide +kernel
theorem dX4_comeToBlock_206 : decode cX4_comeToBlock 206 = .ok (.invokevirtual 158, 3) := by decide +kernel
theorem dX4_comeToBlock_209 : decode cX4_comeToBlock 209 = .ok (.aload_n 0, 1) := by decide +kernel
theorem dX4_comeToBlock_210 : decode cX4_comeToBlock 210 = .ok (.iload_n 1, 1) := by decide +kernel
theorem dX4_comeToBlock_211 : decode cX4_comeToBlock 211 = .ok (.iload 5, 2) := by decide +kernel
theorem dX4_comeToBlock_213 : decode cX4_comeToBlock 213 = .ok (.iconst 5, 1) := by decide +kernel
theorem dX4_comeToBlock_214 : decode cX4_comeToBlock 214 = .ok (.iadd, 1) := by decide +kernel
theorem dX4_comeToBlock_215 : decode cX4_comeToBlock 215 = .ok (.iconst 4, 1) := by decide +kernel
theorem dX4_comeToBlock_216 : decode cX4_comeToBlock 216 = .ok (.invokevirtual 158, 3) := by decide +kernel
theorem dX4_comeToBlock_219 : decode cX4_comeToBlock 219 = .ok (.iconst 1, 1) := by decide +kernel
theorem dX4_comeToBlock_220 : decode cX4_comeToBlock 220 = .ok (.ireturn, 1) := by decide +kernel
def rmX4_comeToBlock : Room := { frames := 4, cells := 0, slots := 0, locals := 105 }
noncomputable def f_X4_comeToBlock_130 (x1 : Int32) (x2 : Int32) (x3 : Int32) (x4 : Int32) (x5 : Int32) (x6 : Int32) (u : MS) : Option (Int32 × MS) := (f_X4_shift x1 x2 x3 u).bind (fun z26 => (f_X4_giveInner x1 x5 z26).bind (fun z28 => (if ix ((600 * x1) + x4) 4800 = true then (if ix ((600 * x1) + x4) 4800 = true then (if (9 : Int32) ≤ (x6 + 1) then (f_X4_newBlock x1 (x4 + 1) 4 (mA z28 8 (Int32.toNatClampNeg ((600 * x1) + x4)) ((z28.2.1 8 (Int32.toNatClampNeg ((600 * x1) + x4))) + 1))).bind (fun z33 => (if z33.1 = 0 then some (0, z33.2) else (if ix ((600 * x1) + x4) 4800 = true then (f_X4_dealInner x1 x5 5 (mA z33.2 8 (Int32.toNatClampNeg ((600 * x1) + x4)) 5)).bind (fun z37 => (f_X4_dealInner x1 (x5 + 5) 4 z37).bind (fun z39 => some (1, z39))) else none))) else some (1, (mA z28 8 (Int32.toNatClampNeg ((600 * x1) + x4)) ((z28.2.1 8 (Int32.toNatClampNeg ((600 * x1) + x4))) + 1)))) else none) else none)))
noncomputable def f_X4_comeToBlock_55 (x1 : Int32) (x2 : Int32) (x3 : Int32) (t1 : Int32) (t2 : Int32) (u : MS) : Option (Int32 × MS) := (f_X4_blockAt t1 t2 u).bind (fun z12 => (f_X4_beginOf x1 z12 u).bind (fun z14 => (if ix ((600 * x1) + z12) 4800 = true then (f_X4_takeInner x1 z14 (u.2.1 8 (Int32.toNatClampNeg ((600 * x1) + z12))) u).bind (fun z17 => (f_X4_between (x2 - z14) 256 z17).bind (fun z19 => (if z19.1 = 0 then (f_X4_open (x2 - z14) z19.2).bind (fun z22 => (f_X4_dealt x1 0 ((u.2.1 8 (Int32.toNatClampNeg ((600 * x1) + z12))) + 1) 0 8 (u.2.1 8 (Int32.toNatClampNeg ((600 * x1) + z12))) z22).bind (fun z24 => f_X4_comeToBlock_130 x1 x2 x3 z12 z14 (u.2.1 8 (Int32.toNatClampNeg ((600 * x1) + z12))) z24)) else f_X4_comeToBlock_130 x1 x2 x3 z12 z14 (u.2.1 8 (Int32.toNatClampNeg ((600 * x1) + z12))) z19.2))) else none)))
noncomputable def f_X4_comeToBlock (x1 : Int32) (x2 : Int32) (x3 : Int32) (u : MS) : Option (Int32 × MS) := (if ix x1 8 = true then (if (u.2.1 4 (Int32.toNatClampNeg x1)) = 0 then (f_X4_newBlock x1 0 1 u).bind (fun z4 => (if z4.1 = 0 then (if zb z4.1 = true then some (z4.1, z4.2) else none) else (f_X4_shift x1 0 x3 z4.2).bind (fun z8 => (if ix x3 600 = true then (if zb z4.1 = true then some (z4.1, (mA z8 11 (Int32.toNatClampNeg x3) 128)) else none) else none)))) else (if x2 ≤ 0 then f_X4_comeToBlock_55 x1 x2 x3 x1 0 u else f_X4_comeToBlock_55 x1 x2 x3 x1 (x2 - 1) u)) else none)
section
variable {p : Program} {l : Launch} {e : Env} {s : State} {m : MethodId} {args : Array Value} {below : List Frame} {meth : Method} {c : Code}
variable {G : GX} {A : Nat → Prop} {ad : Nat → Nat}
set_option maxHeartbeats 4000000 in
set_option maxRecDepth 100000 in
theorem w_X4_comeToBlock_130 (F : FX p m c cX4_comeToBlock 7 s args yX4_comeToBlock (some .boolean) RX4 meth) {z : Int32 × MS} : ∀ (x1 : Int32) (x2 : Int32) (x3 : Int32) (x4 : Int32) (x5 : Int32) (x6 : Int32) (u : MS) (H : Heap) (locs : List Loc) (ls : Array Slot), WD G A s (mw G ad u) H locs → lv_has ls 7 [(0, .ref (ad 0)), (1, .int x1), (2, .int x2), (3, .int x3), (4, .int x4), (5, .int x5), (6, .int x6)] → f_X4_comeToBlock_130 x1 x2 x3 x4 x5 x6 u = some z → W p l e rmX4_comeToBlock s m args below meth c H locs 0 0 (MQ below (QW G (mw G ad z.2) A (some (.int z.1))) args s 0 0 A) (F0 m 130 ls []) := by
  obtain ⟨⟨hx, hb, hml, hown, hts⟩, hr, hlocks⟩ := id F
  intro x1 x2 x3 x4 x5 x6 u H locs ls hw hl h
  unfold f_X4_comeToBlock_130 at h
  refine lv_aload_n hx hb dX4_comeToBlock_130 rfl (lv_at hl 0 rfl) ?_
  refine lv_iload_n hx hb dX4_comeToBlock_131 rfl (lv_at hl 1 rfl) ?_
  refine lv_iload_n hx hb dX4_comeToBlock_132 rfl (lv_at hl 2 rfl) ?_
  refine lv_iload_n hx hb dX4_comeToBlock_133 rfl (lv_at hl 3 rfl) ?_
  obtain ⟨z26, e27, h⟩ := bnd h
  refine k_X4_shift F hw e27 ⟨Nat.le_of_ble_eq_true rfl, Nat.le_of_ble_eq_true rfl⟩ ⟨Nat.zero_le _, Nat.zero_le _⟩ hl.1 (Nat.le_of_ble_eq_true rfl) dX4_comeToBlock_134 (fun H locs hw => ?_)
  refine lv_aload_n hx hb dX4_comeToBlock_137 rfl (lv_at hl 0 rfl) ?_
  refine lv_iload_n hx hb dX4_comeToBlock_138 rfl (lv_at hl 1 rfl) ?_
  refine lv_iload hx hb dX4_comeToBlock_139 (lv_at hl 5 rfl) ?_
  obtain ⟨z28, e29, h⟩ := bnd h
  refine k_X4_giveInner F hw e29 ⟨Nat.le_of_ble_eq_true rfl, Nat.le_of_ble_eq_true rfl⟩ ⟨Nat.zero_le _, Nat.zero_le _⟩ hl.1 (Nat.le_of_ble_eq_true rfl) dX4_comeToBlock_141 (fun H locs hw => ?_)
  refine lv_aload_n hx hb dX4_comeToBlock_144 rfl (lv_at hl 0 rfl) ?_
  refine m_g8 F hw dX4_comeToBlock_145 ?_
  refine lv_sipush (v := 600) hx hb dX4_comeToBlock_148 rfl ?_
  refine lv_iload_n hx hb dX4_comeToBlock_151 rfl (lv_at hl 1 rfl) ?_
  refine lv_imul hx hb dX4_comeToBlock_152 ?_
  refine lv_iload hx hb dX4_comeToBlock_153 (lv_at hl 4 rfl) ?_
  refine lv_iadd hx hb dX4_comeToBlock_155 ?_
  refine lv_dup2_11 hx hb dX4_comeToBlock_156 rfl rfl ?_
  obtain ⟨g30, h⟩ := gd h
  refine m_l8 F hw g30 dX4_comeToBlock_157 ?_
  refine lv_iconst (v := 1) hx hb dX4_comeToBlock_158 rfl ?_
  refine lv_iadd hx hb dX4_comeToBlock_159 ?_
  obtain ⟨g31, h⟩ := gd h
  refine m_s8 F hw g31 dX4_comeToBlock_160 (fun H locs hw => ?_)
  refine lv_iload hx hb dX4_comeToBlock_161 (lv_at hl 6 rfl) ?_
  refine lv_iconst (v := 1) hx hb dX4_comeToBlock_163 rfl ?_
  refine lv_iadd hx hb dX4_comeToBlock_164 ?_
  refine lv_bipush (v := 9) hx hb dX4_comeToBlock_165 rfl ?_
  refine lv_icmp_ge (tgt := 172) hx hb dX4_comeToBlock_167 rfl (fun c32 => ?_) (fun c32 => ?_)
  · replace h := itT h c32
    refine lv_aload_n hx hb dX4_comeToBlock_172 rfl (lv_at hl 0 rfl) ?_
    refine lv_iload_n hx hb dX4_comeToBlock_173 rfl (lv_at hl 1 rfl) ?_
    refine lv_iload hx hb dX4_comeToBlock_174 (lv_at hl 4 rfl) ?_
    refine lv_iconst (v := 1) hx hb dX4_comeToBlock_176 rfl ?_
    refine lv_iadd hx hb dX4_comeToBlock_177 ?_
    refine lv_iconst (v := 4) hx hb dX4_comeToBlock_178 rfl ?_
    obtain ⟨z33, e34, h⟩ := bnd h
    refine k_X4_newBlock F hw e34 ⟨Nat.le_of_ble_eq_true rfl, Nat.le_of_ble_eq_true rfl⟩ ⟨Nat.zero_le _, Nat.zero_le _⟩ hl.1 (Nat.le_of_ble_eq_true rfl) dX4_comeToBlock_179 (fun H locs hw => ?_)
    refine lv_if_ne (tgt := 187) hx hb dX4_comeToBlock_182 rfl (fun c35 => ?_) (fun c35 => ?_)
    · replace h := itF h c35
      refine lv_aload_n hx hb dX4_comeToBlock_187 rfl (lv_at hl 0 rfl) ?_
      refine m_g8 F hw dX4_comeToBlock_188 ?_
      refine lv_sipush (v := 600) hx hb dX4_comeToBlock_191 rfl ?_
      refine lv_iload_n hx hb dX4_comeToBlock_194 rfl (lv_at hl 1 rfl) ?_
      refine lv_imul hx hb dX4_comeToBlock_195 ?_
      refine lv_iload hx hb dX4_comeToBlock_196 (lv_at hl 4 rfl) ?_
      refine lv_iadd hx hb dX4_comeToBlock_198 ?_
      refine lv_iconst (v := 5) hx hb dX4_comeToBlock_199 rfl ?_
      obtain ⟨g36, h⟩ := gd h
      refine m_s8 F hw g36 dX4_comeToBlock_200 (fun H locs hw => ?_)
      refine lv_aload_n hx hb dX4_comeToBlock_201 rfl (lv_at hl 0 rfl) ?_
      refine lv_iload_n hx hb dX4_comeToBlock_202 rfl (lv_at hl 1 rfl) ?_
      refine lv_iload hx hb dX4_comeToBlock_203 (lv_at hl 5 rfl) ?_
      refine lv_iconst (v := 5) hx hb dX4_comeToBlock_205 rfl ?_
      obtain ⟨z37, e38, h⟩ := bnd h
      refine k_X4_dealInner F hw e38 ⟨Nat.le_of_ble_eq_true rfl, Nat.le_of_ble_eq_true rfl⟩ ⟨Nat.zero_le _, Nat.zero_le _⟩ hl.1 (Nat.le_of_ble_eq_true rfl) dX4_comeToBlock_206 (fun H locs hw => ?_)
      refine lv_aload_n hx hb dX4_comeToBlock_209 rfl (lv_at hl 0 rfl) ?_
      refine lv_iload_n hx hb dX4_comeToBlock_210 rfl (lv_at hl 1 rfl) ?_
      refine lv_iload hx hb dX4_comeToBlock_211 (lv_at hl 5 rfl) ?_
      refine lv_iconst (v := 5) hx hb dX4_comeToBlock_213 rfl ?_
      refine lv_iadd hx hb dX4_comeToBlock_214 ?_
      refine lv_iconst (v := 4) hx hb dX4_comeToBlock_215 rfl ?_
      obtain ⟨z39, e40, h⟩ := bnd h
      refine k_X4_dealInner F hw e40 ⟨Nat.le_of_ble_eq_true rfl, Nat.le_of_ble_eq_true rfl⟩ ⟨Nat.zero_le _, Nat.zero_le _⟩ hl.1 (Nat.le_of_ble_eq_true rfl) dX4_comeToBlock_216 (fun H locs hw => ?_)
      refine lv_iconst (v := 1) hx hb dX4_comeToBlock_219 rfl ?_
      cases h
      exact retW_z F hw narrow_b1 dX4_comeToBlock_220
    · replace h := itT h c35
      refine lv_iconst (v := 0) hx hb dX4_comeToBlock_185 rfl ?_
      cases h
      exact retW_z F hw narrow_b0 dX4_comeToBlock_186
  · replace h := itF h c32
    refine lv_iconst (v := 1) hx hb dX4_comeToBlock_170 rfl ?_
    cases h
    exact retW_z F hw narrow_b1 dX4_comeToBlock_171
set_option maxHeartbeats 4000000 in
set_option maxRecDepth 100000 in
theorem w_X4_comeToBlock_55 (F : FX p m c cX4_comeToBlock 7 s args yX4_comeToBlock (some .boolean) RX4 meth) {z : Int32 × MS} : ∀ (x1 : Int32) (x2 : Int32) (x3 : Int32) (t1 : Int32) (t2 : Int32) (u : MS) (H : Heap) (locs : List Loc) (ls : Array Slot), WD G A s (mw G ad u) H locs → lv_has ls 7 [(0, .ref (ad 0)), (1, .int x1), (2, .int x2), (3, .int x3)] → f_X4_comeToBlock_55 x1 x2 x3 t1 t2 u = some z → W p l e rmX4_comeToBlock s m args below meth c H locs 0 0 (MQ below (QW G (mw G ad z.2) A (some (.int z.1))) args s 0 0 A) (F0 m 55 ls [.int t2, .int t1, .ref (ad 0)]) := by
  obtain ⟨⟨hx, hb, hml, hown, hts⟩, hr, hlocks⟩ := id F
  intro x1 x2 x3 t1 t2 u H locs ls hw hl h
  unfold f_X4_comeToBlock_55 at h
  obtain ⟨z12, e13, h⟩ := bnd h
  refine k_X4_blockAt F hw e13 ⟨Nat.le_of_ble_eq_true rfl, Nat.le_of_ble_eq_true rfl⟩ ⟨Nat.zero_le _, Nat.zero_le _⟩ hl.1 (Nat.le_of_ble_eq_true rfl) dX4_comeToBlock_55 ?_
  refine lv_istore (lv' := [(4, .int z12), (0, .ref (ad 0)), (1, .int x1), (2, .int x2), (3, .int x3)]) hx hb dX4_comeToBlock_58 hl (by decide) rfl (fun ls hl => ?_)
  refine lv_aload_n hx hb dX4_comeToBlock_60 rfl (lv_at hl 1 rfl) ?_
  refine lv_iload_n hx hb dX4_comeToBlock_61 rfl (lv_at hl 2 rfl) ?_
  refine lv_iload hx hb dX4_comeToBlock_62 (lv_at hl 0 rfl) ?_
  obtain ⟨z14, e15, h⟩ := bnd h
  refine k_X4_beginOf F hw e15 ⟨Nat.le_of_ble_eq_true rfl, Nat.le_of_ble_eq_true rfl⟩ ⟨Nat.zero_le _, Nat.zero_le _⟩ hl.1 (Nat.le_of_ble_eq_true rfl) dX4_comeToBlock_64 ?_
  refine lv_istore (lv' := [(5, .int z14), (4, .int z12), (0, .ref (ad 0)), (1, .int x1), (2, .int x2), (3, .int x3)]) hx hb dX4_comeToBlock_67 hl (by decide) rfl (fun ls hl => ?_)
  refine lv_aload_n hx hb dX4_comeToBlock_69 rfl (lv_at hl 2 rfl) ?_
  refine m_g8 F hw dX4_comeToBlock_70 ?_
  refine lv_sipush (v := 600) hx hb dX4_comeToBlock_73 rfl ?_
  refine lv_iload_n hx hb dX4_comeToBlock_76 rfl (lv_at hl 3 rfl) ?_
  refine lv_imul hx hb dX4_comeToBlock_77 ?_
  refine lv_iload hx hb dX4_comeToBlock_78 (lv_at hl 1 rfl) ?_
  refine lv_iadd hx hb dX4_comeToBlock_80 ?_
  obtain ⟨g16, h⟩ := gd h
  refine m_l8 F hw g16 dX4_comeToBlock_81 ?_
  refine lv_istore (lv' := [(6, .int (u.2.1 8 (Int32.toNatClampNeg ((600 * x1) + z12)))), (5, .int z14), (4, .int z12), (0, .ref (ad 0)), (1, .int x1), (2, .int x2), (3, .int x3)]) hx hb dX4_comeToBlock_82 hl (by decide) rfl (fun ls hl => ?_)
  refine lv_aload_n hx hb dX4_comeToBlock_84 rfl (lv_at hl 3 rfl) ?_
  refine lv_iload_n hx hb dX4_comeToBlock_85 rfl (lv_at hl 4 rfl) ?_
  refine lv_iload hx hb dX4_comeToBlock_86 (lv_at hl 1 rfl) ?_
  refine lv_iload hx hb dX4_comeToBlock_88 (lv_at hl 0 rfl) ?_
  obtain ⟨z17, e18, h⟩ := bnd h
  refine k_X4_takeInner F hw e18 ⟨Nat.le_of_ble_eq_true rfl, Nat.le_of_ble_eq_true rfl⟩ ⟨Nat.zero_le _, Nat.zero_le _⟩ hl.1 (Nat.le_of_ble_eq_true rfl) dX4_comeToBlock_90 (fun H locs hw => ?_)
  refine lv_aload_n hx hb dX4_comeToBlock_93 rfl (lv_at hl 3 rfl) ?_
  refine lv_iload_n hx hb dX4_comeToBlock_94 rfl (lv_at hl 5 rfl) ?_
  refine lv_iload hx hb dX4_comeToBlock_95 (lv_at hl 1 rfl) ?_
  refine lv_isub hx hb dX4_comeToBlock_97 ?_
  refine lv_ldc2 (own := RX4) (v := 256) hx hb hown (F.tb (tw 700 (by decide +kernel) rfl)) dX4_comeToBlock_98 ?_
  obtain ⟨z19, e20, h⟩ := bnd h
  refine k_X4_between F hw e20 ⟨Nat.le_of_ble_eq_true rfl, Nat.le_of_ble_eq_true rfl⟩ ⟨Nat.zero_le _, Nat.zero_le _⟩ hl.1 (Nat.le_of_ble_eq_true rfl) dX4_comeToBlock_101 (fun H locs hw => ?_)
  refine lv_if_ne (tgt := 130) hx hb dX4_comeToBlock_104 rfl (fun c21 => ?_) (fun c21 => ?_)
  · replace h := itF h c21
    exact w_X4_comeToBlock_130 F _ _ _ _ _ _ _ _ _ _ hw (lv_sub hl [3, 4, 5, 6, 2, 1, 0] rfl) h
  · replace h := itT h c21
    refine lv_aload_n hx hb dX4_comeToBlock_107 rfl (lv_at hl 3 rfl) ?_
    refine lv_iload_n hx hb dX4_comeToBlock_108 rfl (lv_at hl 5 rfl) ?_
    refine lv_iload hx hb dX4_comeToBlock_109 (lv_at hl 1 rfl) ?_
    refine lv_isub hx hb dX4_comeToBlock_111 ?_
    obtain ⟨z22, e23, h⟩ := bnd h
    refine k_X4_open F hw e23 ⟨Nat.le_of_ble_eq_true rfl, Nat.le_of_ble_eq_true rfl⟩ ⟨Nat.zero_le _, Nat.zero_le _⟩ hl.1 (Nat.le_of_ble_eq_true rfl) dX4_comeToBlock_112 (fun H locs hw => ?_)
    refine lv_aload_n hx hb dX4_comeToBlock_115 rfl (lv_at hl 3 rfl) ?_
    refine lv_iload_n hx hb dX4_comeToBlock_116 rfl (lv_at hl 4 rfl) ?_
    refine lv_iconst (v := 0) hx hb dX4_comeToBlock_117 rfl ?_
    refine lv_iload hx hb dX4_comeToBlock_118 (lv_at hl 0 rfl) ?_
    refine lv_iconst (v := 1) hx hb dX4_comeToBlock_120 rfl ?_
    refine lv_iadd hx hb dX4_comeToBlock_121 ?_
    refine lv_lconst (v := 0) hx hb dX4_comeToBlock_122 rfl ?_
    refine lv_bipush (v := 8) hx hb dX4_comeToBlock_123 rfl ?_
    refine lv_iload hx hb dX4_comeToBlock_125 (lv_at hl 0 rfl) ?_
    obtain ⟨z24, e25, h⟩ := bnd h
    refine k_X4_dealt F hw e25 ⟨Nat.le_of_ble_eq_true rfl, Nat.le_of_ble_eq_true rfl⟩ ⟨Nat.zero_le _, Nat.zero_le _⟩ hl.1 (Nat.le_of_ble_eq_true rfl) dX4_comeToBlock_127 (fun H locs hw => ?_)
    exact w_X4_comeToBlock_130 F _ _ _ _ _ _ _ _ _ _ hw (lv_sub hl [3, 4, 5, 6, 2, 1, 0] rfl) h
set_option maxHeartbeats 4000000 in
set_option maxRecDepth 100000 in
theorem w_X4_comeToBlock_0 (F : FX p m c cX4_comeToBlock 7 s args yX4_comeToBlock (some .boolean) RX4 meth) {z : Int32 × MS} : ∀ (x1 : Int32) (x2 : Int32) (x3 : Int32) (u : MS) (H : Heap) (locs : List Loc) (ls : Array Slot), WD G A s (mw G ad u) H locs → lv_has ls 7 [(0, .ref (ad 0)), (1, .int x1), (2, .int x2), (3, .int x3)] → f_X4_comeToBlock x1 x2 x3 u = some z → W p l e rmX4_comeToBlock s m args below meth c H locs 0 0 (MQ below (QW G (mw G ad z.2) A (some (.int z.1))) args s 0 0 A) (F0 m 0 ls []) := by
  obtain ⟨⟨hx, hb, hml, hown, hts⟩, hr, hlocks⟩ := id F
  intro x1 x2 x3 u H locs ls hw hl h
  unfold f_X4_comeToBlock at h
  refine lv_aload_n hx hb dX4_comeToBlock_0 rfl (lv_at hl 0 rfl) ?_
  refine m_g4 F hw dX4_comeToBlock_1 ?_
  refine lv_iload_n hx hb dX4_comeToBlock_4 rfl (lv_at hl 1 rfl) ?_
  obtain ⟨g1, h⟩ := gd h
  refine m_l4 F hw g1 dX4_comeToBlock_5 ?_
  refine lv_if_ne (tgt := 42) hx hb dX4_comeToBlock_6 rfl (fun c2 => ?_) (fun c2 => ?_)
  · replace h := itF h c2
    refine lv_aload_n hx hb dX4_comeToBlock_42 rfl (lv_at hl 0 rfl) ?_
    refine lv_iload_n hx hb dX4_comeToBlock_43 rfl (lv_at hl 1 rfl) ?_
    refine lv_iload_n hx hb dX4_comeToBlock_44 rfl (lv_at hl 2 rfl) ?_
    refine lv_if_le (tgt := 54) hx hb dX4_comeToBlock_45 rfl (fun c3 => ?_) (fun c3 => ?_)
    · replace h := itT h c3
      refine lv_iconst (v := 0) hx hb dX4_comeToBlock_54 rfl ?_
      exact w_X4_comeToBlock_55 F _ _ _ _ _ _ _ _ _ hw (lv_sub hl [0, 1, 2, 3] rfl) h
    · replace h := itF h c3
      refine lv_iload_n hx hb dX4_comeToBlock_48 rfl (lv_at hl 2 rfl) ?_
      refine lv_iconst (v := 1) hx hb dX4_comeToBlock_49 rfl ?_
      refine lv_isub hx hb dX4_comeToBlock_50 ?_
      refine lv_goto (tgt := 55) hx hb dX4_comeToBlock_51 rfl ?_
      exact w_X4_comeToBlock_55 F _ _ _ _ _ _ _ _ _ hw (lv_sub hl [0, 1, 2, 3] rfl) h
  · replace h := itT h c2
    refine lv_aload_n hx hb dX4_comeToBlock_9 rfl (lv_at hl 0 rfl) ?_
    refine lv_iload_n hx hb dX4_comeToBlock_10 rfl (lv_at hl 1 rfl) ?_
    refine lv_iconst (v := 0) hx hb dX4_comeToBlock_11 rfl ?_
    refine lv_iconst (v := 1) hx hb dX4_comeToBlock_12 rfl ?_
    obtain ⟨z4, e5, h⟩ := bnd h
    refine k_X4_newBlock F hw e5 ⟨Nat.le_of_ble_eq_true rfl, Nat.le_of_ble_eq_true rfl⟩ ⟨Nat.zero_le _, Nat.zero_le _⟩ hl.1 (Nat.le_of_ble_eq_true rfl) dX4_comeToBlock_13 (fun H locs hw => ?_)
    refine lv_istore (lv' := [(4, .int z4.1), (0, .ref (ad 0)), (1, .int x1), (2, .int x2), (3, .int x3)]) hx hb dX4_comeToBlock_16 hl (by decide) rfl (fun ls hl => ?_)
    refine lv_iload hx hb dX4_comeToBlock_18 (lv_at hl 0 rfl) ?_
    refine lv_if_eq (tgt := 39) hx hb dX4_comeToBlock_20 rfl (fun c6 => ?_) (fun c6 => ?_)
    · replace h := itT h c6
      refine lv_iload hx hb dX4_comeToBlock_39 (lv_at hl 0 rfl) ?_
      obtain ⟨g7, h⟩ := gd h
      cases h
      exact retW_z F hw (zb_ok g7) dX4_comeToBlock_41
    · replace h := itF h c6
      refine lv_aload_n hx hb dX4_comeToBlock_23 rfl (lv_at hl 1 rfl) ?_
      refine lv_iload_n hx hb dX4_comeToBlock_24 rfl (lv_at hl 2 rfl) ?_
      refine lv_iconst (v := 0) hx hb dX4_comeToBlock_25 rfl ?_
      refine lv_iload_n hx hb dX4_comeToBlock_26 rfl (lv_at hl 4 rfl) ?_
      obtain ⟨z8, e9, h⟩ := bnd h
      refine k_X4_shift F hw e9 ⟨Nat.le_of_ble_eq_true rfl, Nat.le_of_ble_eq_true rfl⟩ ⟨Nat.zero_le _, Nat.zero_le _⟩ hl.1 (Nat.le_of_ble_eq_true rfl) dX4_comeToBlock_27 (fun H locs hw => ?_)
      refine lv_aload_n hx hb dX4_comeToBlock_30 rfl (lv_at hl 1 rfl) ?_
      refine m_g11 F hw dX4_comeToBlock_31 ?_
      refine lv_iload_n hx hb dX4_comeToBlock_34 rfl (lv_at hl 4 rfl) ?_
      refine lv_sipush (v := 128) hx hb dX4_comeToBlock_35 rfl ?_
      obtain ⟨g10, h⟩ := gd h
      refine m_s11 F hw g10 dX4_comeToBlock_38 (fun H locs hw => ?_)
      refine lv_iload hx hb dX4_comeToBlock_39 (lv_at hl 0 rfl) ?_
      obtain ⟨g11, h⟩ := gd h
      cases h
      exact retW_z F hw (zb_ok g11) dX4_comeToBlock_41
end
theorem c_X4_comeToBlock {l : Launch} {G : GX} {ad : Nat → Nat} {x1 : Int32} {x2 : Int32} {x3 : Int32} {u : MS} {z : Int32 × MS} (h : f_X4_comeToBlock x1 x2 x3 u = some z) : MW l yX4_comeToBlock cX4_comeToBlock 7 (some .boolean) rmX4_comeToBlock G (mw G ad u) (mw G ad z.2) [.ref (ad 0), .int x1, .int x2, .int x3] (some (.int z.1)) := MW.of (by decide) (Nat.le_of_ble_eq_true rfl) (fun p e s m below meth c ls F hw hl => w_X4_comeToBlock_0 F _ _ _ _ _ _ _ hw hl h)
theorem yv_X4_comeToBlock : YV RX4 165 yX4_comeToBlock cX4_comeToBlock 7 (some .boolean) 3 := ⟨(tw 661 (by decide +kernel) rfl), (tw 6 (by decide +kernel) rfl), (tw 658 (by decide +kernel) rfl), (tw 660 (by decide +kernel) rfl), (tp 24 (by decide +kernel) rfl), by decide +kernel⟩
theorem k_X4_comeToBlock {p : Program} {l : Launch} {e : Env} {R : Room} {s : State} {m : MethodId} {args : Array Value} {below : List Frame} {meth : Method} {c : Code} {H : Heap} {locs : List Loc} {cells slots : Nat} {Q : State → Prop} {G : GX} {A : Nat → Prop} {ad : Nat → Nat} {cc : ByteArray} {nL pc : Nat} {y0 : MethodName} {ret0 : Option FieldType} {ls : Array Slot} {rest : List Value} {u : MS} {x1 : Int32} {x2 : Int32} {x3 : Int32} {z : Int32 × MS} (F : FX p m c cc nL s args y0 ret0 RX4 meth) (hw : WD G A s (mw G ad u) H locs) (h : f_X4_comeToBlock x1 x2 x3 u = some z) (hR : rmX4_comeToBlock.frames + 1 ≤ R.frames ∧ 8 + (7 + 11) + rmX4_comeToBlock.locals ≤ R.locals) (hcs : cells ≤ R.cells ∧ slots ≤ R.slots) (hsz : ls.size = nL) (hW : (rest.map fun v => v.category).sum ≤ 8) (hdg : decode cc pc = .ok (.invokevirtual 165, 3)) (kk : ∀ (H : Heap) (locs : List Loc), WD G A s (mw G ad z.2) H locs → W p l e R s m args below meth c H locs cells slots Q (F0 m (pc + 3) ls (.int z.1 :: rest))) : W p l e R s m args below meth c H locs cells slots Q (F0 m pc ls (.int x3 :: .int x2 :: .int x1 :: .ref (ad 0) :: rest)) := callW (runV F yv_X4_comeToBlock (c_X4_comeToBlock h) hw.1 hw.2.1 hw.2.2.1 rfl rfl rfl ⟨rfl, rfl⟩ hR hcs rfl hsz rfl hW hdg) hw.2.2.2 hw.2.2.1.own_in (fun H1 l1 hP _ hS => kk H1 l1 ⟨hw.1, hP, hw.2.2.1.addr rfl, hS⟩)
/-! ===== X4_come ===== -/
theorem dX4_come_0 : decode cX4_come 0 = .ok (.iload_n 2, 1) := by decide +kernel
theorem dX4_come_1 : decode cX4_come 1 = .ok (.ifCond .ne 7, 3) := by decide +kernel
theorem dX4_come_4 : decode cX4_come 4 = .ok (.iconst (-1), 1) := by decide +kernel
theorem dX4_come_5 : decode cX4_come 5 = .ok (.goto 17, 3) := by decide +kernel
theorem dX4_come_8 : decode cX4_come 8 = .ok (.aload_n 0, 1) := by decide +kernel
theorem dX4_come_9 : decode cX4_come 9 = .ok (.getfield 25, 3) := by decide +kernel
theorem dX4_come_12 : decode cX4_come 12 = .ok (.sipush 600, 3) := by decide +kernel
theorem dX4_come_15 : decode cX4_come 15 = .ok (.iload_n 1, 1) := by decide +kernel
theorem dX4_come_16 : decode cX4_come 16 = .ok (.imul, 1) := by decide +kernel
theorem dX4_come_17 : decode cX4_come 17 = .ok (.iload_n 2, 1) := by decide +kernel
theorem dX4_come_18 : decode cX4_come 18 = .ok (.iadd, 1) := by decide +kernel
theorem dX4_come_19 : decode cX4_come 19 = .ok (.iconst 1, 1) := by decide +kernel
theorem dX4_come_20 : decode cX4_come 20 = .ok (.isub, 1) := by decide +kernel
theorem dX4_come_21 : decode cX4_come 21 = .ok (.iaload, 1) := by decide +kernel
theorem dX4_come_22 : decode cX4_come 22 = .ok (.istore 4, 2) := by decide +kernel
theorem dX4_come_24 : decode cX4_come 24 = .ok (.aload_n 0, 1) := by decide +kernel
theorem dX4_come_25 : decode cX4_come 25 = .ok (.iload_n 1, 1) := by decide +kernel
theorem dX4_come_26 : decode cX4_come 26 = .ok (.invokevirtual 161, 3) := by decide +kernel
theorem dX4_come_29 : decode cX4_come 29 = .ok (.ifCond .eq 13, 3) := by decide +kernel
theorem dX4_come_32 : decode cX4_come 32 = .ok (.aload_n 0, 1) := by decide +kernel
theorem dX4_come_33 : decode cX4_come 33 = .ok (.iload_n 1, 1) := by decide +kernel
theorem dX4_come_34 : decode cX4_come 34 = .ok (.iload_n 2, 1) := by decide +kernel
theorem dX4_come_35 : decode cX4_come 35 = .ok (.iload_n 3, 1) := by decide +kernel
theorem dX4_come_36 : decode cX4_come 36 = .ok (.invokevirtual 165, 3) := by decide +kernel
theorem dX4_come_39 : decode cX4_come 39 = .ok (.goto 10, 3) := by decide +kernel
theorem dX4_come_42 : decode cX4_come 42 = .ok (.aload_n 0, 1) := by decide +kernel
theorem dX4_come_43 : decode cX4_come 43 = .ok (.iload_n 1, 1) := by decide +kernel
theorem dX4_come_44 : decode cX4_come 44 = .ok (.iload_n 2, 1) := by decide +kernel
theorem dX4_come_45 : decode cX4_come 45 = .ok (.iload_n 3, 1) := by decide +kernel
theorem dX4_come_46 : decode cX4_come 46 = .ok (.invokevirtual 168, 3) := by decide +kernel
theorem dX4_come_49 : decode cX4_come 49 = .ok (.istore 5, 2) := by decide +kernel
theorem dX4_come_51 : decode cX4_come 51 = .ok (.iconst 0, 1) := by decide +kernel
theorem dX4_come_52 : decode cX4_come 52 = .ok (.istore 6, 2) := by decide +kernel
theorem dX4_come_54 : decode cX4_come 54 = .ok (.iload 6, 2) := by decide +kernel
theorem dX4_come_56 : decode cX4_come 56 = .ok (.bipush 20, 2) := by decide +kernel
theorem dX4_come_58 : decode cX4_come 58 = .ok (.if_icmp .ge 78, 3) := by decide +kernel
theorem dX4_come_61 : decode cX4_come 61 = .ok (.iload 5, 2) := by decide +kernel
theorem dX4_come_63 : decode cX4_come 63 = .ok (.ifCond .eq 73, 3) := by decide +kernel
theorem dX4_come_66 : decode cX4_come 66 = .ok (.aload_n 0, 1) := by decide +kernel
theorem dX4_come_67 : decode cX4_come 67 = .ok (.getfield 41, 3) := by decide +kernel
theorem dX4_come_70 : decode cX4_come 70 = .ok (.iload 6, 2) := by decide +kernel
theorem dX4_come_72 : decode cX4_come 72 = .ok (.iaload, 1) := by decide +kernel
theorem dX4_come_73 : decode cX4_come 73 = .ok (.iload_n 1, 1) := by decide +kernel
theorem dX4_come_74 : decode cX4_come 74 = .ok (.if_icmp .ne 30, 3) := by decide +kernel
theorem dX4_come_77 : decode cX4_come 77 = .ok (.aload_n 0, 1) := by decide +kernel
theorem dX4_come_78 : decode cX4_come 78 = .ok (.getfield 44, 3) := by decide +kernel
theorem dX4_come_81 : decode cX4_come 81 = .ok (.iload 6, 2) := by decide +kernel
theorem dX4_come_83 : decode cX4_come 83 = .ok (.iaload, 1) := by decide +kernel
theorem dX4_come_84 : decode cX4_come 84 = .ok (.iload 4, 2) := by decide +kernel
theorem dX4_come_86 : decode cX4_come 86 = .ok (.if_icmp .ne 18, 3) := by decide +kernel
theorem dX4_come_89 : decode cX4_come 89 = .ok (.aload_n 0, 1) := by decide +kernel
theorem dX4_come_90 : decode cX4_come 90 = .ok (.getfield 47, 3) := by decide +kernel
theorem dX4_come_93 : decode cX4_come 93 = .ok (.iload 6, 2) := by decide +kernel
theorem dX4_come_95 : decode cX4_come 95 = .ok (.iaload, 1) := by decide +kernel
theorem dX4_come_96 : decode cX4_come 96 = .ok (.iconst 1, 1) := by decide +kernel
theorem dX4_come_97 : decode cX4_come 97 = .ok (.if_icmp .ne 7, 3) := by decide +kernel
theorem dX4_come_100 : decode cX4_come 100 = .ok (.iconst 1, 1) := by decide +kernel
theorem dX4_come_101 : decode cX4_come 101 = .ok (.goto 4, 3) := by decide +kernel
theorem dX4_come_104 : decode cX4_come 104 = .ok (.iconst 0, 1) := by decide +kernel
theorem dX4_come_105 : decode cX4_come 105 = .ok (.istore 7, 2) := by decide +kernel
theorem dX4_come_107 : decode cX4_come 107 = .ok (.aload_n 0, 1) := by decide +kernel
theorem dX4_come_108 : decode cX4_come 108 = .ok (.getfield 44, 3) := by decide +kernel
theorem dX4_come_111 : decode cX4_come 111 = .ok (.iload 6, 2) := by decide +kernel
theorem dX4_come_113 : decode cX4_come 113 = .ok (.iload 7, 2) := by decide +kernel
theorem dX4_come_115 : decode cX4_come 115 = .ok (.ifCond .eq 7, 3) := by decide +kernel
theorem dX4_come_118 : decode cX4_come 118 = .ok (.iload_n 3, 1) := by decide +kernel
theorem dX4_come_119 : decode cX4_come 119 = .ok (.goto 10, 3) := by decide +kernel
theorem dX4_come_122 : decode cX4_come 122 = .ok (.aload_n 0, 1) := by decide +kernel
theorem dX4_come_123 : decode cX4_come 123 = .ok (.getfield 44, 3) := by decide +kernel
theorem dX4_come_126 : decode cX4_come 126 = .ok (.iload 6, 2) := by decide +kernel
theorem dX4_come_128 : decode cX4_come 128 = .ok (.iaload, 1) := by decide +kernel
theorem dX4_come_129 : decode cX4_come 129 = .ok (.iastore, 1) := by decide +kernel
theorem dX4_come_130 : decode cX4_come 130 = .ok (.iinc 6 1, 3) := by decide +kernel
theorem dX4_come_133 : decode cX4_come 133 = .ok (.goto (-79), 3) := by decide +kernel
theorem dX4_come_136 : decode cX4_come 136 = .ok (.iload 5, 2) := by decide +kernel
theorem dX4_come_138 : decode cX4_come 138 = .ok (.ireturn, 1) := by decide +kernel
def rmX4_come : Room := { frames := 5, cells := 0, slots := 0, locals := 131 }
noncomputable def f_X4_come_104 (k_54 : Int32 → Int32 → Int32 → Int32 → Int32 → MS → Option (Int32 × MS)) (x1 : Int32) (x3 : Int32) (x4 : Int32) (x5 : Int32) (x6 : Int32) (u : MS) : Option (Int32 × MS) := (if (0 : Int32) = 0 then (if ix x6 20 = true then (if ix x6 20 = true then k_54 x1 x3 x4 x5 (x6 + 1) (mA u 13 (Int32.toNatClampNeg x6) (u.2.1 13 (Int32.toNatClampNeg x6))) else none) else none) else (if ix x6 20 = true then k_54 x1 x3 x4 x5 (x6 + 1) (mA u 13 (Int32.toNatClampNeg x6) x3) else none))
noncomputable def f_X4_come_54 : Nat → Int32 → Int32 → Int32 → Int32 → Int32 → MS → Option (Int32 × MS)
  | 0, _, _, _, _, _, _ => none
  | n + 1, x1, x3, x4, x5, x6, u => (if (20 : Int32) ≤ x6 then (if zb x5 = true then some (x5, u) else none) else (if x5 = 0 then (if zb x5 = true then some (x5, u) else none) else (if ix x6 20 = true then (if (u.2.1 12 (Int32.toNatClampNeg x6)) = x1 then (if ix x6 20 = true then (if (u.2.1 13 (Int32.toNatClampNeg x6)) = x4 then (if ix x6 20 = true then (if (u.2.1 14 (Int32.toNatClampNeg x6)) = (1 : Int32) then (if (1 : Int32) = 0 then (if ix x6 20 = true then (if ix x6 20 = true then f_X4_come_54 n x1 x3 x4 x5 (x6 + 1) (mA u 13 (Int32.toNatClampNeg x6) (u.2.1 13 (Int32.toNatClampNeg x6))) else none) else none) else (if ix x6 20 = true then f_X4_come_54 n x1 x3 x4 x5 (x6 + 1) (mA u 13 (Int32.toNatClampNeg x6) x3) else none)) else f_X4_come_104 (f_X4_come_54 n) x1 x3 x4 x5 x6 u) else none) else f_X4_come_104 (f_X4_come_54 n) x1 x3 x4 x5 x6 u) else none) else f_X4_come_104 (f_X4_come_54 n) x1 x3 x4 x5 x6 u) else none)))
noncomputable def f_X4_come_22 (x1 : Int32) (x2 : Int32) (x3 : Int32) (t0 : Int32) (u : MS) : Option (Int32 × MS) := (f_X4_hasBlocks x1 u).bind (fun z3 => (if z3 = 0 then (f_X4_comeByLabel x1 x2 x3 u).bind (fun z6 => f_X4_come_54 NF x1 x3 t0 z6.1 0 z6.2) else (f_X4_comeToBlock x1 x2 x3 u).bind (fun z8 => f_X4_come_54 NF x1 x3 t0 z8.1 0 z8.2)))
noncomputable def f_X4_come (x1 : Int32) (x2 : Int32) (x3 : Int32) (u : MS) : Option (Int32 × MS) := (if x2 = 0 then f_X4_come_22 x1 x2 x3 (-1) u else (if ix (((600 * x1) + x2) - 1) 4800 = true then f_X4_come_22 x1 x2 x3 (u.2.1 7 (Int32.toNatClampNeg (((600 * x1) + x2) - 1))) u else none))
section
variable {p : Program} {l : Launch} {e : Env} {s : State} {m : MethodId} {args : Array Value} {below : List Frame} {meth : Method} {c : Code}
variable {G : GX} {A : Nat → Prop} {ad : Nat → Nat}
set_option maxHeartbeats 4000000 in
set_option maxRecDepth 100000 in
theorem w_X4_come_104 (F : FX p m c cX4_come 8 s args yX4_come (some .boolean) RX4 meth) {z : Int32 × MS} (k_54 : Int32 → Int32 → Int32 → Int32 → Int32 → MS → Option (Int32 × MS)) (hk_54 : ∀ (x1 : Int32) (x3 : Int32) (x4 : Int32) (x5 : Int32) (x6 : Int32) (u : MS) (H : Heap) (locs : List Loc) (ls : Array Slot), WD G A s (mw G ad u) H locs → lv_has ls 8 [(0, .ref (ad 0)), (1, .int x1), (3, .int x3), (4, .int x4), (5, .int x5), (6, .int x6)] → k_54 x1 x3 x4 x5 x6 u = some z → W p l e rmX4_come s m args below meth c H locs 0 0 (MQ below (QW G (mw G ad z.2) A (some (.int z.1))) args s 0 0 A) (F0 m 54 ls [])) : ∀ (x1 : Int32) (x3 : Int32) (x4 : Int32) (x5 : Int32) (x6 : Int32) (u : MS) (H : Heap) (locs : List Loc) (ls : Array Slot), WD G A s (mw G ad u) H locs → lv_has ls 8 [(0, .ref (ad 0)), (1, .int x1), (3, .int x3), (4, .int x4), (5, .int x5), (6, .int x6)] → f_X4_come_104 k_54 x1 x3 x4 x5 x6 u = some z → W p l e rmX4_come s m args below meth c H locs 0 0 (MQ below (QW G (mw G ad z.2) A (some (.int z.1))) args s 0 0 A) (F0 m 104 ls []) := by
  obtain ⟨⟨hx, hb, hml, hown, hts⟩, hr, hlocks⟩ := id F
  intro x1 x3 x4 x5 x6 u H locs ls hw hl h
  unfold f_X4_come_104 at h
  refine lv_iconst (v := 0) hx hb dX4_come_104 rfl ?_
  refine lv_istore (lv' := [(7, .int 0), (0, .ref (ad 0)), (1, .int x1), (3, .int x3), (4, .int x4), (5, .int x5), (6, .int x6)]) hx hb dX4_come_105 hl (by decide) rfl (fun ls hl => ?_)
  refine lv_aload_n hx hb dX4_come_107 rfl (lv_at hl 1 rfl) ?_
  refine m_g13 F hw dX4_come_108 ?_
  refine lv_iload hx hb dX4_come_111 (lv_at hl 6 rfl) ?_
  refine lv_iload hx hb dX4_come_113 (lv_at hl 0 rfl) ?_
  refine lv_if_eq (tgt := 122) hx hb dX4_come_115 rfl (fun c24 => ?_) (fun c24 => ?_)
  · replace h := itT h c24
    refine lv_aload_n hx hb dX4_come_122 rfl (lv_at hl 1 rfl) ?_
    refine m_g13 F hw dX4_come_123 ?_
    refine lv_iload hx hb dX4_come_126 (lv_at hl 6 rfl) ?_
    obtain ⟨g25, h⟩ := gd h
    refine m_l13 F hw g25 dX4_come_128 ?_
    obtain ⟨g26, h⟩ := gd h
    refine m_s13 F hw g26 dX4_come_129 (fun H locs hw => ?_)
    refine lv_iinc (v := (x6 + 1)) (lv' := [(6, .int (x6 + 1)), (7, .int 0), (0, .ref (ad 0)), (1, .int x1), (3, .int x3), (4, .int x4), (5, .int x5)]) hx hb dX4_come_130 hl (k := 6) rfl rfl (by decide) rfl (fun ls hl => ?_)
    refine lv_goto (tgt := 54) hx hb dX4_come_133 rfl ?_
    exact hk_54 _ _ _ _ _ _ _ _ _ hw (lv_sub hl [2, 3, 4, 5, 6, 0] rfl) h
  · replace h := itF h c24
    refine lv_iload_n hx hb dX4_come_118 rfl (lv_at hl 3 rfl) ?_
    refine lv_goto (tgt := 129) hx hb dX4_come_119 rfl ?_
    obtain ⟨g27, h⟩ := gd h
    refine m_s13 F hw g27 dX4_come_129 (fun H locs hw => ?_)
    refine lv_iinc (v := (x6 + 1)) (lv' := [(6, .int (x6 + 1)), (7, .int 0), (0, .ref (ad 0)), (1, .int x1), (3, .int x3), (4, .int x4), (5, .int x5)]) hx hb dX4_come_130 hl (k := 6) rfl rfl (by decide) rfl (fun ls hl => ?_)
    refine lv_goto (tgt := 54) hx hb dX4_come_133 rfl ?_
    exact hk_54 _ _ _ _ _ _ _ _ _ hw (lv_sub hl [2, 3, 4, 5, 6, 0] rfl) h
set_option maxHeartbeats 4000000 in
set_option maxRecDepth 100000 in
theorem w_X4_come_54 (F : FX p m c cX4_come 8 s args yX4_come (some .boolean) RX4 meth) {z : Int32 × MS} : ∀ (n : Nat) (x1 : Int32) (x3 : Int32) (x4 : Int32) (x5 : Int32) (x6 : Int32) (u : MS) (H : Heap) (locs : List Loc) (ls : Array Slot), WD G A s (mw G ad u) H locs → lv_has ls 8 [(0, .ref (ad 0)), (1, .int x1), (3, .int x3), (4, .int x4), (5, .int x5), (6, .int x6)] → f_X4_come_54 n x1 x3 x4 x5 x6 u = some z → W p l e rmX4_come s m args below meth c H locs 0 0 (MQ below (QW G (mw G ad z.2) A (some (.int z.1))) args s 0 0 A) (F0 m 54 ls []) := by
  obtain ⟨⟨hx, hb, hml, hown, hts⟩, hr, hlocks⟩ := id F
  intro n
  induction n with
  | zero =>
    intro x1 x3 x4 x5 x6 u H locs ls hw hl h
    rw [f_X4_come_54] at h
    cases h
  | succ n ih =>
    intro x1 x3 x4 x5 x6 u H locs ls hw hl h
    rw [f_X4_come_54] at h
    refine lv_iload hx hb dX4_come_54 (lv_at hl 5 rfl) ?_
    refine lv_bipush (v := 20) hx hb dX4_come_56 rfl ?_
    refine lv_icmp_ge (tgt := 136) hx hb dX4_come_58 rfl (fun c10 => ?_) (fun c10 => ?_)
    · replace h := itT h c10
      refine lv_iload hx hb dX4_come_136 (lv_at hl 4 rfl) ?_
      obtain ⟨g11, h⟩ := gd h
      cases h
      exact retW_z F hw (zb_ok g11) dX4_come_138
    · replace h := itF h c10
      refine lv_iload hx hb dX4_come_61 (lv_at hl 4 rfl) ?_
      refine lv_if_eq (tgt := 136) hx hb dX4_come_63 rfl (fun c12 => ?_) (fun c12 => ?_)
      · replace h := itT h c12
        refine lv_iload hx hb dX4_come_136 (lv_at hl 4 rfl) ?_
        obtain ⟨g13, h⟩ := gd h
        cases h
        exact retW_z F hw (zb_ok g13) dX4_come_138
      · replace h := itF h c12
        refine lv_aload_n hx hb dX4_come_66 rfl (lv_at hl 0 rfl) ?_
        refine m_g12 F hw dX4_come_67 ?_
        refine lv_iload hx hb dX4_come_70 (lv_at hl 5 rfl) ?_
        obtain ⟨g14, h⟩ := gd h
        refine m_l12 F hw g14 dX4_come_72 ?_
        refine lv_iload_n hx hb dX4_come_73 rfl (lv_at hl 1 rfl) ?_
        refine lv_icmp_ne (tgt := 104) hx hb dX4_come_74 rfl (fun c15 => ?_) (fun c15 => ?_)
        · replace h := itF h c15
          exact w_X4_come_104 F (f_X4_come_54 n) (fun x1 x3 x4 x5 x6 u H locs ls hw hl h => ih x1 x3 x4 x5 x6 u H locs ls hw hl h) _ _ _ _ _ _ _ _ _ hw (lv_sub hl [0, 1, 2, 3, 4, 5] rfl) h
        · replace h := itT h c15
          refine lv_aload_n hx hb dX4_come_77 rfl (lv_at hl 0 rfl) ?_
          refine m_g13 F hw dX4_come_78 ?_
          refine lv_iload hx hb dX4_come_81 (lv_at hl 5 rfl) ?_
          obtain ⟨g16, h⟩ := gd h
          refine m_l13 F hw g16 dX4_come_83 ?_
          refine lv_iload hx hb dX4_come_84 (lv_at hl 3 rfl) ?_
          refine lv_icmp_ne (tgt := 104) hx hb dX4_come_86 rfl (fun c17 => ?_) (fun c17 => ?_)
          · replace h := itF h c17
            exact w_X4_come_104 F (f_X4_come_54 n) (fun x1 x3 x4 x5 x6 u H locs ls hw hl h => ih x1 x3 x4 x5 x6 u H locs ls hw hl h) _ _ _ _ _ _ _ _ _ hw (lv_sub hl [0, 1, 2, 3, 4, 5] rfl) h
          · replace h := itT h c17
            refine lv_aload_n hx hb dX4_come_89 rfl (lv_at hl 0 rfl) ?_
            refine m_g14 F hw dX4_come_90 ?_
            refine lv_iload hx hb dX4_come_93 (lv_at hl 5 rfl) ?_
            obtain ⟨g18, h⟩ := gd h
            refine m_l14 F hw g18 dX4_come_95 ?_
            refine lv_iconst (v := 1) hx hb dX4_come_96 rfl ?_
            refine lv_icmp_ne (tgt := 104) hx hb dX4_come_97 rfl (fun c19 => ?_) (fun c19 => ?_)
            · replace h := itF h c19
              exact w_X4_come_104 F (f_X4_come_54 n) (fun x1 x3 x4 x5 x6 u H locs ls hw hl h => ih x1 x3 x4 x5 x6 u H locs ls hw hl h) _ _ _ _ _ _ _ _ _ hw (lv_sub hl [0, 1, 2, 3, 4, 5] rfl) h
            · replace h := itT h c19
              refine lv_iconst (v := 1) hx hb dX4_come_100 rfl ?_
              refine lv_goto (tgt := 105) hx hb dX4_come_101 rfl ?_
              refine lv_istore (lv' := [(7, .int 1), (0, .ref (ad 0)), (1, .int x1), (3, .int x3), (4, .int x4), (5, .int x5), (6, .int x6)]) hx hb dX4_come_105 hl (by decide) rfl (fun ls hl => ?_)
              refine lv_aload_n hx hb dX4_come_107 rfl (lv_at hl 1 rfl) ?_
              refine m_g13 F hw dX4_come_108 ?_
              refine lv_iload hx hb dX4_come_111 (lv_at hl 6 rfl) ?_
              refine lv_iload hx hb dX4_come_113 (lv_at hl 0 rfl) ?_
              refine lv_if_eq (tgt := 122) hx hb dX4_come_115 rfl (fun c20 => ?_) (fun c20 => ?_)
              · replace h := itT h c20
                refine lv_aload_n hx hb dX4_come_122 rfl (lv_at hl 1 rfl) ?_
                refine m_g13 F hw dX4_come_123 ?_
                refine lv_iload hx hb dX4_come_126 (lv_at hl 6 rfl) ?_
                obtain ⟨g21, h⟩ := gd h
                refine m_l13 F hw g21 dX4_come_128 ?_
                obtain ⟨g22, h⟩ := gd h
                refine m_s13 F hw g22 dX4_come_129 (fun H locs hw => ?_)
                refine lv_iinc (v := (x6 + 1)) (lv' := [(6, .int (x6 + 1)), (7, .int 1), (0, .ref (ad 0)), (1, .int x1), (3, .int x3), (4, .int x4), (5, .int x5)]) hx hb dX4_come_130 hl (k := 6) rfl rfl (by decide) rfl (fun ls hl => ?_)
                refine lv_goto (tgt := 54) hx hb dX4_come_133 rfl ?_
                exact ih _ _ _ _ _ _ _ _ _ hw (lv_sub hl [2, 3, 4, 5, 6, 0] rfl) h
              · replace h := itF h c20
                refine lv_iload_n hx hb dX4_come_118 rfl (lv_at hl 3 rfl) ?_
                refine lv_goto (tgt := 129) hx hb dX4_come_119 rfl ?_
                obtain ⟨g23, h⟩ := gd h
                refine m_s13 F hw g23 dX4_come_129 (fun H locs hw => ?_)
                refine lv_iinc (v := (x6 + 1)) (lv' := [(6, .int (x6 + 1)), (7, .int 1), (0, .ref (ad 0)), (1, .int x1), (3, .int x3), (4, .int x4), (5, .int x5)]) hx hb dX4_come_130 hl (k := 6) rfl rfl (by decide) rfl (fun ls hl => ?_)
                refine lv_goto (tgt := 54) hx hb dX4_come_133 rfl ?_
                exact ih _ _ _ _ _ _ _ _ _ hw (lv_sub hl [2, 3, 4, 5, 6, 0] rfl) h
set_option maxHeartbeats 4000000 in
set_option maxRecDepth 100000 in
theorem w_X4_come_22 (F : FX p m c cX4_come 8 s args yX4_come (some .boolean) RX4 meth) {z : Int32 × MS} : ∀ (x1 : Int32) (x2 : Int32) (x3 : Int32) (t0 : Int32) (u : MS) (H : Heap) (locs : List Loc) (ls : Array Slot), WD G A s (mw G ad u) H locs → lv_has ls 8 [(0, .ref (ad 0)), (1, .int x1), (2, .int x2), (3, .int x3)] → f_X4_come_22 x1 x2 x3 t0 u = some z → W p l e rmX4_come s m args below meth c H locs 0 0 (MQ below (QW G (mw G ad z.2) A (some (.int z.1))) args s 0 0 A) (F0 m 22 ls [.int t0]) := by
  obtain ⟨⟨hx, hb, hml, hown, hts⟩, hr, hlocks⟩ := id F
  intro x1 x2 x3 t0 u H locs ls hw hl h
  unfold f_X4_come_22 at h
  refine lv_istore (lv' := [(4, .int t0), (0, .ref (ad 0)), (1, .int x1), (2, .int x2), (3, .int x3)]) hx hb dX4_come_22 hl (by decide) rfl (fun ls hl => ?_)
  refine lv_aload_n hx hb dX4_come_24 rfl (lv_at hl 1 rfl) ?_
  refine lv_iload_n hx hb dX4_come_25 rfl (lv_at hl 2 rfl) ?_
  obtain ⟨z3, e4, h⟩ := bnd h
  refine k_X4_hasBlocks F hw e4 ⟨Nat.le_of_ble_eq_true rfl, Nat.le_of_ble_eq_true rfl⟩ ⟨Nat.zero_le _, Nat.zero_le _⟩ hl.1 (Nat.le_of_ble_eq_true rfl) dX4_come_26 ?_
  refine lv_if_eq (tgt := 42) hx hb dX4_come_29 rfl (fun c5 => ?_) (fun c5 => ?_)
  · replace h := itT h c5
    refine lv_aload_n hx hb dX4_come_42 rfl (lv_at hl 1 rfl) ?_
    refine lv_iload_n hx hb dX4_come_43 rfl (lv_at hl 2 rfl) ?_
    refine lv_iload_n hx hb dX4_come_44 rfl (lv_at hl 3 rfl) ?_
    refine lv_iload_n hx hb dX4_come_45 rfl (lv_at hl 4 rfl) ?_
    obtain ⟨z6, e7, h⟩ := bnd h
    refine k_X4_comeByLabel F hw e7 ⟨Nat.le_of_ble_eq_true rfl, Nat.le_of_ble_eq_true rfl⟩ ⟨Nat.zero_le _, Nat.zero_le _⟩ hl.1 (Nat.le_of_ble_eq_true rfl) dX4_come_46 (fun H locs hw => ?_)
    refine lv_istore (lv' := [(5, .int z6.1), (4, .int t0), (0, .ref (ad 0)), (1, .int x1), (2, .int x2), (3, .int x3)]) hx hb dX4_come_49 hl (by decide) rfl (fun ls hl => ?_)
    refine lv_iconst (v := 0) hx hb dX4_come_51 rfl ?_
    refine lv_istore (lv' := [(6, .int 0), (5, .int z6.1), (4, .int t0), (0, .ref (ad 0)), (1, .int x1), (2, .int x2), (3, .int x3)]) hx hb dX4_come_52 hl (by decide) rfl (fun ls hl => ?_)
    exact w_X4_come_54 F NF _ _ _ _ _ _ _ _ _ hw (lv_sub hl [3, 4, 6, 2, 1, 0] rfl) h
  · replace h := itF h c5
    refine lv_aload_n hx hb dX4_come_32 rfl (lv_at hl 1 rfl) ?_
    refine lv_iload_n hx hb dX4_come_33 rfl (lv_at hl 2 rfl) ?_
    refine lv_iload_n hx hb dX4_come_34 rfl (lv_at hl 3 rfl) ?_
    refine lv_iload_n hx hb dX4_come_35 rfl (lv_at hl 4 rfl) ?_
    obtain ⟨z8, e9, h⟩ := bnd h
    refine k_X4_comeToBlock F hw e9 ⟨Nat.le_of_ble_eq_true rfl, Nat.le_of_ble_eq_true rfl⟩ ⟨Nat.zero_le _, Nat.zero_le _⟩ hl.1 (Nat.le_of_ble_eq_true rfl) dX4_come_36 (fun H locs hw => ?_)
    refine lv_goto (tgt := 49) hx hb dX4_come_39 rfl ?_
    refine lv_istore (lv' := [(5, .int z8.1), (4, .int t0), (0, .ref (ad 0)), (1, .int x1), (2, .int x2), (3, .int x3)]) hx hb dX4_come_49 hl (by decide) rfl (fun ls hl => ?_)
    refine lv_iconst (v := 0) hx hb dX4_come_51 rfl ?_
    refine lv_istore (lv' := [(6, .int 0), (5, .int z8.1), (4, .int t0), (0, .ref (ad 0)), (1, .int x1), (2, .int x2), (3, .int x3)]) hx hb dX4_come_52 hl (by decide) rfl (fun ls hl => ?_)
    exact w_X4_come_54 F NF _ _ _ _ _ _ _ _ _ hw (lv_sub hl [3, 4, 6, 2, 1, 0] rfl) h
set_option maxHeartbeats 4000000 in
set_option maxRecDepth 100000 in
theorem w_X4_come_0 (F : FX p m c cX4_come 8 s args yX4_come (some .boolean) RX4 meth) {z : Int32 × MS} : ∀ (x1 : Int32) (x2 : Int32) (x3 : Int32) (u : MS) (H : Heap) (locs : List Loc) (ls : Array Slot), WD G A s (mw G ad u) H locs → lv_has ls 8 [(0, .ref (ad 0)), (1, .int x1), (2, .int x2), (3, .int x3)] → f_X4_come x1 x2 x3 u = some z → W p l e rmX4_come s m args below meth c H locs 0 0 (MQ below (QW G (mw G ad z.2) A (some (.int z.1))) args s 0 0 A) (F0 m 0 ls []) := by
  obtain ⟨⟨hx, hb, hml, hown, hts⟩, hr, hlocks⟩ := id F
  intro x1 x2 x3 u H locs ls hw hl h
  unfold f_X4_come at h
  refine lv_iload_n hx hb dX4_come_0 rfl (lv_at hl 2 rfl) ?_
  refine lv_if_ne (tgt := 8) hx hb dX4_come_1 rfl (fun c1 => ?_) (fun c1 => ?_)
  · replace h := itF h c1
    refine lv_aload_n hx hb dX4_come_8 rfl (lv_at hl 0 rfl) ?_
    refine m_g7 F hw dX4_come_9 ?_
    refine lv_sipush (v := 600) hx hb dX4_come_12 rfl ?_
    refine lv_iload_n hx hb dX4_come_15 rfl (lv_at hl 1 rfl) ?_
    refine lv_imul hx hb dX4_come_16 ?_
    refine lv_iload_n hx hb dX4_come_17 rfl (lv_at hl 2 rfl) ?_
    refine lv_iadd hx hb dX4_come_18 ?_
    refine lv_iconst (v := 1) hx hb dX4_come_19 rfl ?_
    refine lv_isub hx hb dX4_come_20 ?_
    obtain ⟨g2, h⟩ := gd h
    refine m_l7 F hw g2 dX4_come_21 ?_
    exact w_X4_come_22 F _ _ _ _ _ _ _ _ hw (lv_sub hl [0, 1, 2, 3] rfl) h
  · replace h := itT h c1
    refine lv_iconst (v := (-1)) hx hb dX4_come_4 rfl ?_
    refine lv_goto (tgt := 22) hx hb dX4_come_5 rfl ?_
    exact w_X4_come_22 F _ _ _ _ _ _ _ _ hw (lv_sub hl [0, 1, 2, 3] rfl) h
end
theorem c_X4_come {l : Launch} {G : GX} {ad : Nat → Nat} {x1 : Int32} {x2 : Int32} {x3 : Int32} {u : MS} {z : Int32 × MS} (h : f_X4_come x1 x2 x3 u = some z) : MW l yX4_come cX4_come 8 (some .boolean) rmX4_come G (mw G ad u) (mw G ad z.2) [.ref (ad 0), .int x1, .int x2, .int x3] (some (.int z.1)) := MW.of (by decide) (Nat.le_of_ble_eq_true rfl) (fun p e s m below meth c ls F hw hl => w_X4_come_0 F _ _ _ _ _ _ _ hw hl h)
theorem yv_X4_come : YV RX4 180 yX4_come cX4_come 8 (some .boolean) 3 := ⟨(tw 653 (by decide +kernel) rfl), (tw 6 (by decide +kernel) rfl), (tw 650 (by decide +kernel) rfl), (tw 652 (by decide +kernel) rfl), (tp 22 (by decide +kernel) rfl), by decide +kernel⟩
theorem k_X4_come {p : Program} {l : Launch} {e : Env} {R : Room} {s : State} {m : MethodId} {args : Array Value} {below : List Frame} {meth : Method} {c : Code} {H : Heap} {locs : List Loc} {cells slots : Nat} {Q : State → Prop} {G : GX} {A : Nat → Prop} {ad : Nat → Nat} {cc : ByteArray} {nL pc : Nat} {y0 : MethodName} {ret0 : Option FieldType} {ls : Array Slot} {rest : List Value} {u : MS} {x1 : Int32} {x2 : Int32} {x3 : Int32} {z : Int32 × MS} (F : FX p m c cc nL s args y0 ret0 RX4 meth) (hw : WD G A s (mw G ad u) H locs) (h : f_X4_come x1 x2 x3 u = some z) (hR : rmX4_come.frames + 1 ≤ R.frames ∧ 8 + (8 + 11) + rmX4_come.locals ≤ R.locals) (hcs : cells ≤ R.cells ∧ slots ≤ R.slots) (hsz : ls.size = nL) (hW : (rest.map fun v => v.category).sum ≤ 8) (hdg : decode cc pc = .ok (.invokevirtual 180, 3)) (kk : ∀ (H : Heap) (locs : List Loc), WD G A s (mw G ad z.2) H locs → W p l e R s m args below meth c H locs cells slots Q (F0 m (pc + 3) ls (.int z.1 :: rest))) : W p l e R s m args below meth c H locs cells slots Q (F0 m pc ls (.int x3 :: .int x2 :: .int x1 :: .ref (ad 0) :: rest)) := callW (runV F yv_X4_come (c_X4_come h) hw.1 hw.2.1 hw.2.2.1 rfl rfl rfl ⟨rfl, rfl⟩ hR hcs rfl hsz rfl hW hdg) hw.2.2.2 hw.2.2.1.own_in (fun H1 l1 hP _ hS => kk H1 l1 ⟨hw.1, hP, hw.2.2.1.addr rfl, hS⟩)
/-! ===== X4_leave ===== -/
theorem dX4_leave_0 : decode cX4_leave 0 = .ok (.aload_n 0, 1) := by decide +kernel
theorem dX4_leave_1 : decode cX4_leave 1 = .ok (.getfield 25, 3) := by decide +kernel
theorem dX4_leave_4 : decode cX4_leave 4 = .ok (.sipush 600, 3) := by decide +kernel
theorem dX4_leave_7 : decode cX4_leave 7 = .ok (.iload_n 1, 1) := by decide +kernel
theorem dX4_leave_8 : decode cX4_leave 8 = .ok (.imul, 1) := by decide +kernel
theorem dX4_leave_9 : decode cX4_leave 9 = .ok (.iload_n 2, 1) := by decide +kernel
theorem dX4_leave_10 : decode cX4_leave 10 = .ok (.iadd, 1) := by decide +kernel
theorem dX4_leave_11 : decode cX4_leave 11 = .ok (.iaload, 1) := by decide +kernel
theorem dX4_leave_12 : decode cX4_leave 12 = .ok (.istore_n 3, 1) := by decide +kernel
theorem dX4_leave_13 : decode cX4_leave 13 = .ok (.iload_n 2, 1) := by decide +kernel
theorem dX4_leave_14 : decode cX4_leave 14 = .ok (.ifCond .ne 7, 3) := by decide +kernel
theorem dX4_leave_17 : decode cX4_leave 17 = .ok (.iconst (-1), 1) := by decide +kernel
theorem dX4_leave_18 : decode cX4_leave 18 = .ok (.goto 17, 3) := by decide +kernel
theorem dX4_leave_21 : decode cX4_leave 21 = .ok (.aload_n 0, 1) := by decide +kernel
theorem dX4_leave_22 : decode cX4_leave 22 = .ok (.getfield 25, 3) := by decide +kernel
theorem dX4_leave_25 : decode cX4_leave 25 = .ok (.sipush 600, 3) := by decide +kernel
theorem dX4_leave_28 : decode cX4_leave 28 = .ok (.iload_n 1, 1) := by decide +kernel
theorem dX4_leave_29 : decode cX4_leave 29 = .ok (.imul, 1) := by decide +kernel
theorem dX4_leave_30 : decode cX4_leave 30 = .ok (.iload_n 2, 1) := by decide +kernel
theorem dX4_leave_31 : decode cX4_leave 31 = .ok (.iadd, 1) := by decide +kernel
theorem dX4_leave_32 : decode cX4_leave 32 = .ok (.iconst 1, 1) := by decide +kernel
theorem dX4_leave_33 : decode cX4_leave 33 = .ok (.isub, 1) := by decide +kernel
theorem dX4_leave_34 : decode cX4_leave 34 = .ok (.iaload, 1) := by decide +kernel
theorem dX4_leave_35 : decode cX4_leave 35 = .ok (.istore 4, 2) := by decide +kernel
theorem dX4_leave_37 : decode cX4_leave 37 = .ok (.aload_n 0, 1) := by decide +kernel
theorem dX4_leave_38 : decode cX4_leave 38 = .ok (.iload_n 1, 1) := by decide +kernel
theorem dX4_leave_39 : decode cX4_leave 39 = .ok (.invokevirtual 161, 3) := by decide +kernel
theorem dX4_leave_42 : decode cX4_leave 42 = .ok (.ifCond .eq 131, 3) := by decide +kernel
theorem dX4_leave_45 : decode cX4_leave 45 = .ok (.aload_n 0, 1) := by decide +kernel
theorem dX4_leave_46 : decode cX4_leave 46 = .ok (.iload_n 1, 1) := by decide +kernel
theorem dX4_leave_47 : decode cX4_leave 47 = .ok (.iload_n 2, 1) := by decide +kernel
theorem dX4_leave_48 : decode cX4_leave 48 = .ok (.invokevirtual 146, 3) := by decide +kernel
theorem dX4_leave_51 : decode cX4_leave 51 = .ok (.istore 5, 2) := by decide +kernel
theorem dX4_leave_53 : decode cX4_leave 53 = .ok (.aload_n 0, 1) := by decide +kernel
theorem dX4_leave_54 : decode cX4_leave 54 = .ok (.getfield 28, 3) := by decide +kernel
theorem dX4_leave_57 : decode cX4_leave 57 = .ok (.sipush 600, 3) := by decide +kernel
theorem dX4_leave_60 : decode cX4_leave 60 = .ok (.iload_n 1, 1) := by decide +kernel
theorem dX4_leave_61 : decode cX4_leave 61 = .ok (.imul, 1) := by decide +kernel
theorem dX4_leave_62 : decode cX4_leave 62 = .ok (.iload 5, 2) := by decide +kernel
theorem dX4_leave_64 : decode cX4_leave 64 = .ok (.iadd, 1) := by decide +kernel
theorem dX4_leave_65 : decode cX4_leave 65 = .ok (.dup2, 1) := by decide +kernel
theorem dX4_leave_66 : decode cX4_leave 66 = .ok (.iaload, 1) := by decide +kernel
theorem dX4_leave_67 : decode cX4_leave 67 = .ok (.iconst 1, 1) := by decide +kernel
theorem dX4_leave_68 : decode cX4_leave 68 = .ok (.isub, 1) := by decide +kernel
theorem dX4_leave_69 : decode cX4_leave 69 = .ok (.iastore, 1) := by decide +kernel
theorem dX4_leave_70 : decode cX4_leave 70 = .ok (.aload_n 0, 1) := by decide +kernel
theorem dX4_leave_71 : decode cX4_leave 71 = .ok (.getfield 28, 3) := by decide +kernel
theorem dX4_leave_74 : decode cX4_leave 74 = .ok (.sipush 600, 3) := by decide +kernel
theorem dX4_leave_77 : decode cX4_leave 77 = .ok (.iload_n 1, 1) := by decide +kernel
theorem dX4_leave_78 : decode cX4_leave 78 = .ok (.imul, 1) := by decide +kernel
theorem dX4_leave_79 : decode cX4_leave 79 = .ok (.iload 5, 2) := by decide +kernel
theorem dX4_leave_81 : decode cX4_leave 81 = .ok (.iadd, 1) := by decide +kernel
theorem dX4_leave_82 : decode cX4_leave 82 = .ok (.iaload, 1) := by decide +kernel
theorem dX4_leave_83 : decode cX4_leave 83 = .ok (.ifCond .ne 90, 3) := by decide +kernel
theorem dX4_leave_86 : decode cX4_leave 86 = .ok (.aload_n 0, 1) := by decide +kernel
theorem dX4_leave_87 : decode cX4_leave 87 = .ok (.getfield 22, 3) := by decide +kernel
theorem dX4_leave_90 : decode cX4_leave 90 = .ok (.iload_n 1, 1) := by decide +kernel
theorem dX4_leave_91 : decode cX4_leave 91 = .ok (.dup2, 1) := by decide +kernel
theorem dX4_leave_92 : decode cX4_leave 92 = .ok (.iaload, 1) := by decide +kernel
theorem dX4_leave_93 : decode cX4_leave 93 = .ok (.iconst 1, 1) := by decide +kernel
theorem dX4_leave_94 : decode cX4_leave 94 = .ok (.isub, 1) := by decide +kernel
theorem dX4_leave_95 : decode cX4_leave 95 = .ok (.iastore, 1) := by decide +kernel
theorem dX4_leave_96 : decode cX4_leave 96 = .ok (.iload 5, 2) := by decide +kernel
theorem dX4_leave_98 : decode cX4_leave 98 = .ok (.istore 6, 2) := by decide +kernel
theorem dX4_leave_100 : decode cX4_leave 100 = .ok (.iload 6, 2) := by decide +kernel
theorem dX4_leave_102 : decode cX4_leave 102 = .ok (.aload_n 0, 1) := by decide +kernel
theorem dX4_leave_103 : decode cX4_leave 103 = .ok (.getfield 22, 3) := by decide +kernel
theorem dX4_leave_106 : decode cX4_leave 106 = .ok (.iload_n 1, 1) := by decide +kernel
theorem dX4_leave_107 : decode cX4_leave 107 = .ok (.iaload, 1) := by decide +kernel
theorem dX4_leave_108 : decode cX4_leave 108 = .ok (.if_icmp .ge 65, 3) := by decide +kernel
theorem dX4_leave_111 : decode cX4_leave 111 = .ok (.aload_n 0, 1) := by decide +kernel
theorem dX4_leave_112 : decode cX4_leave 112 = .ok (.getfield 28, 3) := by decide +kernel
theorem dX4_leave_115 : decode cX4_leave 115 = .ok (.sipush 600, 3) := by decide +kernel
theorem dX4_leave_118 : decode cX4_leave 118 = .ok (.iload_n 1, 1) := by decide +kernel
theorem dX4_leave_119 : decode cX4_leave 119 = .ok (.imul, 1) := by decide +kernel
theorem dX4_leave_120 : decode cX4_leave 120 = .ok (.iload 6, 2) := by decide +kernel
theorem dX4_leave_122 : decode cX4_leave 122 = .ok (.iadd, 1) := by decide +kernel
theorem dX4_leave_123 : decode cX4_leave 123 = .ok (.aload_n 0, 1) := by decide +kernel
theorem dX4_leave_124 : decode cX4_leave 124 = .ok (.getfield 28, 3) := by decide +kernel
theorem dX4_leave_127 : decode cX4_leave 127 = .ok (.sipush 600, 3) := by decide +kernel
theorem dX4_leave_130 : decode cX4_leave 130 = .ok (.iload_n 1, 1) := by decide +kernel
theorem dX4_leave_131 : decode cX4_leave 131 = .ok (.imul, 1) := by decide +kernel
theorem dX4_leave_132 : decode cX4_leave 132 = .ok (.iload 6, 2) := by decide +kernel
theorem dX4_leave_134 : decode cX4_leave 134 = .ok (.iadd, 1) := by decide +kernel
theorem dX4_leave_135 : decode cX4_leave 135 = .ok (.iconst 1, 1) := by decide +kernel
theorem dX4_leave_136 : decode cX4_leave 136 = .ok (.iadd, 1) := by decide +kernel
theorem dX4_leave_137 : decode cX4_leave 137 = .ok (.iaload, 1) := by decide +kernel
theorem dX4_leave_138 : decode cX4_leave 138 = .ok (.iastore, 1) := by decide +kernel
theorem dX4_leave_139 : decode cX4_leave 139 = .ok (.aload_n 0, 1) := by decide +kernel
theorem dX4_leave_140 : decode cX4_leave 140 = .ok (.getfield 31, 3) := by decide +kernel
theorem dX4_leave_143 : decode cX4_leave 143 = .ok (.sipush 600, 3) := by decide +kernel
theorem dX4_leave_146 : decode cX4_leave 146 = .ok (.iload_n 1, 1) := by decide +kernel
theorem dX4_leave_147 : decode cX4_leave 147 = .ok (.imul, 1) := by decide +kernel
theorem dX4_leave_148 : decode cX4_leave 148 = .ok (.iload 6, 2) := by decide +kernel
theorem dX4_leave_150 : decode cX4_leave 150 = .ok (.iadd, 1) := by decide +kernel
theorem dX4_leave_151 : decode cX4_leave 151 = .ok (.aload_n 0, 1) := by decide +kernel
theorem dX4_leave_152 : decode cX4_leave 152 = .ok (.getfield 31, 3) := by decide +kernel
theorem dX4_leave_155 : decode cX4_leave 155 = .ok (.sipush 600, 3) := by decide +kernel
theorem dX4_leave_158 : decode cX4_leave 158 = .ok (.iload_n 1, 1) := by decide +kernel
theorem dX4_leave_159 : decode cX4_leave 159 = .ok (.imul, 1) := by decide +kernel
theorem dX4_leave_160 : decode cX4_leave 160 = .ok (.iload 6, 2) := by decide +kernel
theorem dX4_leave_162 : decode cX4_leave 162 = .ok (.iadd, 1) := by decide +kernel
theorem dX4_leave_163 : decode cX4_leave 163 = .ok (.iconst 1, 1) := by decide +kernel
theorem dX4_leave_164 : decode cX4_leave 164 = .ok (.iadd, 1) := by decide +kernel
theorem dX4_leave_165 : decode cX4_leave 165 = .ok (.laload, 1) := by decide +kernel
theorem dX4_leave_166 : decode cX4_leave 166 = .ok (.lastore, 1) := by decide +kernel
theorem dX4_leave_167 : decode cX4_leave 167 = .ok (.iinc 6 1, 3) := by decide +kernel
theorem dX4_leave_170 : decode cX4_leave 170 = .ok (.goto (-70), 3) := by decide +kernel
theorem dX4_leave_173 : decode cX4_leave 173 = .ok (.aload_n 0, 1) := by decide +kernel
theorem dX4_leave_174 : decode cX4_leave 174 = .ok (.getfield 16, 3) := by decide +kernel
theorem dX4_leave_177 : decode cX4_leave 177 = .ok (.iload_n 1, 1) := by decide +kernel
theorem dX4_leave_178 : decode cX4_leave 178 = .ok (.dup2, 1) := by decide +kernel
theorem dX4_leave_179 : decode cX4_leave 179 = .ok (.iaload, 1) := by decide +kernel
theorem dX4_leave_180 : decode cX4_leave 180 = .ok (.iconst 1, 1) := by decide +kernel
theorem dX4_leave_181 : decode cX4_leave 181 = .ok (.isub, 1) := by decide +kernel
theorem dX4_leave_182 : decode cX4_leave 182 = .ok (.iastore, 1) := by decide +kernel
theorem dX4_leave_183 : decode cX4_leave 183 = .ok (.iload_n 2, 1) := by decide +kernel
theorem dX4_leave_184 : decode cX4_leave 184 = .ok (.istore 5, 2) := by decide +kernel
theorem dX4_leave_186 : decode cX4_leave 186 = .ok (.iload 5, 2) := by decide +kernel
theorem dX4_leave_188 : decode cX4_leave 188 = .ok (.aload_n 0, 1) := by decide +kernel
theorem dX4_leave_189 : decode cX4_leave 189 = .ok (.getfield 16, 3) := by decide +kernel
theorem dX4_leave_192 : decode cX4_leave 192 = .ok (.iload_n 1, 1) := by decide +kernel
theorem dX4_leave_193 : decode cX4_leave 193 = .ok (.iaload, 1) := by decide +kernel
theorem dX4_leave_194 : decode cX4_leave 194 = .ok (.if_icmp .ge 37, 3) := by decide +kernel
theorem dX4_leave_197 : decode cX4_leave 197 = .ok (.aload_n 0, 1) := by decide +kernel
theorem dX4_leave_198 : decode cX4_leave 198 = .ok (.getfield 25, 3) := by decide +kernel
theorem dX4_leave_201 : decode cX4_leave 201 = .ok (.sipush 600, 3) := by decide +kernel
theorem dX4_leave_204 : decode cX4_leave 204 = .ok (.iload_n 1, 1) := by decide +kernel
theorem dX4_leave_205 : decode cX4_leave 205 = .ok (.imul, 1) := by decide +kernel
theorem dX4_leave_206 : decode cX4_leave 206 = .ok (.iload 5, 2) := by decide +kernel
theorem dX4_leave_208 : decode cX4_leave 208 = .ok (.iadd, 1) := by decide +kernel
theorem dX4_leave_209 : decode cX4_leave 209 = .ok (.aload_n 0, 1) := by decide +kernel
theorem dX4_leave_210 : decode cX4_leave 210 = .ok (.getfield 25, 3) := by decide +kernel
theorem dX4_leave_213 : decode cX4_leave 213 = .ok (.sipush 600, 3) := by decide +kernel
theorem dX4_leave_216 : decode cX4_leave 216 = .ok (.iload_n 1, 1) := by decide +kernel
theorem dX4_leave_217 : decode cX4_leave 217 = .ok (.imul, 1) := by decide +kernel
theorem dX4_leave_218 : decode cX4_leave 218 = .ok (.iload 5, 2) := by decide +kernel
theorem dX4_leave_220 : decode cX4_leave 220 = .ok (.iadd, 1) := by decide +kernel
theorem dX4_leave_221 : decode cX4_leave 221 = .ok (.iconst 1, 1) := by decide +kernel
theorem dX4_leave_222 : decode cX4_leave 222 = .ok (.iadd, 1) := by decide +kernel
theorem dX4_leave_223 : decode cX4_leave 223 = .ok (.iaload, 1) := by decide +kernel
theorem dX4_leave_224 : decode cX4_leave 224 = .ok (.iastore, 1) := by decide +kernel
theorem dX4_leave_225 : decode cX4_leave 225 = .ok (.iinc 5 1, 3) := by decide +kernel
theorem dX4_leave_228 : decode cX4_leave 228 = .ok (.goto (-42), 3) := by decide +kernel
theorem dX4_leave_231 : decode cX4_leave 231 = .ok (.iconst 0, 1) := by decide +kernel
theorem dX4_leave_232 : decode cX4_leave 232 = .ok (.istore 5, 2) := by decide +kernel
theorem dX4_leave_234 : decode cX4_leave 234 = .ok (.iload 5, 2) := by decide +kernel
theorem dX4_leave_236 : decode cX4_leave 236 = .ok (.bipush 20, 2) := by decide +kernel
theorem dX4_leave_238 : decode cX4_leave 238 = .ok (.if_icmp .ge 50, 3) := by decide +kernel
theorem dX4_leave_241 : decode cX4_leave 241 = .ok (.aload_n 0, 1) := by decide +kernel
theorem dX4_leave_242 : decode cX4_leave 242 = .ok (.getfield 44, 3) := by decide +kernel
theorem dX4_leave_245 : decode cX4_leave 245 = .ok (.iload 5, 2) := by decide +kernel
theorem dX4_leave_247 : decode cX4_leave 247 = .ok (.aload_n 0, 1) := by decide +kernel
theorem dX4_leave_248 : decode cX4_leave 248 = .ok (.getfield 41, 3) := by decide +kernel
theorem dX4_leave_251 : decode cX4_leave 251 = .ok (.iload 5, 2) := by decide +kernel
theorem dX4_leave_253 : decode cX4_leave 253 = .ok (.iaload, 1) := by decide +kernel
theorem dX4_leave_254 : decode cX4_leave 254 = .ok (.iload_n 1, 1) := by decide +kernel
theorem dX4_leave_255 : decode cX4_leave 255 = .ok (.if_icmp .ne 19, 3) := by decide +kernel
theorem dX4_leave_258 : decode cX4_leave 258 = .ok (.aload_n 0, 1) := by decide +kernel
theorem dX4_leave_259 : decode cX4_leave 259 = .ok (.getfield 44, 3) := by decide +kernel
theorem dX4_leave_262 : decode cX4_leave 262 = .ok (.iload 5, 2) := by decide +kernel
theorem dX4_leave_264 : decode cX4_leave 264 = .ok (.iaload, 1) := by decide +kernel
theorem dX4_leave_265 : decode cX4_leave 265 = .ok (.iload_n 3, 1) := by decide +kernel
theorem dX4_leave_266 : decode cX4_leave 266 = .ok (.if_icmp .ne 8, 3) := by decide +kernel
theorem dX4_leave_269 : decode cX4_leave 269 = .ok (.iload 4, 2) := by decide +kernel
theorem dX4_leave_271 : decode cX4_leave 271 = .ok (.goto 10, 3) := by decide +kernel
theorem dX4_leave_274 : decode cX4_leave 274 = .ok (.aload_n 0, 1) := by decide +kernel
theorem dX4_leave_275 : decode cX4_leave 275 = .ok (.getfield 44, 3) := by decide +kernel
theorem dX4_leave_278 : decode cX4_leave 278 = .ok (.iload 5, 2) := by decide +kernel
theorem dX4_leave_280 : decode cX4_leave 280 = .ok (.iaload, 1) := by decide +kernel
theorem dX4_leave_281 : decode cX4_leave 281 = .ok (.iastore, 1) := by decide +kernel
theorem dX4_leave_282 : decode cX4_leave 282 = .ok (.iinc 5 1, 3) := by decide +kernel
theorem dX4_leave_285 : decode cX4_leave 285 = .ok (.goto (-51), 3) := by decide +kernel
theorem dX4_leave_288 : decode cX4_leave 288 = .ok (.return_, 1) := by decide +kernel
def rmX4_leave : Room := { frames := 1, cells := 0, slots := 0, locals := 24 }
noncomputable def f_X4_leave_234 : Nat → Int32 → Int32 → Int32 → Int32 → MS → Option (MS)
  | 0, _, _, _, _, _ => none
  | n + 1, x1, x3, x4, x5, u => (if (20 : Int32) ≤ x5 then some u else (if ix x5 20 = true then (if (u.2.1 12 (Int32.toNatClampNeg x5)) = x1 then (if ix x5 20 = true then (if (u.2.1 13 (Int32.toNatClampNeg x5)) = x3 then (if ix x5 20 = true then f_X4_leave_234 n x1 x3 x4 (x5 + 1) (mA u 13 (Int32.toNatClampNeg x5) x4) else none) else (if ix x5 20 = true then (if ix x5 20 = true then f_X4_leave_234 n x1 x3 x4 (x5 + 1) (mA u 13 (Int32.toNatClampNeg x5) (u.2.1 13 (Int32.toNatClampNeg x5))) else none) else none)) else none) else (if ix x5 20 = true then (if ix x5 20 = true then f_X4_leave_234 n x1 x3 x4 (x5 + 1) (mA u 13 (Int32.toNatClampNeg x5) (u.2.1 13 (Int32.toNatClampNeg x5))) else none) else none)) else none))
noncomputable def f_X4_leave_186 : Nat → Int32 → Int32 → Int32 → Int32 → MS → Option (MS)
  | 0, _, _, _, _, _ => none
  | n + 1, x1, x3, x4, x5, u => (if ix x1 8 = true then (if (u.2.1 4 (Int32.toNatClampNeg x1)) ≤ x5 then f_X4_leave_234 NF x1 x3 x4 0 u else (if ix (((600 * x1) + x5) + 1) 4800 = true then (if ix ((600 * x1) + x5) 4800 = true then f_X4_leave_186 n x1 x3 x4 (x5 + 1) (mA u 7 (Int32.toNatClampNeg ((600 * x1) + x5)) (u.2.1 7 (Int32.toNatClampNeg (((600 * x1) + x5) + 1)))) else none) else none)) else none)
noncomputable def f_X4_leave_100 : Nat → Int32 → Int32 → Int32 → Int32 → Int32 → MS → Option (MS)
  | 0, _, _, _, _, _, _ => none
  | n + 1, x1, x2, x3, x4, x6, u => (if ix x1 8 = true then (if (u.2.1 6 (Int32.toNatClampNeg x1)) ≤ x6 then (if ix x1 8 = true then (if ix x1 8 = true then f_X4_leave_186 NF x1 x3 x4 x2 (mA u 4 (Int32.toNatClampNeg x1) ((u.2.1 4 (Int32.toNatClampNeg x1)) - 1)) else none) else none) else (if ix (((600 * x1) + x6) + 1) 4800 = true then (if ix ((600 * x1) + x6) 4800 = true then (if ix (((600 * x1) + x6) + 1) 4800 = true then (if ix ((600 * x1) + x6) 4800 = true then f_X4_leave_100 n x1 x2 x3 x4 (x6 + 1) (mB (mA u 8 (Int32.toNatClampNeg ((600 * x1) + x6)) (u.2.1 8 (Int32.toNatClampNeg (((600 * x1) + x6) + 1)))) 9 (Int32.toNatClampNeg ((600 * x1) + x6)) ((mA u 8 (Int32.toNatClampNeg ((600 * x1) + x6)) (u.2.1 8 (Int32.toNatClampNeg (((600 * x1) + x6) + 1)))).2.2 9 (Int32.toNatClampNeg (((600 * x1) + x6) + 1)))) else none) else none) else none) else none)) else none)
noncomputable def f_X4_leave_35 (x1 : Int32) (x2 : Int32) (x3 : Int32) (t0 : Int32) (u : MS) : Option (MS) := (f_X4_hasBlocks x1 u).bind (fun z4 => (if z4 = 0 then (if ix x1 8 = true then (if ix x1 8 = true then f_X4_leave_186 NF x1 x3 t0 x2 (mA u 4 (Int32.toNatClampNeg x1) ((u.2.1 4 (Int32.toNatClampNeg x1)) - 1)) else none) else none) else (f_X4_blockAt x1 x2 u).bind (fun z9 => (if ix ((600 * x1) + z9) 4800 = true then (if ix ((600 * x1) + z9) 4800 = true then (if ix ((600 * x1) + z9) 4800 = true then (if ((mA u 8 (Int32.toNatClampNeg ((600 * x1) + z9)) ((u.2.1 8 (Int32.toNatClampNeg ((600 * x1) + z9))) - 1)).2.1 8 (Int32.toNatClampNeg ((600 * x1) + z9))) = 0 then (if ix x1 8 = true then (if ix x1 8 = true then f_X4_leave_100 NF x1 x2 x3 t0 z9 (mA (mA u 8 (Int32.toNatClampNeg ((600 * x1) + z9)) ((u.2.1 8 (Int32.toNatClampNeg ((600 * x1) + z9))) - 1)) 6 (Int32.toNatClampNeg x1) (((mA u 8 (Int32.toNatClampNeg ((600 * x1) + z9)) ((u.2.1 8 (Int32.toNatClampNeg ((600 * x1) + z9))) - 1)).2.1 6 (Int32.toNatClampNeg x1)) - 1)) else none) else none) else (if ix x1 8 = true then (if ix x1 8 = true then f_X4_leave_186 NF x1 x3 t0 x2 (mA (mA u 8 (Int32.toNatClampNeg ((600 * x1) + z9)) ((u.2.1 8 (Int32.toNatClampNeg ((600 * x1) + z9))) - 1)) 4 (Int32.toNatClampNeg x1) (((mA u 8 (Int32.toNatClampNeg ((600 * x1) + z9)) ((u.2.1 8 (Int32.toNatClampNeg ((600 * x1) + z9))) - 1)).2.1 4 (Int32.toNatClampNeg x1)) - 1)) else none) else none)) else none) else none) else none))))
noncomputable def f_X4_leave (x1 : Int32) (x2 : Int32) (u : MS) : Option (MS) := (if ix ((600 * x1) + x2) 4800 = true then (if x2 = 0 then f_X4_leave_35 x1 x2 (u.2.1 7 (Int32.toNatClampNeg ((600 * x1) + x2))) (-1) u else (if ix (((600 * x1) + x2) - 1) 4800 = true then f_X4_leave_35 x1 x2 (u.2.1 7 (Int32.toNatClampNeg ((600 * x1) + x2))) (u.2.1 7 (Int32.toNatClampNeg (((600 * x1) + x2) - 1))) u else none)) else none)
section
variable {p : Program} {l : Launch} {e : Env} {s : State} {m : MethodId} {args : Array Value} {below : List Frame} {meth : Method} {c : Code}
variable {G : GX} {A : Nat → Prop} {ad : Nat → Nat}
set_option maxHeartbeats 4000000 in
set_option maxRecDepth 100000 in
theorem w_X4_leave_234 (F : FX p m c cX4_leave 7 s args yX4_leave none RX4 meth) {z : MS} : ∀ (n : Nat) (x1 : Int32) (x3 : Int32) (x4 : Int32) (x5 : Int32) (u : MS) (H : Heap) (locs : List Loc) (ls : Array Slot), WD G A s (mw G ad u) H locs → lv_has ls 7 [(0, .ref (ad 0)), (1, .int x1), (3, .int x3), (4, .int x4), (5, .int x5)] → f_X4_leave_234 n x1 x3 x4 x5 u = some z → W p l e rmX4_leave s m args below meth c H locs 0 0 (MQ below (QW G (mw G ad z) A none) args s 0 0 A) (F0 m 234 ls []) := by
  obtain ⟨⟨hx, hb, hml, hown, hts⟩, hr, hlocks⟩ := id F
  intro n
  induction n with
  | zero =>
    intro x1 x3 x4 x5 u H locs ls hw hl h
    rw [f_X4_leave_234] at h
    cases h
  | succ n ih =>
    intro x1 x3 x4 x5 u H locs ls hw hl h
    rw [f_X4_leave_234] at h
    refine lv_iload hx hb dX4_leave_234 (lv_at hl 4 rfl) ?_
    refine lv_bipush (v := 20) hx hb dX4_leave_236 rfl ?_
    refine lv_icmp_ge (tgt := 288) hx hb dX4_leave_238 rfl (fun c31 => ?_) (fun c31 => ?_)
    · replace h := itT h c31
      cases h
      exact retW_v F hw dX4_leave_288
    · replace h := itF h c31
      refine lv_aload_n hx hb dX4_leave_241 rfl (lv_at hl 0 rfl) ?_
      refine m_g13 F hw dX4_leave_242 ?_
      refine lv_iload hx hb dX4_leave_245 (lv_at hl 4 rfl) ?_
      refine lv_aload_n hx hb dX4_leave_247 rfl (lv_at hl 0 rfl) ?_
      refine m_g12 F hw dX4_leave_248 ?_
      refine lv_iload hx hb dX4_leave_251 (lv_at hl 4 rfl) ?_
      obtain ⟨g32, h⟩ := gd h
      refine m_l12 F hw g32 dX4_leave_253 ?_
      refine lv_iload_n hx hb dX4_leave_254 rfl (lv_at hl 1 rfl) ?_
      refine lv_icmp_ne (tgt := 274) hx hb dX4_leave_255 rfl (fun c33 => ?_) (fun c33 => ?_)
      · replace h := itF h c33
        refine lv_aload_n hx hb dX4_leave_274 rfl (lv_at hl 0 rfl) ?_
        refine m_g13 F hw dX4_leave_275 ?_
        refine lv_iload hx hb dX4_leave_278 (lv_at hl 4 rfl) ?_
        obtain ⟨g34, h⟩ := gd h
        refine m_l13 F hw g34 dX4_leave_280 ?_
        obtain ⟨g35, h⟩ := gd h
        refine m_s13 F hw g35 dX4_leave_281 (fun H locs hw => ?_)
        refine lv_iinc (v := (x5 + 1)) (lv' := [(5, .int (x5 + 1)), (0, .ref (ad 0)), (1, .int x1), (3, .int x3), (4, .int x4)]) hx hb dX4_leave_282 hl (k := 4) rfl rfl (by decide) rfl (fun ls hl => ?_)
        refine lv_goto (tgt := 234) hx hb dX4_leave_285 rfl ?_
        exact ih _ _ _ _ _ _ _ _ hw (lv_sub hl [1, 2, 3, 4, 0] rfl) h
      · replace h := itT h c33
        refine lv_aload_n hx hb dX4_leave_258 rfl (lv_at hl 0 rfl) ?_
        refine m_g13 F hw dX4_leave_259 ?_
        refine lv_iload hx hb dX4_leave_262 (lv_at hl 4 rfl) ?_
        obtain ⟨g36, h⟩ := gd h
        refine m_l13 F hw g36 dX4_leave_264 ?_
        refine lv_iload_n hx hb dX4_leave_265 rfl (lv_at hl 2 rfl) ?_
        refine lv_icmp_ne (tgt := 274) hx hb dX4_leave_266 rfl (fun c37 => ?_) (fun c37 => ?_)
        · replace h := itF h c37
          refine lv_aload_n hx hb dX4_leave_274 rfl (lv_at hl 0 rfl) ?_
          refine m_g13 F hw dX4_leave_275 ?_
          refine lv_iload hx hb dX4_leave_278 (lv_at hl 4 rfl) ?_
          obtain ⟨g38, h⟩ := gd h
          refine m_l13 F hw g38 dX4_leave_280 ?_
          obtain ⟨g39, h⟩ := gd h
          refine m_s13 F hw g39 dX4_leave_281 (fun H locs hw => ?_)
          refine lv_iinc (v := (x5 + 1)) (lv' := [(5, .int (x5 + 1)), (0, .ref (ad 0)), (1, .int x1), (3, .int x3), (4, .int x4)]) hx hb dX4_leave_282 hl (k := 4) rfl rfl (by decide) rfl (fun ls hl => ?_)
          refine lv_goto (tgt := 234) hx hb dX4_leave_285 rfl ?_
          exact ih _ _ _ _ _ _ _ _ hw (lv_sub hl [1, 2, 3, 4, 0] rfl) h
        · replace h := itT h c37
          refine lv_iload hx hb dX4_leave_269 (lv_at hl 3 rfl) ?_
          refine lv_goto (tgt := 281) hx hb dX4_leave_271 rfl ?_
          obtain ⟨g40, h⟩ := gd h
          refine m_s13 F hw g40 dX4_leave_281 (fun H locs hw => ?_)
          refine lv_iinc (v := (x5 + 1)) (lv' := [(5, .int (x5 + 1)), (0, .ref (ad 0)), (1, .int x1), (3, .int x3), (4, .int x4)]) hx hb dX4_leave_282 hl (k := 4) rfl rfl (by decide) rfl (fun ls hl => ?_)
          refine lv_goto (tgt := 234) hx hb dX4_leave_285 rfl ?_
          exact ih _ _ _ _ _ _ _ _ hw (lv_sub hl [1, 2, 3, 4, 0] rfl) h
set_option maxHeartbeats 4000000 in
set_option maxRecDepth 100000 in
theorem w_X4_leave_186 (F : FX p m c cX4_leave 7 s args yX4_leave none RX4 meth) {z : MS} : ∀ (n : Nat) (x1 : Int32) (x3 : Int32) (x4 : Int32) (x5 : Int32) (u : MS) (H : Heap) (locs : List Loc) (ls : Array Slot), WD G A s (mw G ad u) H locs → lv_has ls 7 [(0, .ref (ad 0)), (1, .int x1), (3, .int x3), (4, .int x4), (5, .int x5)] → f_X4_leave_186 n x1 x3 x4 x5 u = some z → W p l e rmX4_leave s m args below meth c H locs 0 0 (MQ below (QW G (mw G ad z) A none) args s 0 0 A) (F0 m 186 ls []) := by
  obtain ⟨⟨hx, hb, hml, hown, hts⟩, hr, hlocks⟩ := id F
  intro n
  induction n with
  | zero =>
    intro x1 x3 x4 x5 u H locs ls hw hl h
    rw [f_X4_leave_186] at h
    cases h
  | succ n ih =>
    intro x1 x3 x4 x5 u H locs ls hw hl h
    rw [f_X4_leave_186] at h
    refine lv_iload hx hb dX4_leave_186 (lv_at hl 4 rfl) ?_
    refine lv_aload_n hx hb dX4_leave_188 rfl (lv_at hl 0 rfl) ?_
    refine m_g4 F hw dX4_leave_189 ?_
    refine lv_iload_n hx hb dX4_leave_192 rfl (lv_at hl 1 rfl) ?_
    obtain ⟨g27, h⟩ := gd h
    refine m_l4 F hw g27 dX4_leave_193 ?_
    refine lv_icmp_ge (tgt := 231) hx hb dX4_leave_194 rfl (fun c28 => ?_) (fun c28 => ?_)
    · replace h := itT h c28
      refine lv_iconst (v := 0) hx hb dX4_leave_231 rfl ?_
      refine lv_istore (lv' := [(5, .int 0), (0, .ref (ad 0)), (1, .int x1), (3, .int x3), (4, .int x4)]) hx hb dX4_leave_232 hl (by decide) rfl (fun ls hl => ?_)
      exact w_X4_leave_234 F NF _ _ _ _ _ _ _ _ hw (lv_sub hl [1, 2, 3, 4, 0] rfl) h
    · replace h := itF h c28
      refine lv_aload_n hx hb dX4_leave_197 rfl (lv_at hl 0 rfl) ?_
      refine m_g7 F hw dX4_leave_198 ?_
      refine lv_sipush (v := 600) hx hb dX4_leave_201 rfl ?_
      refine lv_iload_n hx hb dX4_leave_204 rfl (lv_at hl 1 rfl) ?_
      refine lv_imul hx hb dX4_leave_205 ?_
      refine lv_iload hx hb dX4_leave_206 (lv_at hl 4 rfl) ?_
      refine lv_iadd hx hb dX4_leave_208 ?_
      refine lv_aload_n hx hb dX4_leave_209 rfl (lv_at hl 0 rfl) ?_
      refine m_g7 F hw dX4_leave_210 ?_
      refine lv_sipush (v := 600) hx hb dX4_leave_213 rfl ?_
      refine lv_iload_n hx hb dX4_leave_216 rfl (lv_at hl 1 rfl) ?_
      refine lv_imul hx hb dX4_leave_217 ?_
      refine lv_iload hx hb dX4_leave_218 (lv_at hl 4 rfl) ?_
      refine lv_iadd hx hb dX4_leave_220 ?_
      refine lv_iconst (v := 1) hx hb dX4_leave_221 rfl ?_
      refine lv_iadd hx hb dX4_leave_222 ?_
      obtain ⟨g29, h⟩ := gd h
      refine m_l7 F hw g29 dX4_leave_223 ?_
      obtain ⟨g30, h⟩ := gd h
      refine m_s7 F hw g30 dX4_leave_224 (fun H locs hw => ?_)
      refine lv_iinc (v := (x5 + 1)) (lv' := [(5, .int (x5 + 1)), (0, .ref (ad 0)), (1, .int x1), (3, .int x3), (4, .int x4)]) hx hb dX4_leave_225 hl (k := 4) rfl rfl (by decide) rfl (fun ls hl => ?_)
      refine lv_goto (tgt := 186) hx hb dX4_leave_228 rfl ?_
      exact ih _ _ _ _ _ _ _ _ hw (lv_sub hl [1, 2, 3, 4, 0] rfl) h
set_option maxHeartbeats 4000000 in
set_option maxRecDepth 100000 in
theorem w_X4_leave_100 (F : FX p m c cX4_leave 7 s args yX4_leave none RX4 meth) {z : MS} : ∀ (n : Nat) (x1 : Int32) (x2 : Int32) (x3 : Int32) (x4 : Int32) (x6 : Int32) (u : MS) (H : Heap) (locs : List Loc) (ls : Array Slot), WD G A s (mw G ad u) H locs → lv_has ls 7 [(0, .ref (ad 0)), (1, .int x1), (2, .int x2), (3, .int x3), (4, .int x4), (6, .int x6)] → f_X4_leave_100 n x1 x2 x3 x4 x6 u = some z → W p l e rmX4_leave s m args below meth c H locs 0 0 (MQ below (QW G (mw G ad z) A none) args s 0 0 A) (F0 m 100 ls []) := by
  obtain ⟨⟨hx, hb, hml, hown, hts⟩, hr, hlocks⟩ := id F
  intro n
  induction n with
  | zero =>
    intro x1 x2 x3 x4 x6 u H locs ls hw hl h
    rw [f_X4_leave_100] at h
    cases h
  | succ n ih =>
    intro x1 x2 x3 x4 x6 u H locs ls hw hl h
    rw [f_X4_leave_100] at h
    refine lv_iload hx hb dX4_leave_100 (lv_at hl 5 rfl) ?_
    refine lv_aload_n hx hb dX4_leave_102 rfl (lv_at hl 0 rfl) ?_
    refine m_g6 F hw dX4_leave_103 ?_
    refine lv_iload_n hx hb dX4_leave_106 rfl (lv_at hl 1 rfl) ?_
    obtain ⟨g19, h⟩ := gd h
    refine m_l6 F hw g19 dX4_leave_107 ?_
    refine lv_icmp_ge (tgt := 173) hx hb dX4_leave_108 rfl (fun c20 => ?_) (fun c20 => ?_)
    · replace h := itT h c20
      refine lv_aload_n hx hb dX4_leave_173 rfl (lv_at hl 0 rfl) ?_
      refine m_g4 F hw dX4_leave_174 ?_
      refine lv_iload_n hx hb dX4_leave_177 rfl (lv_at hl 1 rfl) ?_
      refine lv_dup2_11 hx hb dX4_leave_178 rfl rfl ?_
      obtain ⟨g21, h⟩ := gd h
      refine m_l4 F hw g21 dX4_leave_179 ?_
      refine lv_iconst (v := 1) hx hb dX4_leave_180 rfl ?_
      refine lv_isub hx hb dX4_leave_181 ?_
      obtain ⟨g22, h⟩ := gd h
      refine m_s4 F hw g22 dX4_leave_182 (fun H locs hw => ?_)
      refine lv_iload_n hx hb dX4_leave_183 rfl (lv_at hl 2 rfl) ?_
      refine lv_istore (lv' := [(5, .int x2), (0, .ref (ad 0)), (1, .int x1), (2, .int x2), (3, .int x3), (4, .int x4), (6, .int x6)]) hx hb dX4_leave_184 hl (by decide) rfl (fun ls hl => ?_)
      exact w_X4_leave_186 F NF _ _ _ _ _ _ _ _ hw (lv_sub hl [1, 2, 4, 5, 0] rfl) h
    · replace h := itF h c20
      refine lv_aload_n hx hb dX4_leave_111 rfl (lv_at hl 0 rfl) ?_
      refine m_g8 F hw dX4_leave_112 ?_
      refine lv_sipush (v := 600) hx hb dX4_leave_115 rfl ?_
      refine lv_iload_n hx hb dX4_leave_118 rfl (lv_at hl 1 rfl) ?_
      refine lv_imul hx hb dX4_leave_119 ?_
      refine lv_iload hx hb dX4_leave_120 (lv_at hl 5 rfl) ?_
      refine lv_iadd hx hb dX4_leave_122 ?_
      refine lv_aload_n hx hb dX4_leave_123 rfl (lv_at hl 0 rfl) ?_
      refine m_g8 F hw dX4_leave_124 ?_
      refine lv_sipush (v := 600) hx hb dX4_leave_127 rfl ?_
      refine lv_iload_n hx hb dX4_leave_130 rfl (lv_at hl 1 rfl) ?_
      refine lv_imul hx hb dX4_leave_131 ?_
      refine lv_iload hx hb dX4_leave_132 (lv_at hl 5 rfl) ?_
      refine lv_iadd hx hb dX4_leave_134 ?_
      refine lv_iconst (v := 1) hx hb dX4_leave_135 rfl ?_
      refine lv_iadd hx hb dX4_leave_136 ?_
      obtain ⟨g23, h⟩ := gd h
      refine m_l8 F hw g23 dX4_leave_137 ?_
      obtain ⟨g24, h⟩ := gd h
      refine m_s8 F hw g24 dX4_leave_138 (fun H locs hw => ?_)
      refine lv_aload_n hx hb dX4_leave_139 rfl (lv_at hl 0 rfl) ?_
      refine m_g9 F hw dX4_leave_140 ?_
      refine lv_sipush (v := 600) hx hb dX4_leave_143 rfl ?_
      refine lv_iload_n hx hb dX4_leave_146 rfl (lv_at hl 1 rfl) ?_
      refine lv_imul hx hb dX4_leave_147 ?_
      refine lv_iload hx hb dX4_leave_148 (lv_at hl 5 rfl) ?_
      refine lv_iadd hx hb dX4_leave_150 ?_
      refine lv_aload_n hx hb dX4_leave_151 rfl (lv_at hl 0 rfl) ?_
      refine m_g9 F hw dX4_leave_152 ?_
      refine lv_sipush (v := 600) hx hb dX4_leave_155 rfl ?_
      refine lv_iload_n hx hb dX4_leave_158 rfl (lv_at hl 1 rfl) ?_
      refine lv_imul hx hb dX4_leave_159 ?_
      refine lv_iload hx hb dX4_leave_160 (lv_at hl 5 rfl) ?_
      refine lv_iadd hx hb dX4_leave_162 ?_
      refine lv_iconst (v := 1) hx hb dX4_leave_163 rfl ?_
      refine lv_iadd hx hb dX4_leave_164 ?_
      obtain ⟨g25, h⟩ := gd h
      refine m_l9 F hw g25 dX4_leave_165 ?_
      obtain ⟨g26, h⟩ := gd h
      refine m_s9 F hw g26 dX4_leave_166 (fun H locs hw => ?_)
      refine lv_iinc (v := (x6 + 1)) (lv' := [(6, .int (x6 + 1)), (0, .ref (ad 0)), (1, .int x1), (2, .int x2), (3, .int x3), (4, .int x4)]) hx hb dX4_leave_167 hl (k := 5) rfl rfl (by decide) rfl (fun ls hl => ?_)
      refine lv_goto (tgt := 100) hx hb dX4_leave_170 rfl ?_
      exact ih _ _ _ _ _ _ _ _ _ hw (lv_sub hl [1, 2, 3, 4, 5, 0] rfl) h
set_option maxHeartbeats 4000000 in
set_option maxRecDepth 100000 in
theorem w_X4_leave_35 (F : FX p m c cX4_leave 7 s args yX4_leave none RX4 meth) {z : MS} : ∀ (x1 : Int32) (x2 : Int32) (x3 : Int32) (t0 : Int32) (u : MS) (H : Heap) (locs : List Loc) (ls : Array Slot), WD G A s (mw G ad u) H locs → lv_has ls 7 [(0, .ref (ad 0)), (1, .int x1), (2, .int x2), (3, .int x3)] → f_X4_leave_35 x1 x2 x3 t0 u = some z → W p l e rmX4_leave s m args below meth c H locs 0 0 (MQ below (QW G (mw G ad z) A none) args s 0 0 A) (F0 m 35 ls [.int t0]) := by
  obtain ⟨⟨hx, hb, hml, hown, hts⟩, hr, hlocks⟩ := id F
  intro x1 x2 x3 t0 u H locs ls hw hl h
  unfold f_X4_leave_35 at h
  refine lv_istore (lv' := [(4, .int t0), (0, .ref (ad 0)), (1, .int x1), (2, .int x2), (3, .int x3)]) hx hb dX4_leave_35 hl (by decide) rfl (fun ls hl => ?_)
  refine lv_aload_n hx hb dX4_leave_37 rfl (lv_at hl 1 rfl) ?_
  refine lv_iload_n hx hb dX4_leave_38 rfl (lv_at hl 2 rfl) ?_
  obtain ⟨z4, e5, h⟩ := bnd h
  refine k_X4_hasBlocks F hw e5 ⟨Nat.le_of_ble_eq_true rfl, Nat.le_of_ble_eq_true rfl⟩ ⟨Nat.zero_le _, Nat.zero_le _⟩ hl.1 (Nat.le_of_ble_eq_true rfl) dX4_leave_39 ?_
  refine lv_if_eq (tgt := 173) hx hb dX4_leave_42 rfl (fun c6 => ?_) (fun c6 => ?_)
  · replace h := itT h c6
    refine lv_aload_n hx hb dX4_leave_173 rfl (lv_at hl 1 rfl) ?_
    refine m_g4 F hw dX4_leave_174 ?_
    refine lv_iload_n hx hb dX4_leave_177 rfl (lv_at hl 2 rfl) ?_
    refine lv_dup2_11 hx hb dX4_leave_178 rfl rfl ?_
    obtain ⟨g7, h⟩ := gd h
    refine m_l4 F hw g7 dX4_leave_179 ?_
    refine lv_iconst (v := 1) hx hb dX4_leave_180 rfl ?_
    refine lv_isub hx hb dX4_leave_181 ?_
    obtain ⟨g8, h⟩ := gd h
    refine m_s4 F hw g8 dX4_leave_182 (fun H locs hw => ?_)
    refine lv_iload_n hx hb dX4_leave_183 rfl (lv_at hl 3 rfl) ?_
    refine lv_istore (lv' := [(5, .int x2), (4, .int t0), (0, .ref (ad 0)), (1, .int x1), (2, .int x2), (3, .int x3)]) hx hb dX4_leave_184 hl (by decide) rfl (fun ls hl => ?_)
    exact w_X4_leave_186 F NF _ _ _ _ _ _ _ _ hw (lv_sub hl [2, 3, 5, 1, 0] rfl) h
  · replace h := itF h c6
    refine lv_aload_n hx hb dX4_leave_45 rfl (lv_at hl 1 rfl) ?_
    refine lv_iload_n hx hb dX4_leave_46 rfl (lv_at hl 2 rfl) ?_
    refine lv_iload_n hx hb dX4_leave_47 rfl (lv_at hl 3 rfl) ?_
    obtain ⟨z9, e10, h⟩ := bnd h
    refine k_X4_blockAt F hw e10 ⟨Nat.le_of_ble_eq_true rfl, Nat.le_of_ble_eq_true rfl⟩ ⟨Nat.zero_le _, Nat.zero_le _⟩ hl.1 (Nat.le_of_ble_eq_true rfl) dX4_leave_48 ?_
    refine lv_istore (lv' := [(5, .int z9), (4, .int t0), (0, .ref (ad 0)), (1, .int x1), (2, .int x2), (3, .int x3)]) hx hb dX4_leave_51 hl (by decide) rfl (fun ls hl => ?_)
    refine lv_aload_n hx hb dX4_leave_53 rfl (lv_at hl 2 rfl) ?_
    refine m_g8 F hw dX4_leave_54 ?_
    refine lv_sipush (v := 600) hx hb dX4_leave_57 rfl ?_
    refine lv_iload_n hx hb dX4_leave_60 rfl (lv_at hl 3 rfl) ?_
    refine lv_imul hx hb dX4_leave_61 ?_
    refine lv_iload hx hb dX4_leave_62 (lv_at hl 0 rfl) ?_
    refine lv_iadd hx hb dX4_leave_64 ?_
    refine lv_dup2_11 hx hb dX4_leave_65 rfl rfl ?_
    obtain ⟨g11, h⟩ := gd h
    refine m_l8 F hw g11 dX4_leave_66 ?_
    refine lv_iconst (v := 1) hx hb dX4_leave_67 rfl ?_
    refine lv_isub hx hb dX4_leave_68 ?_
    obtain ⟨g12, h⟩ := gd h
    refine m_s8 F hw g12 dX4_leave_69 (fun H locs hw => ?_)
    refine lv_aload_n hx hb dX4_leave_70 rfl (lv_at hl 2 rfl) ?_
    refine m_g8 F hw dX4_leave_71 ?_
    refine lv_sipush (v := 600) hx hb dX4_leave_74 rfl ?_
    refine lv_iload_n hx hb dX4_leave_77 rfl (lv_at hl 3 rfl) ?_
    refine lv_imul hx hb dX4_leave_78 ?_
    refine lv_iload hx hb dX4_leave_79 (lv_at hl 0 rfl) ?_
    refine lv_iadd hx hb dX4_leave_81 ?_
    obtain ⟨g13, h⟩ := gd h
    refine m_l8 F hw g13 dX4_leave_82 ?_
    refine lv_if_ne (tgt := 173) hx hb dX4_leave_83 rfl (fun c14 => ?_) (fun c14 => ?_)
    · replace h := itF h c14
      refine lv_aload_n hx hb dX4_leave_173 rfl (lv_at hl 2 rfl) ?_
      refine m_g4 F hw dX4_leave_174 ?_
      refine lv_iload_n hx hb dX4_leave_177 rfl (lv_at hl 3 rfl) ?_
      refine lv_dup2_11 hx hb dX4_leave_178 rfl rfl ?_
      obtain ⟨g15, h⟩ := gd h
      refine m_l4 F hw g15 dX4_leave_179 ?_
      refine lv_iconst (v := 1) hx hb dX4_leave_180 rfl ?_
      refine lv_isub hx hb dX4_leave_181 ?_
      obtain ⟨g16, h⟩ := gd h
      refine m_s4 F hw g16 dX4_leave_182 (fun H locs hw => ?_)
      refine lv_iload_n hx hb dX4_leave_183 rfl (lv_at hl 4 rfl) ?_
      refine lv_istore (lv' := [(5, .int x2), (4, .int t0), (0, .ref (ad 0)), (1, .int x1), (2, .int x2), (3, .int x3)]) hx hb dX4_leave_184 hl (by decide) rfl (fun ls hl => ?_)
      exact w_X4_leave_186 F NF _ _ _ _ _ _ _ _ hw (lv_sub hl [2, 3, 5, 1, 0] rfl) h
    · replace h := itT h c14
      refine lv_aload_n hx hb dX4_leave_86 rfl (lv_at hl 2 rfl) ?_
      refine m_g6 F hw dX4_leave_87 ?_
      refine lv_iload_n hx hb dX4_leave_90 rfl (lv_at hl 3 rfl) ?_
      refine lv_dup2_11 hx hb dX4_leave_91 rfl rfl ?_
      obtain ⟨g17, h⟩ := gd h
      refine m_l6 F hw g17 dX4_leave_92 ?_
      refine lv_iconst (v := 1) hx hb dX4_leave_93 rfl ?_
      refine lv_isub hx hb dX4_leave_94 ?_
      obtain ⟨g18, h⟩ := gd h
      refine m_s6 F hw g18 dX4_leave_95 (fun H locs hw => ?_)
      refine lv_iload hx hb dX4_leave_96 (lv_at hl 0 rfl) ?_
      refine lv_istore (lv' := [(6, .int z9), (5, .int z9), (4, .int t0), (0, .ref (ad 0)), (1, .int x1), (2, .int x2), (3, .int x3)]) hx hb dX4_leave_98 hl (by decide) rfl (fun ls hl => ?_)
      exact w_X4_leave_100 F NF _ _ _ _ _ _ _ _ _ hw (lv_sub hl [3, 4, 5, 6, 2, 0] rfl) h
set_option maxHeartbeats 4000000 in
set_option maxRecDepth 100000 in
theorem w_X4_leave_0 (F : FX p m c cX4_leave 7 s args yX4_leave none RX4 meth) {z : MS} : ∀ (x1 : Int32) (x2 : Int32) (u : MS) (H : Heap) (locs : List Loc) (ls : Array Slot), WD G A s (mw G ad u) H locs → lv_has ls 7 [(0, .ref (ad 0)), (1, .int x1), (2, .int x2)] → f_X4_leave x1 x2 u = some z → W p l e rmX4_leave s m args below meth c H locs 0 0 (MQ below (QW G (mw G ad z) A none) args s 0 0 A) (F0 m 0 ls []) := by
  obtain ⟨⟨hx, hb, hml, hown, hts⟩, hr, hlocks⟩ := id F
  intro x1 x2 u H locs ls hw hl h
  unfold f_X4_leave at h
  refine lv_aload_n hx hb dX4_leave_0 rfl (lv_at hl 0 rfl) ?_
  refine m_g7 F hw dX4_leave_1 ?_
  refine lv_sipush (v := 600) hx hb dX4_leave_4 rfl ?_
  refine lv_iload_n hx hb dX4_leave_7 rfl (lv_at hl 1 rfl) ?_
  refine lv_imul hx hb dX4_leave_8 ?_
  refine lv_iload_n hx hb dX4_leave_9 rfl (lv_at hl 2 rfl) ?_
  refine lv_iadd hx hb dX4_leave_10 ?_
  obtain ⟨g1, h⟩ := gd h
  refine m_l7 F hw g1 dX4_leave_11 ?_
  refine lv_istore_n (lv' := [(3, .int (u.2.1 7 (Int32.toNatClampNeg ((600 * x1) + x2)))), (0, .ref (ad 0)), (1, .int x1), (2, .int x2)]) hx hb dX4_leave_12 rfl hl (by decide) rfl (fun ls hl => ?_)
  refine lv_iload_n hx hb dX4_leave_13 rfl (lv_at hl 3 rfl) ?_
  refine lv_if_ne (tgt := 21) hx hb dX4_leave_14 rfl (fun c2 => ?_) (fun c2 => ?_)
  · replace h := itF h c2
    refine lv_aload_n hx hb dX4_leave_21 rfl (lv_at hl 1 rfl) ?_
    refine m_g7 F hw dX4_leave_22 ?_
    refine lv_sipush (v := 600) hx hb dX4_leave_25 rfl ?_
    refine lv_iload_n hx hb dX4_leave_28 rfl (lv_at hl 2 rfl) ?_
    refine lv_imul hx hb dX4_leave_29 ?_
    refine lv_iload_n hx hb dX4_leave_30 rfl (lv_at hl 3 rfl) ?_
    refine lv_iadd hx hb dX4_leave_31 ?_
    refine lv_iconst (v := 1) hx hb dX4_leave_32 rfl ?_
    refine lv_isub hx hb dX4_leave_33 ?_
    obtain ⟨g3, h⟩ := gd h
    refine m_l7 F hw g3 dX4_leave_34 ?_
    exact w_X4_leave_35 F _ _ _ _ _ _ _ _ hw (lv_sub hl [1, 2, 3, 0] rfl) h
  · replace h := itT h c2
    refine lv_iconst (v := (-1)) hx hb dX4_leave_17 rfl ?_
    refine lv_goto (tgt := 35) hx hb dX4_leave_18 rfl ?_
    exact w_X4_leave_35 F _ _ _ _ _ _ _ _ hw (lv_sub hl [1, 2, 3, 0] rfl) h
end
theorem c_X4_leave {l : Launch} {G : GX} {ad : Nat → Nat} {x1 : Int32} {x2 : Int32} {u : MS} {z : MS} (h : f_X4_leave x1 x2 u = some z) : MW l yX4_leave cX4_leave 7 none rmX4_leave G (mw G ad u) (mw G ad z) [.ref (ad 0), .int x1, .int x2] none := MW.of (by decide) (Nat.le_of_ble_eq_true rfl) (fun p e s m below meth c ls F hw hl => w_X4_leave_0 F _ _ _ _ _ _ hw hl h)
theorem yv_X4_leave : YV RX4 177 yX4_leave cX4_leave 7 none 2 := ⟨(tw 732 (by decide +kernel) rfl), (tw 6 (by decide +kernel) rfl), (tw 729 (by decide +kernel) rfl), (tw 731 (by decide +kernel) rfl), (tp 40 (by decide +kernel) rfl), by decide +kernel⟩
theorem k_X4_leave {p : Program} {l : Launch} {e : Env} {R : Room} {s : State} {m : MethodId} {args : Array Value} {below : List Frame} {meth : Method} {c : Code} {H : Heap} {locs : List Loc} {cells slots : Nat} {Q : State → Prop} {G : GX} {A : Nat → Prop} {ad : Nat → Nat} {cc : ByteArray} {nL pc : Nat} {y0 : MethodName} {ret0 : Option FieldType} {ls : Array Slot} {rest : List Value} {u : MS} {x1 : Int32} {x2 : Int32} {z : MS} (F : FX p m c cc nL s args y0 ret0 RX4 meth) (hw : WD G A s (mw G ad u) H locs) (h : f_X4_leave x1 x2 u = some z) (hR : rmX4_leave.frames + 1 ≤ R.frames ∧ 8 + (7 + 11) + rmX4_leave.locals ≤ R.locals) (hcs : cells ≤ R.cells ∧ slots ≤ R.slots) (hsz : ls.size = nL) (hW : (rest.map fun v => v.category).sum ≤ 8) (hdg : decode cc pc = .ok (.invokevirtual 177, 3)) (kk : ∀ (H : Heap) (locs : List Loc), WD G A s (mw G ad z) H locs → W p l e R s m args below meth c H locs cells slots Q (F0 m (pc + 3) ls (rest))) : W p l e R s m args below meth c H locs cells slots Q (F0 m pc ls (.int x2 :: .int x1 :: .ref (ad 0) :: rest)) := callW (runV F yv_X4_leave (c_X4_leave h) hw.1 hw.2.1 hw.2.2.1 rfl rfl rfl ⟨rfl, rfl⟩ hR hcs rfl hsz rfl hW hdg) hw.2.2.2 hw.2.2.1.own_in (fun H1 l1 hP _ hS => kk H1 l1 ⟨hw.1, hP, hw.2.2.1.addr rfl, hS⟩)
/-! ===== X4_span ===== -/
theorem dX4_span_0 : decode cX4_span 0 = .ok (.aload_n 0, 1) := by decide +kernel
theorem dX4_span_1 : decode cX4_span 1 = .ok (.iload_n 1, 1) := by decide +kernel
theorem dX4_span_2 : decode cX4_span 2 = .ok (.iconst 2, 1) := by decide +kernel
theorem dX4_span_3 : decode cX4_span 3 = .ok (.iload_n 2, 1) := by decide +kernel
theorem dX4_span_4 : decode cX4_span 4 = .ok (.imul, 1) := by decide +kernel
theorem dX4_span_5 : decode cX4_span 5 = .ok (.invokevirtual 171, 3) := by decide +kernel
theorem dX4_span_8 : decode cX4_span 8 = .ok (.istore_n 3, 1) := by decide +kernel
theorem dX4_span_9 : decode cX4_span 9 = .ok (.aload_n 0, 1) := by decide +kernel
theorem dX4_span_10 : decode cX4_span 10 = .ok (.getfield 7, 3) := by decide +kernel
theorem dX4_span_13 : decode cX4_span 13 = .ok (.iload_n 1, 1) := by decide +kernel
theorem dX4_span_14 : decode cX4_span 14 = .ok (.iaload, 1) := by decide +kernel
theorem dX4_span_15 : decode cX4_span 15 = .ok (.iconst 3, 1) := by decide +kernel
theorem dX4_span_16 : decode cX4_span 16 = .ok (.if_icmp .ne 20, 3) := by decide +kernel
theorem dX4_span_19 : decode cX4_span 19 = .ok (.aload_n 0, 1) := by decide +kernel
theorem dX4_span_20 : decode cX4_span 20 = .ok (.iload_n 1, 1) := by decide +kernel
theorem dX4_span_21 : decode cX4_span 21 = .ok (.iconst 2, 1) := by decide +kernel
theorem dX4_span_22 : decode cX4_span 22 = .ok (.iload_n 2, 1) := by decide +kernel
theorem dX4_span_23 : decode cX4_span 23 = .ok (.imul, 1) := by decide +kernel
theorem dX4_span_24 : decode cX4_span 24 = .ok (.iconst 1, 1) := by decide +kernel
theorem dX4_span_25 : decode cX4_span 25 = .ok (.iadd, 1) := by decide +kernel
theorem dX4_span_26 : decode cX4_span 26 = .ok (.invokevirtual 171, 3) := by decide +kernel
theorem dX4_span_29 : decode cX4_span 29 = .ok (.iload_n 3, 1) := by decide +kernel
theorem dX4_span_30 : decode cX4_span 30 = .ok (.isub, 1) := by decide +kernel
theorem dX4_span_31 : decode cX4_span 31 = .ok (.iconst 1, 1) := by decide +kernel
theorem dX4_span_32 : decode cX4_span 32 = .ok (.iadd, 1) := by decide +kernel
theorem dX4_span_33 : decode cX4_span 33 = .ok (.goto 4, 3) := by decide +kernel
theorem dX4_span_36 : decode cX4_span 36 = .ok (.iconst 1, 1) := by decide +kernel
theorem dX4_span_37 : decode cX4_span 37 = .ok (.ireturn, 1) := by decide +kernel
def rmX4_span : Room := { frames := 1, cells := 0, slots := 0, locals := 23 }
noncomputable def f_X4_span (x1 : Int32) (x2 : Int32) (u : MS) : Option (Int32) := (f_X4_placeOf x1 (2 * x2) u).bind (fun z1 => (if ix x1 8 = true then (if (u.2.1 2 (Int32.toNatClampNeg x1)) = (3 : Int32) then (f_X4_placeOf x1 ((2 * x2) + 1) u).bind (fun z5 => some ((z5 - z1) + 1)) else some 1) else none))
section
variable {p : Program} {l : Launch} {e : Env} {s : State} {m : MethodId} {args : Array Value} {below : List Frame} {meth : Method} {c : Code}
variable {G : GX} {A : Nat → Prop} {ad : Nat → Nat}
set_option maxHeartbeats 4000000 in
set_option maxRecDepth 100000 in
theorem w_X4_span_0 (F : FX p m c cX4_span 4 s args yX4_span (some .int) RX4 meth) {z : Int32} : ∀ (x1 : Int32) (x2 : Int32) (u : MS) (ls : Array Slot), WD G A s (mw G ad u) s.heap [] → lv_has ls 4 [(0, .ref (ad 0)), (1, .int x1), (2, .int x2)] → f_X4_span x1 x2 u = some z → W p l e rmX4_span s m args below meth c s.heap [] 0 0 (MQ below (QO (some (.int z))) args s 0 0 (fun _ => False)) (F0 m 0 ls []) := by
  obtain ⟨⟨hx, hb, hml, hown, hts⟩, hr, hlocks⟩ := id F
  intro x1 x2 u ls hw hl h
  unfold f_X4_span at h
  refine lv_aload_n hx hb dX4_span_0 rfl (lv_at hl 0 rfl) ?_
  refine lv_iload_n hx hb dX4_span_1 rfl (lv_at hl 1 rfl) ?_
  refine lv_iconst (v := 2) hx hb dX4_span_2 rfl ?_
  refine lv_iload_n hx hb dX4_span_3 rfl (lv_at hl 2 rfl) ?_
  refine lv_imul hx hb dX4_span_4 ?_
  obtain ⟨z1, e2, h⟩ := bnd h
  refine k_X4_placeOf F hw e2 ⟨Nat.le_of_ble_eq_true rfl, Nat.le_of_ble_eq_true rfl⟩ ⟨Nat.zero_le _, Nat.zero_le _⟩ hl.1 (Nat.le_of_ble_eq_true rfl) dX4_span_5 ?_
  refine lv_istore_n (lv' := [(3, .int z1), (0, .ref (ad 0)), (1, .int x1), (2, .int x2)]) hx hb dX4_span_8 rfl hl (by decide) rfl (fun ls hl => ?_)
  refine lv_aload_n hx hb dX4_span_9 rfl (lv_at hl 1 rfl) ?_
  refine m_g2 F hw dX4_span_10 ?_
  refine lv_iload_n hx hb dX4_span_13 rfl (lv_at hl 2 rfl) ?_
  obtain ⟨g3, h⟩ := gd h
  refine m_l2 F hw g3 dX4_span_14 ?_
  refine lv_iconst (v := 3) hx hb dX4_span_15 rfl ?_
  refine lv_icmp_ne (tgt := 36) hx hb dX4_span_16 rfl (fun c4 => ?_) (fun c4 => ?_)
  · replace h := itF h c4
    refine lv_iconst (v := 1) hx hb dX4_span_36 rfl ?_
    cases h
    exact retO_i F dX4_span_37
  · replace h := itT h c4
    refine lv_aload_n hx hb dX4_span_19 rfl (lv_at hl 1 rfl) ?_
    refine lv_iload_n hx hb dX4_span_20 rfl (lv_at hl 2 rfl) ?_
    refine lv_iconst (v := 2) hx hb dX4_span_21 rfl ?_
    refine lv_iload_n hx hb dX4_span_22 rfl (lv_at hl 3 rfl) ?_
    refine lv_imul hx hb dX4_span_23 ?_
    refine lv_iconst (v := 1) hx hb dX4_span_24 rfl ?_
    refine lv_iadd hx hb dX4_span_25 ?_
    obtain ⟨z5, e6, h⟩ := bnd h
    refine k_X4_placeOf F hw e6 ⟨Nat.le_of_ble_eq_true rfl, Nat.le_of_ble_eq_true rfl⟩ ⟨Nat.zero_le _, Nat.zero_le _⟩ hl.1 (Nat.le_of_ble_eq_true rfl) dX4_span_26 ?_
    refine lv_iload_n hx hb dX4_span_29 rfl (lv_at hl 0 rfl) ?_
    refine lv_isub hx hb dX4_span_30 ?_
    refine lv_iconst (v := 1) hx hb dX4_span_31 rfl ?_
    refine lv_iadd hx hb dX4_span_32 ?_
    refine lv_goto (tgt := 37) hx hb dX4_span_33 rfl ?_
    cases h
    exact retO_i F dX4_span_37
end
theorem c_X4_span {l : Launch} {G : GX} {ad : Nat → Nat} {x1 : Int32} {x2 : Int32} {u : MS} {z : Int32} (h : f_X4_span x1 x2 u = some z) : MO l yX4_span cX4_span 4 (some .int) rmX4_span G (mw G ad u) [.ref (ad 0), .int x1, .int x2] (some (.int z)) := MO.of (by decide) (Nat.le_of_ble_eq_true rfl) (fun p e s m below meth c ls F hw hl => w_X4_span_0 F _ _ _ _ hw hl h)
theorem yv_X4_span : YV RX4 196 yX4_span cX4_span 4 (some .int) 2 := ⟨(tw 724 (by decide +kernel) rfl), (tw 6 (by decide +kernel) rfl), (tw 721 (by decide +kernel) rfl), (tw 723 (by decide +kernel) rfl), (tp 38 (by decide +kernel) rfl), by decide +kernel⟩
theorem k_X4_span {p : Program} {l : Launch} {e : Env} {R : Room} {s : State} {m : MethodId} {args : Array Value} {below : List Frame} {meth : Method} {c : Code} {H : Heap} {locs : List Loc} {cells slots : Nat} {Q : State → Prop} {G : GX} {A : Nat → Prop} {ad : Nat → Nat} {cc : ByteArray} {nL pc : Nat} {y0 : MethodName} {ret0 : Option FieldType} {ls : Array Slot} {rest : List Value} {u : MS} {x1 : Int32} {x2 : Int32} {z : Int32} (F : FX p m c cc nL s args y0 ret0 RX4 meth) (hw : WD G A s (mw G ad u) H locs) (h : f_X4_span x1 x2 u = some z) (hR : rmX4_span.frames + 1 ≤ R.frames ∧ 8 + (4 + 11) + rmX4_span.locals ≤ R.locals) (hcs : cells ≤ R.cells ∧ slots ≤ R.slots) (hsz : ls.size = nL) (hW : (rest.map fun v => v.category).sum ≤ 8) (hdg : decode cc pc = .ok (.invokevirtual 196, 3)) (kk : W p l e R s m args below meth c H locs cells slots Q (F0 m (pc + 3) ls (.int z :: rest))) : W p l e R s m args below meth c H locs cells slots Q (F0 m pc ls (.int x2 :: .int x1 :: .ref (ad 0) :: rest)) := callO (runV F yv_X4_span (c_X4_span h) hw.1 hw.2.1 hw.2.2.1 rfl rfl rfl ⟨rfl, rfl⟩ hR hcs rfl hsz rfl hW hdg) kk
/-! ===== X4_takeOut ===== -/
theorem dX4_takeOut_0 : decode cX4_takeOut 0 = .ok (.iconst 0, 1) := by decide +kernel
theorem dX4_takeOut_1 : decode cX4_takeOut 1 = .ok (.istore 4, 2) := by decide +kernel
theorem dX4_takeOut_3 : decode cX4_takeOut 3 = .ok (.aload_n 0, 1) := by decide +kernel
theorem dX4_takeOut_4 : decode cX4_takeOut 4 = .ok (.iload_n 3, 1) := by decide +kernel
theorem dX4_takeOut_5 : decode cX4_takeOut 5 = .ok (.putfield 174, 3) := by decide +kernel
theorem dX4_takeOut_8 : decode cX4_takeOut 8 = .ok (.iconst 0, 1) := by decide +kernel
theorem dX4_takeOut_9 : decode cX4_takeOut 9 = .ok (.istore 5, 2) := by decide +kernel
theorem dX4_takeOut_11 : decode cX4_takeOut 11 = .ok (.iload 5, 2) := by decide +kernel
theorem dX4_takeOut_13 : decode cX4_takeOut 13 = .ok (.iload_n 3, 1) := by decide +kernel
theorem dX4_takeOut_14 : decode cX4_takeOut 14 = .ok (.if_icmp .ge 56, 3) := by decide +kernel
theorem dX4_takeOut_17 : decode cX4_takeOut 17 = .ok (.aload_n 0, 1) := by decide +kernel
theorem dX4_takeOut_18 : decode cX4_takeOut 18 = .ok (.getfield 61, 3) := by decide +kernel
theorem dX4_takeOut_21 : decode cX4_takeOut 21 = .ok (.iload 5, 2) := by decide +kernel
theorem dX4_takeOut_23 : decode cX4_takeOut 23 = .ok (.aload_n 0, 1) := by decide +kernel
theorem dX4_takeOut_24 : decode cX4_takeOut 24 = .ok (.getfield 25, 3) := by decide +kernel
theorem dX4_takeOut_27 : decode cX4_takeOut 27 = .ok (.sipush 600, 3) := by decide +kernel
theorem dX4_takeOut_30 : decode cX4_takeOut 30 = .ok (.iload_n 1, 1) := by decide +kernel
theorem dX4_takeOut_31 : decode cX4_takeOut 31 = .ok (.imul, 1) := by decide +kernel
theorem dX4_takeOut_32 : decode cX4_takeOut 32 = .ok (.iload_n 2, 1) := by decide +kernel
theorem dX4_takeOut_33 : decode cX4_takeOut 33 = .ok (.iadd, 1) := by decide +kernel
theorem dX4_takeOut_34 : decode cX4_takeOut 34 = .ok (.iaload, 1) := by decide +kernel
theorem dX4_takeOut_35 : decode cX4_takeOut 35 = .ok (.iastore, 1) := by decide +kernel
theorem dX4_takeOut_36 : decode cX4_takeOut 36 = .ok (.iload 4, 2) := by decide +kernel
theorem dX4_takeOut_38 : decode cX4_takeOut 38 = .ok (.aload_n 0, 1) := by decide +kernel
theorem dX4_takeOut_39 : decode cX4_takeOut 39 = .ok (.getfield 61, 3) := by decide +kernel
theorem dX4_takeOut_42 : decode cX4_takeOut 42 = .ok (.iload 5, 2) := by decide +kernel
theorem dX4_takeOut_44 : decode cX4_takeOut 44 = .ok (.iaload, 1) := by decide +kernel
theorem dX4_takeOut_45 : decode cX4_takeOut 45 = .ok (.iconst 2, 1) := by decide +kernel
theorem dX4_takeOut_46 : decode cX4_takeOut 46 = .ok (.irem, 1) := by decide +kernel
theorem dX4_takeOut_47 : decode cX4_takeOut 47 = .ok (.ifCond .ne 7, 3) := by decide +kernel
theorem dX4_takeOut_50 : decode cX4_takeOut 50 = .ok (.iconst 1, 1) := by decide +kernel
theorem dX4_takeOut_51 : decode cX4_takeOut 51 = .ok (.goto 4, 3) := by decide +kernel
theorem dX4_takeOut_54 : decode cX4_takeOut 54 = .ok (.iconst 0, 1) := by decide +kernel
theorem dX4_takeOut_55 : decode cX4_takeOut 55 = .ok (.iadd, 1) := by decide +kernel
theorem dX4_takeOut_56 : decode cX4_takeOut 56 = .ok (.istore 4, 2) := by decide +kernel
theorem dX4_takeOut_58 : decode cX4_takeOut 58 = .ok (.aload_n 0, 1) := by decide +kernel
theorem dX4_takeOut_59 : decode cX4_takeOut 59 = .ok (.iload_n 1, 1) := by decide +kernel
theorem dX4_takeOut_60 : decode cX4_takeOut 60 = .ok (.iload_n 2, 1) := by decide +kernel
theorem dX4_takeOut_61 : decode cX4_takeOut 61 = .ok (.invokevirtual 177, 3) := by decide +kernel
theorem dX4_takeOut_64 : decode cX4_takeOut 64 = .ok (.iinc 5 1, 3) := by decide +kernel
theorem dX4_takeOut_67 : decode cX4_takeOut 67 = .ok (.goto (-56), 3) := by decide +kernel
theorem dX4_takeOut_70 : decode cX4_takeOut 70 = .ok (.iload 4, 2) := by decide +kernel
theorem dX4_takeOut_72 : decode cX4_takeOut 72 = .ok (.ireturn, 1) := by decide +kernel
def rmX4_takeOut : Room := { frames := 2, cells := 0, slots := 0, locals := 50 }
noncomputable def f_X4_takeOut_11 : Nat → Int32 → Int32 → Int32 → Int32 → Int32 → MS → Option (Int32 × MS)
  | 0, _, _, _, _, _, _ => none
  | n + 1, x1, x2, x3, x4, x5, u => (if x3 ≤ x5 then some (x4, u) else (if ix ((600 * x1) + x2) 4800 = true then (if ix x5 600 = true then (if ix x5 600 = true then (if (((mA u 23 (Int32.toNatClampNeg x5) (u.2.1 7 (Int32.toNatClampNeg ((600 * x1) + x2)))).2.1 23 (Int32.toNatClampNeg x5)) - ((mA u 23 (Int32.toNatClampNeg x5) (u.2.1 7 (Int32.toNatClampNeg ((600 * x1) + x2)))).2.1 23 (Int32.toNatClampNeg x5)) / 2 * 2) = 0 then (f_X4_leave x1 x2 (mA u 23 (Int32.toNatClampNeg x5) (u.2.1 7 (Int32.toNatClampNeg ((600 * x1) + x2))))).bind (fun z8 => f_X4_takeOut_11 n x1 x2 x3 (x4 + 1) (x5 + 1) z8) else (f_X4_leave x1 x2 (mA u 23 (Int32.toNatClampNeg x5) (u.2.1 7 (Int32.toNatClampNeg ((600 * x1) + x2))))).bind (fun z6 => f_X4_takeOut_11 n x1 x2 x3 (x4 + 0) (x5 + 1) z6)) else none) else none) else none))
noncomputable def f_X4_takeOut (x1 : Int32) (x2 : Int32) (x3 : Int32) (u : MS) : Option (Int32 × MS) := f_X4_takeOut_11 NF x1 x2 x3 0 0 (mF u 24 x3)
section
variable {p : Program} {l : Launch} {e : Env} {s : State} {m : MethodId} {args : Array Value} {below : List Frame} {meth : Method} {c : Code}
variable {G : GX} {A : Nat → Prop} {ad : Nat → Nat}
set_option maxHeartbeats 4000000 in
set_option maxRecDepth 100000 in
theorem w_X4_takeOut_11 (F : FX p m c cX4_takeOut 6 s args yX4_takeOut (some .int) RX4 meth) {z : Int32 × MS} : ∀ (n : Nat) (x1 : Int32) (x2 : Int32) (x3 : Int32) (x4 : Int32) (x5 : Int32) (u : MS) (H : Heap) (locs : List Loc) (ls : Array Slot), WD G A s (mw G ad u) H locs → lv_has ls 6 [(0, .ref (ad 0)), (1, .int x1), (2, .int x2), (3, .int x3), (4, .int x4), (5, .int x5)] → f_X4_takeOut_11 n x1 x2 x3 x4 x5 u = some z → W p l e rmX4_takeOut s m args below meth c H locs 0 0 (MQ below (QW G (mw G ad z.2) A (some (.int z.1))) args s 0 0 A) (F0 m 11 ls []) := by
  obtain ⟨⟨hx, hb, hml, hown, hts⟩, hr, hlocks⟩ := id F
  intro n
  induction n with
  | zero =>
    intro x1 x2 x3 x4 x5 u H locs ls hw hl h
    rw [f_X4_takeOut_11] at h
    cases h
  | succ n ih =>
    intro x1 x2 x3 x4 x5 u H locs ls hw hl h
    rw [f_X4_takeOut_11] at h
    refine lv_iload hx hb dX4_takeOut_11 (lv_at hl 5 rfl) ?_
    refine lv_iload_n hx hb dX4_takeOut_13 rfl (lv_at hl 3 rfl) ?_
    refine lv_icmp_ge (tgt := 70) hx hb dX4_takeOut_14 rfl (fun c1 => ?_) (fun c1 => ?_)
    · replace h := itT h c1
      refine lv_iload hx hb dX4_takeOut_70 (lv_at hl 4 rfl) ?_
      cases h
      exact retW_i F hw dX4_takeOut_72
    · replace h := itF h c1
      refine lv_aload_n hx hb dX4_takeOut_17 rfl (lv_at hl 0 rfl) ?_
      refine m_g23 F hw dX4_takeOut_18 ?_
      refine lv_iload hx hb dX4_takeOut_21 (lv_at hl 5 rfl) ?_
      refine lv_aload_n hx hb dX4_takeOut_23 rfl (lv_at hl 0 rfl) ?_
      refine m_g7 F hw dX4_takeOut_24 ?_
      refine lv_sipush (v := 600) hx hb dX4_takeOut_27 rfl ?_
      refine lv_iload_n hx hb dX4_takeOut_30 rfl (lv_at hl 1 rfl) ?_
      refine lv_imul hx hb dX4_takeOut_31 ?_
      refine lv_iload_n hx hb dX4_takeOut_32 rfl (lv_at hl 2 rfl) ?_
      refine lv_iadd hx hb dX4_takeOut_33 ?_
      obtain ⟨g2, h⟩ := gd h
      refine m_l7 F hw g2 dX4_takeOut_34 ?_
      obtain ⟨g3, h⟩ := gd h
      refine m_s23 F hw g3 dX4_takeOut_35 (fun H locs hw => ?_)
      refine lv_iload hx hb dX4_takeOut_36 (lv_at hl 4 rfl) ?_
      refine lv_aload_n hx hb dX4_takeOut_38 rfl (lv_at hl 0 rfl) ?_
      refine m_g23 F hw dX4_takeOut_39 ?_
      refine lv_iload hx hb dX4_takeOut_42 (lv_at hl 5 rfl) ?_
      obtain ⟨g4, h⟩ := gd h
      refine m_l23 F hw g4 dX4_takeOut_44 ?_
      refine lv_iconst (v := 2) hx hb dX4_takeOut_45 rfl ?_
      refine lv_irem hx hb dX4_takeOut_46 (by decide) ?_
      refine lv_if_ne (tgt := 54) hx hb dX4_takeOut_47 rfl (fun c5 => ?_) (fun c5 => ?_)
      · replace h := itF h c5
        refine lv_iconst (v := 0) hx hb dX4_takeOut_54 rfl ?_
        refine lv_iadd hx hb dX4_takeOut_55 ?_
        refine lv_istore (lv' := [(4, .int (x4 + 0)), (0, .ref (ad 0)), (1, .int x1), (2, .int x2), (3, .int x3), (5, .int x5)]) hx hb dX4_takeOut_56 hl (by decide) rfl (fun ls hl => ?_)
        refine lv_aload_n hx hb dX4_takeOut_58 rfl (lv_at hl 1 rfl) ?_
        refine lv_iload_n hx hb dX4_takeOut_59 rfl (lv_at hl 2 rfl) ?_
        refine lv_iload_n hx hb dX4_takeOut_60 rfl (lv_at hl 3 rfl) ?_
        obtain ⟨z6, e7, h⟩ := bnd h
        refine k_X4_leave F hw e7 ⟨Nat.le_of_ble_eq_true rfl, Nat.le_of_ble_eq_true rfl⟩ ⟨Nat.zero_le _, Nat.zero_le _⟩ hl.1 (Nat.le_of_ble_eq_true rfl) dX4_takeOut_61 (fun H locs hw => ?_)
        refine lv_iinc (v := (x5 + 1)) (lv' := [(5, .int (x5 + 1)), (4, .int (x4 + 0)), (0, .ref (ad 0)), (1, .int x1), (2, .int x2), (3, .int x3)]) hx hb dX4_takeOut_64 hl (k := 5) rfl rfl (by decide) rfl (fun ls hl => ?_)
        refine lv_goto (tgt := 11) hx hb dX4_takeOut_67 rfl ?_
        exact ih _ _ _ _ _ _ _ _ _ hw (lv_sub hl [2, 3, 4, 5, 1, 0] rfl) h
      · replace h := itT h c5
        refine lv_iconst (v := 1) hx hb dX4_takeOut_50 rfl ?_
        refine lv_goto (tgt := 55) hx hb dX4_takeOut_51 rfl ?_
        refine lv_iadd hx hb dX4_takeOut_55 ?_
        refine lv_istore (lv' := [(4, .int (x4 + 1)), (0, .ref (ad 0)), (1, .int x1), (2, .int x2), (3, .int x3), (5, .int x5)]) hx hb dX4_takeOut_56 hl (by decide) rfl (fun ls hl => ?_)
        refine lv_aload_n hx hb dX4_takeOut_58 rfl (lv_at hl 1 rfl) ?_
        refine lv_iload_n hx hb dX4_takeOut_59 rfl (lv_at hl 2 rfl) ?_
        refine lv_iload_n hx hb dX4_takeOut_60 rfl (lv_at hl 3 rfl) ?_
        obtain ⟨z8, e9, h⟩ := bnd h
        refine k_X4_leave F hw e9 ⟨Nat.le_of_ble_eq_true rfl, Nat.le_of_ble_eq_true rfl⟩ ⟨Nat.zero_le _, Nat.zero_le _⟩ hl.1 (Nat.le_of_ble_eq_true rfl) dX4_takeOut_61 (fun H locs hw => ?_)
        refine lv_iinc (v := (x5 + 1)) (lv' := [(5, .int (x5 + 1)), (4, .int (x4 + 1)), (0, .ref (ad 0)), (1, .int x1), (2, .int x2), (3, .int x3)]) hx hb dX4_takeOut_64 hl (k := 5) rfl rfl (by decide) rfl (fun ls hl => ?_)
        refine lv_goto (tgt := 11) hx hb dX4_takeOut_67 rfl ?_
        exact ih _ _ _ _ _ _ _ _ _ hw (lv_sub hl [2, 3, 4, 5, 1, 0] rfl) h
set_option maxHeartbeats 4000000 in
set_option maxRecDepth 100000 in
theorem w_X4_takeOut_0 (F : FX p m c cX4_takeOut 6 s args yX4_takeOut (some .int) RX4 meth) {z : Int32 × MS} : ∀ (x1 : Int32) (x2 : Int32) (x3 : Int32) (u : MS) (H : Heap) (locs : List Loc) (ls : Array Slot), WD G A s (mw G ad u) H locs → lv_has ls 6 [(0, .ref (ad 0)), (1, .int x1), (2, .int x2), (3, .int x3)] → f_X4_takeOut x1 x2 x3 u = some z → W p l e rmX4_takeOut s m args below meth c H locs 0 0 (MQ below (QW G (mw G ad z.2) A (some (.int z.1))) args s 0 0 A) (F0 m 0 ls []) := by
  obtain ⟨⟨hx, hb, hml, hown, hts⟩, hr, hlocks⟩ := id F
  intro x1 x2 x3 u H locs ls hw hl h
  unfold f_X4_takeOut at h
  refine lv_iconst (v := 0) hx hb dX4_takeOut_0 rfl ?_
  refine lv_istore (lv' := [(4, .int 0), (0, .ref (ad 0)), (1, .int x1), (2, .int x2), (3, .int x3)]) hx hb dX4_takeOut_1 hl (by decide) rfl (fun ls hl => ?_)
  refine lv_aload_n hx hb dX4_takeOut_3 rfl (lv_at hl 1 rfl) ?_
  refine lv_iload_n hx hb dX4_takeOut_4 rfl (lv_at hl 4 rfl) ?_
  refine m_p24 F hw dX4_takeOut_5 (fun H locs hw => ?_)
  refine lv_iconst (v := 0) hx hb dX4_takeOut_8 rfl ?_
  refine lv_istore (lv' := [(5, .int 0), (4, .int 0), (0, .ref (ad 0)), (1, .int x1), (2, .int x2), (3, .int x3)]) hx hb dX4_takeOut_9 hl (by decide) rfl (fun ls hl => ?_)
  exact w_X4_takeOut_11 F NF _ _ _ _ _ _ _ _ _ hw (lv_sub hl [2, 3, 4, 5, 1, 0] rfl) h
end
theorem c_X4_takeOut {l : Launch} {G : GX} {ad : Nat → Nat} {x1 : Int32} {x2 : Int32} {x3 : Int32} {u : MS} {z : Int32 × MS} (h : f_X4_takeOut x1 x2 x3 u = some z) : MW l yX4_takeOut cX4_takeOut 6 (some .int) rmX4_takeOut G (mw G ad u) (mw G ad z.2) [.ref (ad 0), .int x1, .int x2, .int x3] (some (.int z.1)) := MW.of (by decide) (Nat.le_of_ble_eq_true rfl) (fun p e s m below meth c ls F hw hl => w_X4_takeOut_0 F _ _ _ _ _ _ _ hw hl h)
theorem yv_X4_takeOut : YV RX4 199 yX4_takeOut cX4_takeOut 6 (some .int) 3 := ⟨(tw 728 (by decide +kernel) rfl), (tw 6 (by decide +kernel) rfl), (tw 725 (by decide +kernel) rfl), (tw 727 (by decide +kernel) rfl), (tp 39 (by decide +kernel) rfl), by decide +kernel⟩
theorem k_X4_takeOut {p : Program} {l : Launch} {e : Env} {R : Room} {s : State} {m : MethodId} {args : Array Value} {below : List Frame} {meth : Method} {c : Code} {H : Heap} {locs : List Loc} {cells slots : Nat} {Q : State → Prop} {G : GX} {A : Nat → Prop} {ad : Nat → Nat} {cc : ByteArray} {nL pc : Nat} {y0 : MethodName} {ret0 : Option FieldType} {ls : Array Slot} {rest : List Value} {u : MS} {x1 : Int32} {x2 : Int32} {x3 : Int32} {z : Int32 × MS} (F : FX p m c cc nL s args y0 ret0 RX4 meth) (hw : WD G A s (mw G ad u) H locs) (h : f_X4_takeOut x1 x2 x3 u = some z) (hR : rmX4_takeOut.frames + 1 ≤ R.frames ∧ 8 + (6 + 11) + rmX4_takeOut.locals ≤ R.locals) (hcs : cells ≤ R.cells ∧ slots ≤ R.slots) (hsz : ls.size = nL) (hW : (rest.map fun v => v.category).sum ≤ 8) (hdg : decode cc pc = .ok (.invokevirtual 199, 3)) (kk : ∀ (H : Heap) (locs : List Loc), WD G A s (mw G ad z.2) H locs → W p l e R s m args below meth c H locs cells slots Q (F0 m (pc + 3) ls (.int z.1 :: rest))) : W p l e R s m args below meth c H locs cells slots Q (F0 m pc ls (.int x3 :: .int x2 :: .int x1 :: .ref (ad 0) :: rest)) := callW (runV F yv_X4_takeOut (c_X4_takeOut h) hw.1 hw.2.1 hw.2.2.1 rfl rfl rfl ⟨rfl, rfl⟩ hR hcs rfl hsz rfl hW hdg) hw.2.2.2 hw.2.2.1.own_in (fun H1 l1 hP _ hS => kk H1 l1 ⟨hw.1, hP, hw.2.2.1.addr rfl, hS⟩)
/-! ===== X4_bring ===== -/
theorem dX4_bring_0 : decode cX4_bring 0 = .ok (.iconst 0, 1) := by decide +kernel
theorem dX4_bring_1 : decode cX4_bring 1 = .ok (.istore_n 3, 1) := by decide +kernel
theorem dX4_bring_2 : decode cX4_bring 2 = .ok (.iload_n 3, 1) := by decide +kernel
theorem dX4_bring_3 : decode cX4_bring 3 = .ok (.aload_n 0, 1) := by decide +kernel
theorem dX4_bring_4 : decode cX4_bring 4 = .ok (.getfield 174, 3) := by decide +kernel
theorem dX4_bring_7 : decode cX4_bring 7 = .ok (.if_icmp .ge 34, 3) := by decide +kernel
theorem dX4_bring_10 : decode cX4_bring 10 = .ok (.aload_n 0, 1) := by decide +kernel
theorem dX4_bring_11 : decode cX4_bring 11 = .ok (.iload_n 1, 1) := by decide +kernel
theorem dX4_bring_12 : decode cX4_bring 12 = .ok (.iload_n 2, 1) := by decide +kernel
theorem dX4_bring_13 : decode cX4_bring 13 = .ok (.iload_n 3, 1) := by decide +kernel
theorem dX4_bring_14 : decode cX4_bring 14 = .ok (.iadd, 1) := by decide +kernel
theorem dX4_bring_15 : decode cX4_bring 15 = .ok (.aload_n 0, 1) := by decide +kernel
theorem dX4_bring_16 : decode cX4_bring 16 = .ok (.getfield 61, 3) := by decide +kernel
theorem dX4_bring_19 : decode cX4_bring 19 = .ok (.iload_n 3, 1) := by decide +kernel
theorem dX4_bring_20 : decode cX4_bring 20 = .ok (.iaload, 1) := by decide +kernel
theorem dX4_bring_21 : decode cX4_bring 21 = .ok (.invokevirtual 180, 3) := by decide +kernel
theorem dX4_bring_24 : decode cX4_bring 24 = .ok (.ifCond .ne 11, 3) := by decide +kernel
theorem dX4_bring_27 : decode cX4_bring 27 = .ok (.aload_n 0, 1) := by decide +kernel
theorem dX4_bring_28 : decode cX4_bring 28 = .ok (.bipush 8, 2) := by decide +kernel
theorem dX4_bring_30 : decode cX4_bring 30 = .ok (.invokevirtual 89, 3) := by decide +kernel
theorem dX4_bring_33 : decode cX4_bring 33 = .ok (.iconst 0, 1) := by decide +kernel
theorem dX4_bring_34 : decode cX4_bring 34 = .ok (.ireturn, 1) := by decide +kernel
theorem dX4_bring_35 : decode cX4_bring 35 = .ok (.iinc 3 1, 3) := by decide +kernel
theorem dX4_bring_38 : decode cX4_bring 38 = .ok (.goto (-36), 3) := by decide +kernel
theorem dX4_bring_41 : decode cX4_bring 41 = .ok (.iconst 1, 1) := by decide +kernel
theorem dX4_bring_42 : decode cX4_bring 42 = .ok (.ireturn, 1) := by decide +kernel
def rmX4_bring : Room := { frames := 6, cells := 0, slots := 0, locals := 158 }
noncomputable def f_X4_bring_2 : Nat → Int32 → Int32 → Int32 → MS → Option (Int32 × MS)
  | 0, _, _, _, _ => none
  | n + 1, x1, x2, x3, u => (if (u.1 24) ≤ x3 then some (1, u) else (if ix x3 600 = true then (f_X4_come x1 (x2 + x3) (u.2.1 23 (Int32.toNatClampNeg x3)) u).bind (fun z3 => (if z3.1 = 0 then (f_X4_load 8 z3.2).bind (fun z6 => some (0, z6)) else f_X4_bring_2 n x1 x2 (x3 + 1) z3.2)) else none))
noncomputable def f_X4_bring (x1 : Int32) (x2 : Int32) (u : MS) : Option (Int32 × MS) := f_X4_bring_2 NF x1 x2 0 u
section
variable {p : Program} {l : Launch} {e : Env} {s : State} {m : MethodId} {args : Array Value} {below : List Frame} {meth : Method} {c : Code}
variable {G : GX} {A : Nat → Prop} {ad : Nat → Nat}
set_option maxHeartbeats 4000000 in
set_option maxRecDepth 100000 in
theorem w_X4_bring_2 (F : FX p m c cX4_bring 4 s args yX4_bring (some .boolean) RX4 meth) {z : Int32 × MS} : ∀ (n : Nat) (x1 : Int32) (x2 : Int32) (x3 : Int32) (u : MS) (H : Heap) (locs : List Loc) (ls : Array Slot), WD G A s (mw G ad u) H locs → lv_has ls 4 [(0, .ref (ad 0)), (1, .int x1), (2, .int x2), (3, .int x3)] → f_X4_bring_2 n x1 x2 x3 u = some z → W p l e rmX4_bring s m args below meth c H locs 0 0 (MQ below (QW G (mw G ad z.2) A (some (.int z.1))) args s 0 0 A) (F0 m 2 ls []) := by
  obtain ⟨⟨hx, hb, hml, hown, hts⟩, hr, hlocks⟩ := id F
  intro n
  induction n with
  | zero =>
    intro x1 x2 x3 u H locs ls hw hl h
    rw [f_X4_bring_2] at h
    cases h
  | succ n ih =>
    intro x1 x2 x3 u H locs ls hw hl h
    rw [f_X4_bring_2] at h
    refine lv_iload_n hx hb dX4_bring_2 rfl (lv_at hl 3 rfl) ?_
    refine lv_aload_n hx hb dX4_bring_3 rfl (lv_at hl 0 rfl) ?_
    refine m_g24 F hw dX4_bring_4 ?_
    refine lv_icmp_ge (tgt := 41) hx hb dX4_bring_7 rfl (fun c1 => ?_) (fun c1 => ?_)
    · replace h := itT h c1
      refine lv_iconst (v := 1) hx hb dX4_bring_41 rfl ?_
      cases h
      exact retW_z F hw narrow_b1 dX4_bring_42
    · replace h := itF h c1
      refine lv_aload_n hx hb dX4_bring_10 rfl (lv_at hl 0 rfl) ?_
      refine lv_iload_n hx hb dX4_bring_11 rfl (lv_at hl 1 rfl) ?_
      refine lv_iload_n hx hb dX4_bring_12 rfl (lv_at hl 2 rfl) ?_
      refine lv_iload_n hx hb dX4_bring_13 rfl (lv_at hl 3 rfl) ?_
      refine lv_iadd hx hb dX4_bring_14 ?_
      refine lv_aload_n hx hb dX4_bring_15 rfl (lv_at hl 0 rfl) ?_
      refine m_g23 F hw dX4_bring_16 ?_
      refine lv_iload_n hx hb dX4_bring_19 rfl (lv_at hl 3 rfl) ?_
      obtain ⟨g2, h⟩ := gd h
      refine m_l23 F hw g2 dX4_bring_20 ?_
      obtain ⟨z3, e4, h⟩ := bnd h
      refine k_X4_come F hw e4 ⟨Nat.le_of_ble_eq_true rfl, Nat.le_of_ble_eq_true rfl⟩ ⟨Nat.zero_le _, Nat.zero_le _⟩ hl.1 (Nat.le_of_ble_eq_true rfl) dX4_bring_21 (fun H locs hw => ?_)
      refine lv_if_ne (tgt := 35) hx hb dX4_bring_24 rfl (fun c5 => ?_) (fun c5 => ?_)
      · replace h := itF h c5
        refine lv_iinc (v := (x3 + 1)) (lv' := [(3, .int (x3 + 1)), (0, .ref (ad 0)), (1, .int x1), (2, .int x2)]) hx hb dX4_bring_35 hl (k := 3) rfl rfl (by decide) rfl (fun ls hl => ?_)
        refine lv_goto (tgt := 2) hx hb dX4_bring_38 rfl ?_
        exact ih _ _ _ _ _ _ _ hw (lv_sub hl [1, 2, 3, 0] rfl) h
      · replace h := itT h c5
        refine lv_aload_n hx hb dX4_bring_27 rfl (lv_at hl 0 rfl) ?_
        refine lv_bipush (v := 8) hx hb dX4_bring_28 rfl ?_
        obtain ⟨z6, e7, h⟩ := bnd h
        refine k_X4_load F hw e7 ⟨Nat.le_of_ble_eq_true rfl, Nat.le_of_ble_eq_true rfl⟩ ⟨Nat.zero_le _, Nat.zero_le _⟩ hl.1 (Nat.le_of_ble_eq_true rfl) dX4_bring_30 (fun H locs hw => ?_)
        refine lv_iconst (v := 0) hx hb dX4_bring_33 rfl ?_
        cases h
        exact retW_z F hw narrow_b0 dX4_bring_34
set_option maxHeartbeats 4000000 in
set_option maxRecDepth 100000 in
theorem w_X4_bring_0 (F : FX p m c cX4_bring 4 s args yX4_bring (some .boolean) RX4 meth) {z : Int32 × MS} : ∀ (x1 : Int32) (x2 : Int32) (u : MS) (H : Heap) (locs : List Loc) (ls : Array Slot), WD G A s (mw G ad u) H locs → lv_has ls 4 [(0, .ref (ad 0)), (1, .int x1), (2, .int x2)] → f_X4_bring x1 x2 u = some z → W p l e rmX4_bring s m args below meth c H locs 0 0 (MQ below (QW G (mw G ad z.2) A (some (.int z.1))) args s 0 0 A) (F0 m 0 ls []) := by
  obtain ⟨⟨hx, hb, hml, hown, hts⟩, hr, hlocks⟩ := id F
  intro x1 x2 u H locs ls hw hl h
  unfold f_X4_bring at h
  refine lv_iconst (v := 0) hx hb dX4_bring_0 rfl ?_
  refine lv_istore_n (lv' := [(3, .int 0), (0, .ref (ad 0)), (1, .int x1), (2, .int x2)]) hx hb dX4_bring_1 rfl hl (by decide) rfl (fun ls hl => ?_)
  exact w_X4_bring_2 F NF _ _ _ _ _ _ _ hw (lv_sub hl [1, 2, 3, 0] rfl) h
end
theorem c_X4_bring {l : Launch} {G : GX} {ad : Nat → Nat} {x1 : Int32} {x2 : Int32} {u : MS} {z : Int32 × MS} (h : f_X4_bring x1 x2 u = some z) : MW l yX4_bring cX4_bring 4 (some .boolean) rmX4_bring G (mw G ad u) (mw G ad z.2) [.ref (ad 0), .int x1, .int x2] (some (.int z.1)) := MW.of (by decide) (Nat.le_of_ble_eq_true rfl) (fun p e s m below meth c ls F hw hl => w_X4_bring_0 F _ _ _ _ _ _ hw hl h)
theorem yv_X4_bring : YV RX4 203 yX4_bring cX4_bring 4 (some .boolean) 2 := ⟨(tw 740 (by decide +kernel) rfl), (tw 6 (by decide +kernel) rfl), (tw 737 (by decide +kernel) rfl), (tw 739 (by decide +kernel) rfl), (tp 41 (by decide +kernel) rfl), by decide +kernel⟩
theorem k_X4_bring {p : Program} {l : Launch} {e : Env} {R : Room} {s : State} {m : MethodId} {args : Array Value} {below : List Frame} {meth : Method} {c : Code} {H : Heap} {locs : List Loc} {cells slots : Nat} {Q : State → Prop} {G : GX} {A : Nat → Prop} {ad : Nat → Nat} {cc : ByteArray} {nL pc : Nat} {y0 : MethodName} {ret0 : Option FieldType} {ls : Array Slot} {rest : List Value} {u : MS} {x1 : Int32} {x2 : Int32} {z : Int32 × MS} (F : FX p m c cc nL s args y0 ret0 RX4 meth) (hw : WD G A s (mw G ad u) H locs) (h : f_X4_bring x1 x2 u = some z) (hR : rmX4_bring.frames + 1 ≤ R.frames ∧ 8 + (4 + 11) + rmX4_bring.locals ≤ R.locals) (hcs : cells ≤ R.cells ∧ slots ≤ R.slots) (hsz : ls.size = nL) (hW : (rest.map fun v => v.category).sum ≤ 8) (hdg : decode cc pc = .ok (.invokevirtual 203, 3)) (kk : ∀ (H : Heap) (locs : List Loc), WD G A s (mw G ad z.2) H locs → W p l e R s m args below meth c H locs cells slots Q (F0 m (pc + 3) ls (.int z.1 :: rest))) : W p l e R s m args below meth c H locs cells slots Q (F0 m pc ls (.int x2 :: .int x1 :: .ref (ad 0) :: rest)) := callW (runV F yv_X4_bring (c_X4_bring h) hw.1 hw.2.1 hw.2.2.1 rfl rfl rfl ⟨rfl, rfl⟩ hR hcs rfl hsz rfl hW hdg) hw.2.2.2 hw.2.2.1.own_in (fun H1 l1 hP _ hS => kk H1 l1 ⟨hw.1, hP, hw.2.2.1.addr rfl, hS⟩)
/-! ===== X4_placeBehind ===== -/
theorem dX4_placeBehind_0 : decode cX4_placeBehind 0 = .ok (.iload_n 2, 1) := by decide +kernel
theorem dX4_placeBehind_1 : decode cX4_placeBehind 1 = .ok (.iconst (-1), 1) := by decide +kernel
theorem dX4_placeBehind_2 : decode cX4_placeBehind 2 = .ok (.if_icmp .ne 14, 3) := by decide +kernel
theorem dX4_placeBehind_5 : decode cX4_placeBehind 5 = .ok (.iload_n 3, 1) := by decide +kernel
theorem dX4_placeBehind_6 : decode cX4_placeBehind 6 = .ok (.ifCond .eq 8, 3) := by decide +kernel
theorem dX4_placeBehind_9 : decode cX4_placeBehind 9 = .ok (.bipush (-3), 2) := by decide +kernel
theorem dX4_placeBehind_11 : decode cX4_placeBehind 11 = .ok (.goto 4, 3) := by decide +kernel
theorem dX4_placeBehind_14 : decode cX4_placeBehind 14 = .ok (.iconst 0, 1) := by decide +kernel
theorem dX4_placeBehind_15 : decode cX4_placeBehind 15 = .ok (.ireturn, 1) := by decide +kernel
theorem dX4_placeBehind_16 : decode cX4_placeBehind 16 = .ok (.aload_n 0, 1) := by decide +kernel
theorem dX4_placeBehind_17 : decode cX4_placeBehind 17 = .ok (.iload_n 2, 1) := by decide +kernel
theorem dX4_placeBehind_18 : decode cX4_placeBehind 18 = .ok (.invokevirtual 183, 3) := by decide +kernel
theorem dX4_placeBehind_21 : decode cX4_placeBehind 21 = .ok (.ifCond .eq 28, 3) := by decide +kernel
theorem dX4_placeBehind_24 : decode cX4_placeBehind 24 = .ok (.aload_n 0, 1) := by decide +kernel
theorem dX4_placeBehind_25 : decode cX4_placeBehind 25 = .ok (.iconst 2, 1) := by decide +kernel
theorem dX4_placeBehind_26 : decode cX4_placeBehind 26 = .ok (.iload_n 2, 1) := by decide +kernel
theorem dX4_placeBehind_27 : decode cX4_placeBehind 27 = .ok (.imul, 1) := by decide +kernel
theorem dX4_placeBehind_28 : decode cX4_placeBehind 28 = .ok (.invokevirtual 100, 3) := by decide +kernel
theorem dX4_placeBehind_31 : decode cX4_placeBehind 31 = .ok (.iload_n 1, 1) := by decide +kernel
theorem dX4_placeBehind_32 : decode cX4_placeBehind 32 = .ok (.if_icmp .ne 17, 3) := by decide +kernel
theorem dX4_placeBehind_35 : decode cX4_placeBehind 35 = .ok (.iload_n 3, 1) := by decide +kernel
theorem dX4_placeBehind_36 : decode cX4_placeBehind 36 = .ok (.ifCond .eq 16, 3) := by decide +kernel
theorem dX4_placeBehind_39 : decode cX4_placeBehind 39 = .ok (.aload_n 0, 1) := by decide +kernel
theorem dX4_placeBehind_40 : decode cX4_placeBehind 40 = .ok (.getfield 7, 3) := by decide +kernel
theorem dX4_placeBehind_43 : decode cX4_placeBehind 43 = .ok (.iload_n 1, 1) := by decide +kernel
theorem dX4_placeBehind_44 : decode cX4_placeBehind 44 = .ok (.iaload, 1) := by decide +kernel
theorem dX4_placeBehind_45 : decode cX4_placeBehind 45 = .ok (.iconst 3, 1) := by decide +kernel
theorem dX4_placeBehind_46 : decode cX4_placeBehind 46 = .ok (.if_icmp .eq 6, 3) := by decide +kernel
theorem dX4_placeBehind_49 : decode cX4_placeBehind 49 = .ok (.bipush (-3), 2) := by decide +kernel
theorem dX4_placeBehind_51 : decode cX4_placeBehind 51 = .ok (.ireturn, 1) := by decide +kernel
theorem dX4_placeBehind_52 : decode cX4_placeBehind 52 = .ok (.aload_n 0, 1) := by decide +kernel
theorem dX4_placeBehind_53 : decode cX4_placeBehind 53 = .ok (.iload_n 1, 1) := by decide +kernel
theorem dX4_placeBehind_54 : decode cX4_placeBehind 54 = .ok (.iconst 2, 1) := by decide +kernel
theorem dX4_placeBehind_55 : decode cX4_placeBehind 55 = .ok (.iload_n 2, 1) := by decide +kernel
theorem dX4_placeBehind_56 : decode cX4_placeBehind 56 = .ok (.imul, 1) := by decide +kernel
theorem dX4_placeBehind_57 : decode cX4_placeBehind 57 = .ok (.iload_n 3, 1) := by decide +kernel
theorem dX4_placeBehind_58 : decode cX4_placeBehind 58 = .ok (.ifCond .eq 7, 3) := by decide +kernel
theorem dX4_placeBehind_61 : decode cX4_placeBehind 61 = .ok (.iconst 1, 1) := by decide +kernel
theorem dX4_placeBehind_62 : decode cX4_placeBehind 62 = .ok (.goto 4, 3) := by decide +kernel
theorem dX4_placeBehind_65 : decode cX4_placeBehind 65 = .ok (.iconst 0, 1) := by decide +kernel
theorem dX4_placeBehind_66 : decode cX4_placeBehind 66 = .ok (.iadd, 1) := by decide +kernel
theorem dX4_placeBehind_67 : decode cX4_placeBehind 67 = .ok (.invokevirtual 171, 3) := by decide +kernel
theorem dX4_placeBehind_70 : decode cX4_placeBehind 70 = .ok (.iconst 1, 1) := by decide +kernel
theorem dX4_placeBehind_71 : decode cX4_placeBehind 71 = .ok (.iadd, 1) := by decide +kernel
theorem dX4_placeBehind_72 : decode cX4_placeBehind 72 = .ok (.ireturn, 1) := by decide +kernel
def rmX4_placeBehind : Room := { frames := 2, cells := 0, slots := 0, locals := 44 }
noncomputable def f_X4_placeBehind_52 (x1 : Int32) (x2 : Int32) (x3 : Int32) (u : MS) : Option (Int32) := (if x3 = 0 then (f_X4_placeOf x1 ((2 * x2) + 0) u).bind (fun z13 => some (z13 + 1)) else (f_X4_placeOf x1 ((2 * x2) + 1) u).bind (fun z15 => some (z15 + 1)))
noncomputable def f_X4_placeBehind (x1 : Int32) (x2 : Int32) (x3 : Int32) (u : MS) : Option (Int32) := (if x2 = ((-1) : Int32) then (if x3 = 0 then some 0 else some (-3)) else (f_X4_isThing x2 u).bind (fun z2 => (if z2 = 0 then some (-3) else (f_X4_rowWith (2 * x2) u).bind (fun z5 => (if z5 = x1 then (if x3 = 0 then f_X4_placeBehind_52 x1 x2 x3 u else (if ix x1 8 = true then (if (u.2.1 2 (Int32.toNatClampNeg x1)) = (3 : Int32) then f_X4_placeBehind_52 x1 x2 x3 u else some (-3)) else none)) else some (-3))))))
section
variable {p : Program} {l : Launch} {e : Env} {s : State} {m : MethodId} {args : Array Value} {below : List Frame} {meth : Method} {c : Code}
variable {G : GX} {A : Nat → Prop} {ad : Nat → Nat}
set_option maxHeartbeats 4000000 in
set_option maxRecDepth 100000 in
theorem w_X4_placeBehind_52 (F : FX p m c cX4_placeBehind 4 s args yX4_placeBehind (some .int) RX4 meth) {z : Int32} : ∀ (x1 : Int32) (x2 : Int32) (x3 : Int32) (u : MS) (ls : Array Slot), WD G A s (mw G ad u) s.heap [] → lv_has ls 4 [(0, .ref (ad 0)), (1, .int x1), (2, .int x2), (3, .int x3)] → f_X4_placeBehind_52 x1 x2 x3 u = some z → W p l e rmX4_placeBehind s m args below meth c s.heap [] 0 0 (MQ below (QO (some (.int z))) args s 0 0 (fun _ => False)) (F0 m 52 ls []) := by
  obtain ⟨⟨hx, hb, hml, hown, hts⟩, hr, hlocks⟩ := id F
  intro x1 x2 x3 u ls hw hl h
  unfold f_X4_placeBehind_52 at h
  refine lv_aload_n hx hb dX4_placeBehind_52 rfl (lv_at hl 0 rfl) ?_
  refine lv_iload_n hx hb dX4_placeBehind_53 rfl (lv_at hl 1 rfl) ?_
  refine lv_iconst (v := 2) hx hb dX4_placeBehind_54 rfl ?_
  refine lv_iload_n hx hb dX4_placeBehind_55 rfl (lv_at hl 2 rfl) ?_
  refine lv_imul hx hb dX4_placeBehind_56 ?_
  refine lv_iload_n hx hb dX4_placeBehind_57 rfl (lv_at hl 3 rfl) ?_
  refine lv_if_eq (tgt := 65) hx hb dX4_placeBehind_58 rfl (fun c12 => ?_) (fun c12 => ?_)
  · replace h := itT h c12
    refine lv_iconst (v := 0) hx hb dX4_placeBehind_65 rfl ?_
    refine lv_iadd hx hb dX4_placeBehind_66 ?_
    obtain ⟨z13, e14, h⟩ := bnd h
    refine k_X4_placeOf F hw e14 ⟨Nat.le_of_ble_eq_true rfl, Nat.le_of_ble_eq_true rfl⟩ ⟨Nat.zero_le _, Nat.zero_le _⟩ hl.1 (Nat.le_of_ble_eq_true rfl) dX4_placeBehind_67 ?_
    refine lv_iconst (v := 1) hx hb dX4_placeBehind_70 rfl ?_
    refine lv_iadd hx hb dX4_placeBehind_71 ?_
    cases h
    exact retO_i F dX4_placeBehind_72
  · replace h := itF h c12
    refine lv_iconst (v := 1) hx hb dX4_placeBehind_61 rfl ?_
    refine lv_goto (tgt := 66) hx hb dX4_placeBehind_62 rfl ?_
    refine lv_iadd hx hb dX4_placeBehind_66 ?_
    obtain ⟨z15, e16, h⟩ := bnd h
    refine k_X4_placeOf F hw e16 ⟨Nat.le_of_ble_eq_true rfl, Nat.le_of_ble_eq_true rfl⟩ ⟨Nat.zero_le _, Nat.zero_le _⟩ hl.1 (Nat.le_of_ble_eq_true rfl) dX4_placeBehind_67 ?_
    refine lv_iconst (v := 1) hx hb dX4_placeBehind_70 rfl ?_
    refine lv_iadd hx hb dX4_placeBehind_71 ?_
    cases h
    exact retO_i F dX4_placeBehind_72
set_option maxHeartbeats 4000000 in
set_option maxRecDepth 100000 in
theorem w_X4_placeBehind_0 (F : FX p m c cX4_placeBehind 4 s args yX4_placeBehind (some .int) RX4 meth) {z : Int32} : ∀ (x1 : Int32) (x2 : Int32) (x3 : Int32) (u : MS) (ls : Array Slot), WD G A s (mw G ad u) s.heap [] → lv_has ls 4 [(0, .ref (ad 0)), (1, .int x1), (2, .int x2), (3, .int x3)] → f_X4_placeBehind x1 x2 x3 u = some z → W p l e rmX4_placeBehind s m args below meth c s.heap [] 0 0 (MQ below (QO (some (.int z))) args s 0 0 (fun _ => False)) (F0 m 0 ls []) := by
  obtain ⟨⟨hx, hb, hml, hown, hts⟩, hr, hlocks⟩ := id F
  intro x1 x2 x3 u ls hw hl h
  unfold f_X4_placeBehind at h
  refine lv_iload_n hx hb dX4_placeBehind_0 rfl (lv_at hl 2 rfl) ?_
  refine lv_iconst (v := (-1)) hx hb dX4_placeBehind_1 rfl ?_
  refine lv_icmp_ne (tgt := 16) hx hb dX4_placeBehind_2 rfl (fun c1 => ?_) (fun c1 => ?_)
  · replace h := itF h c1
    refine lv_aload_n hx hb dX4_placeBehind_16 rfl (lv_at hl 0 rfl) ?_
    refine lv_iload_n hx hb dX4_placeBehind_17 rfl (lv_at hl 2 rfl) ?_
    obtain ⟨z2, e3, h⟩ := bnd h
    refine k_X4_isThing F hw e3 ⟨Nat.le_of_ble_eq_true rfl, Nat.le_of_ble_eq_true rfl⟩ ⟨Nat.zero_le _, Nat.zero_le _⟩ hl.1 (Nat.le_of_ble_eq_true rfl) dX4_placeBehind_18 ?_
    refine lv_if_eq (tgt := 49) hx hb dX4_placeBehind_21 rfl (fun c4 => ?_) (fun c4 => ?_)
    · replace h := itT h c4
      refine lv_bipush (v := (-3)) hx hb dX4_placeBehind_49 rfl ?_
      cases h
      exact retO_i F dX4_placeBehind_51
    · replace h := itF h c4
      refine lv_aload_n hx hb dX4_placeBehind_24 rfl (lv_at hl 0 rfl) ?_
      refine lv_iconst (v := 2) hx hb dX4_placeBehind_25 rfl ?_
      refine lv_iload_n hx hb dX4_placeBehind_26 rfl (lv_at hl 2 rfl) ?_
      refine lv_imul hx hb dX4_placeBehind_27 ?_
      obtain ⟨z5, e6, h⟩ := bnd h
      refine k_X4_rowWith F hw e6 ⟨Nat.le_of_ble_eq_true rfl, Nat.le_of_ble_eq_true rfl⟩ ⟨Nat.zero_le _, Nat.zero_le _⟩ hl.1 (Nat.le_of_ble_eq_true rfl) dX4_placeBehind_28 ?_
      refine lv_iload_n hx hb dX4_placeBehind_31 rfl (lv_at hl 1 rfl) ?_
      refine lv_icmp_ne (tgt := 49) hx hb dX4_placeBehind_32 rfl (fun c7 => ?_) (fun c7 => ?_)
      · replace h := itF h c7
        refine lv_bipush (v := (-3)) hx hb dX4_placeBehind_49 rfl ?_
        cases h
        exact retO_i F dX4_placeBehind_51
      · replace h := itT h c7
        refine lv_iload_n hx hb dX4_placeBehind_35 rfl (lv_at hl 3 rfl) ?_
        refine lv_if_eq (tgt := 52) hx hb dX4_placeBehind_36 rfl (fun c8 => ?_) (fun c8 => ?_)
        · replace h := itT h c8
          exact w_X4_placeBehind_52 F _ _ _ _ _ hw (lv_sub hl [0, 1, 2, 3] rfl) h
        · replace h := itF h c8
          refine lv_aload_n hx hb dX4_placeBehind_39 rfl (lv_at hl 0 rfl) ?_
          refine m_g2 F hw dX4_placeBehind_40 ?_
          refine lv_iload_n hx hb dX4_placeBehind_43 rfl (lv_at hl 1 rfl) ?_
          obtain ⟨g9, h⟩ := gd h
          refine m_l2 F hw g9 dX4_placeBehind_44 ?_
          refine lv_iconst (v := 3) hx hb dX4_placeBehind_45 rfl ?_
          refine lv_icmp_eq (tgt := 52) hx hb dX4_placeBehind_46 rfl (fun c10 => ?_) (fun c10 => ?_)
          · replace h := itT h c10
            exact w_X4_placeBehind_52 F _ _ _ _ _ hw (lv_sub hl [0, 1, 2, 3] rfl) h
          · replace h := itF h c10
            refine lv_bipush (v := (-3)) hx hb dX4_placeBehind_49 rfl ?_
            cases h
            exact retO_i F dX4_placeBehind_51
  · replace h := itT h c1
    refine lv_iload_n hx hb dX4_placeBehind_5 rfl (lv_at hl 3 rfl) ?_
    refine lv_if_eq (tgt := 14) hx hb dX4_placeBehind_6 rfl (fun c11 => ?_) (fun c11 => ?_)
    · replace h := itT h c11
      refine lv_iconst (v := 0) hx hb dX4_placeBehind_14 rfl ?_
      cases h
      exact retO_i F dX4_placeBehind_15
    · replace h := itF h c11
      refine lv_bipush (v := (-3)) hx hb dX4_placeBehind_9 rfl ?_
      refine lv_goto (tgt := 15) hx hb dX4_placeBehind_11 rfl ?_
      cases h
      exact retO_i F dX4_placeBehind_15
end
theorem c_X4_placeBehind {l : Launch} {G : GX} {ad : Nat → Nat} {x1 : Int32} {x2 : Int32} {x3 : Int32} {u : MS} {z : Int32} (h : f_X4_placeBehind x1 x2 x3 u = some z) : MO l yX4_placeBehind cX4_placeBehind 4 (some .int) rmX4_placeBehind G (mw G ad u) [.ref (ad 0), .int x1, .int x2, .int x3] (some (.int z)) := MO.of (by decide) (Nat.le_of_ble_eq_true rfl) (fun p e s m below meth c ls F hw hl => w_X4_placeBehind_0 F _ _ _ _ _ hw hl h)
theorem yv_X4_placeBehind : YV RX4 189 yX4_placeBehind cX4_placeBehind 4 (some .int) 3 := ⟨(tw 633 (by decide +kernel) rfl), (tw 6 (by decide +kernel) rfl), (tw 630 (by decide +kernel) rfl), (tw 632 (by decide +kernel) rfl), (tp 17 (by decide +kernel) rfl), by decide +kernel⟩
theorem k_X4_placeBehind {p : Program} {l : Launch} {e : Env} {R : Room} {s : State} {m : MethodId} {args : Array Value} {below : List Frame} {meth : Method} {c : Code} {H : Heap} {locs : List Loc} {cells slots : Nat} {Q : State → Prop} {G : GX} {A : Nat → Prop} {ad : Nat → Nat} {cc : ByteArray} {nL pc : Nat} {y0 : MethodName} {ret0 : Option FieldType} {ls : Array Slot} {rest : List Value} {u : MS} {x1 : Int32} {x2 : Int32} {x3 : Int32} {z : Int32} (F : FX p m c cc nL s args y0 ret0 RX4 meth) (hw : WD G A s (mw G ad u) H locs) (h : f_X4_placeBehind x1 x2 x3 u = some z) (hR : rmX4_placeBehind.frames + 1 ≤ R.frames ∧ 8 + (4 + 11) + rmX4_placeBehind.locals ≤ R.locals) (hcs : cells ≤ R.cells ∧ slots ≤ R.slots) (hsz : ls.size = nL) (hW : (rest.map fun v => v.category).sum ≤ 8) (hdg : decode cc pc = .ok (.invokevirtual 189, 3)) (kk : W p l e R s m args below meth c H locs cells slots Q (F0 m (pc + 3) ls (.int z :: rest))) : W p l e R s m args below meth c H locs cells slots Q (F0 m pc ls (.int x3 :: .int x2 :: .int x1 :: .ref (ad 0) :: rest)) := callO (runV F yv_X4_placeBehind (c_X4_placeBehind h) hw.1 hw.2.1 hw.2.2.1 rfl rfl rfl ⟨rfl, rfl⟩ hR hcs rfl hsz rfl hW hdg) kk
/-! ===== X4_putNew ===== -/
theorem dX4_putNew_0 : decode cX4_putNew 0 = .ok (.aload_n 0, 1) := by decide +kernel
theorem dX4_putNew_1 : decode cX4_putNew 1 = .ok (.getfield 97, 3) := by decide +kernel
theorem dX4_putNew_4 : decode cX4_putNew 4 = .ok (.sipush 300, 3) := by decide +kernel
theorem dX4_putNew_7 : decode cX4_putNew 7 = .ok (.if_icmp .ne 6, 3) := by decide +kernel
theorem dX4_putNew_10 : decode cX4_putNew 10 = .ok (.bipush (-5), 2) := by decide +kernel
theorem dX4_putNew_12 : decode cX4_putNew 12 = .ok (.ireturn, 1) := by decide +kernel
theorem dX4_putNew_13 : decode cX4_putNew 13 = .ok (.aload_n 0, 1) := by decide +kernel
theorem dX4_putNew_14 : decode cX4_putNew 14 = .ok (.bipush 8, 2) := by decide +kernel
theorem dX4_putNew_16 : decode cX4_putNew 16 = .ok (.invokevirtual 104, 3) := by decide +kernel
theorem dX4_putNew_19 : decode cX4_putNew 19 = .ok (.aload_n 0, 1) := by decide +kernel
theorem dX4_putNew_20 : decode cX4_putNew 20 = .ok (.iload_n 1, 1) := by decide +kernel
theorem dX4_putNew_21 : decode cX4_putNew 21 = .ok (.iload_n 2, 1) := by decide +kernel
theorem dX4_putNew_22 : decode cX4_putNew 22 = .ok (.iconst 2, 1) := by decide +kernel
theorem dX4_putNew_23 : decode cX4_putNew 23 = .ok (.aload_n 0, 1) := by decide +kernel
theorem dX4_putNew_24 : decode cX4_putNew 24 = .ok (.getfield 97, 3) := by decide +kernel
theorem dX4_putNew_27 : decode cX4_putNew 27 = .ok (.imul, 1) := by decide +kernel
theorem dX4_putNew_28 : decode cX4_putNew 28 = .ok (.invokevirtual 180, 3) := by decide +kernel
theorem dX4_putNew_31 : decode cX4_putNew 31 = .ok (.istore_n 3, 1) := by decide +kernel
theorem dX4_putNew_32 : decode cX4_putNew 32 = .ok (.iload_n 3, 1) := by decide +kernel
theorem dX4_putNew_33 : decode cX4_putNew 33 = .ok (.ifCond .eq 30, 3) := by decide +kernel
theorem dX4_putNew_36 : decode cX4_putNew 36 = .ok (.aload_n 0, 1) := by decide +kernel
theorem dX4_putNew_37 : decode cX4_putNew 37 = .ok (.getfield 7, 3) := by decide +kernel
theorem dX4_putNew_40 : decode cX4_putNew 40 = .ok (.iload_n 1, 1) := by decide +kernel
theorem dX4_putNew_41 : decode cX4_putNew 41 = .ok (.iaload, 1) := by decide +kernel
theorem dX4_putNew_42 : decode cX4_putNew 42 = .ok (.iconst 3, 1) := by decide +kernel
theorem dX4_putNew_43 : decode cX4_putNew 43 = .ok (.if_icmp .ne 20, 3) := by decide +kernel
theorem dX4_putNew_46 : decode cX4_putNew 46 = .ok (.aload_n 0, 1) := by decide +kernel
theorem dX4_putNew_47 : decode cX4_putNew 47 = .ok (.iload_n 1, 1) := by decide +kernel
theorem dX4_putNew_48 : decode cX4_putNew 48 = .ok (.iload_n 2, 1) := by decide +kernel
theorem dX4_putNew_49 : decode cX4_putNew 49 = .ok (.iconst 1, 1) := by decide +kernel
theorem dX4_putNew_50 : decode cX4_putNew 50 = .ok (.iadd, 1) := by decide +kernel
theorem dX4_putNew_51 : decode cX4_putNew 51 = .ok (.iconst 2, 1) := by decide +kernel
theorem dX4_putNew_52 : decode cX4_putNew 52 = .ok (.aload_n 0, 1) := by decide +kernel
theorem dX4_putNew_53 : decode cX4_putNew 53 = .ok (.getfield 97, 3) := by decide +kernel
theorem dX4_putNew_56 : decode cX4_putNew 56 = .ok (.imul, 1) := by decide +kernel
theorem dX4_putNew_57 : decode cX4_putNew 57 = .ok (.iconst 1, 1) := by decide +kernel
theorem dX4_putNew_58 : decode cX4_putNew 58 = .ok (.iadd, 1) := by decide +kernel
theorem dX4_putNew_59 : decode cX4_putNew 59 = .ok (.invokevirtual 180, 3) := by decide +kernel
theorem dX4_putNew_62 : decode cX4_putNew 62 = .ok (.istore_n 3, 1) := by decide +kernel
theorem dX4_putNew_63 : decode cX4_putNew 63 = .ok (.iload_n 3, 1) := by decide +kernel
theorem dX4_putNew_64 : decode cX4_putNew 64 = .ok (.ifCond .ne 12, 3) := by decide +kernel
theorem dX4_putNew_67 : decode cX4_putNew 67 = .ok (.aload_n 0, 1) := by decide +kernel
theorem dX4_putNew_68 : decode cX4_putNew 68 = .ok (.bipush 8, 2) := by decide +kernel
theorem dX4_putNew_70 : decode cX4_putNew 70 = .ok (.invokevirtual 89, 3) := by decide +kernel
theorem dX4_putNew_73 : decode cX4_putNew 73 = .ok (.bipush (-5), 2) := by decide +kernel
theorem dX4_putNew_75 : decode cX4_putNew 75 = .ok (.ireturn, 1) := by decide +kernel
theorem dX4_putNew_76 : decode cX4_putNew 76 = .ok (.aload_n 0, 1) := by decide +kernel
theorem dX4_putNew_77 : decode cX4_putNew 77 = .ok (.invokevirtual 107, 3) := by decide +kernel
theorem dX4_putNew_80 : decode cX4_putNew 80 = .ok (.aload_n 0, 1) := by decide +kernel
theorem dX4_putNew_81 : decode cX4_putNew 81 = .ok (.dup, 1) := by decide +kernel
theorem dX4_putNew_82 : decode cX4_putNew 82 = .ok (.getfield 97, 3) := by decide +kernel
theorem dX4_putNew_85 : decode cX4_putNew 85 = .ok (.iconst 1, 1) := by decide +kernel
theorem dX4_putNew_86 : decode cX4_putNew 86 = .ok (.iadd, 1) := by decide +kernel
theorem dX4_putNew_87 : decode cX4_putNew 87 = .ok (.putfield 97, 3) := by decide +kernel
theorem dX4_putNew_90 : decode cX4_putNew 90 = .ok (.aload_n 0, 1) := by decide +kernel
theorem dX4_putNew_91 : decode cX4_putNew 91 = .ok (.getfield 97, 3) := by decide +kernel
theorem dX4_putNew_94 : decode cX4_putNew 94 = .ok (.iconst 1, 1) := by decide +kernel
theorem dX4_putNew_95 : decode cX4_putNew 95 = .ok (.isub, 1) := by decide +kernel
theorem dX4_putNew_96 : decode cX4_putNew 96 = .ok (.ireturn, 1) := by decide +kernel
def rmX4_putNew : Room := { frames := 6, cells := 0, slots := 0, locals := 158 }
noncomputable def f_X4_putNew_63 (x3 : Int32) (u : MS) : Option (Int32 × MS) := (if x3 = 0 then (f_X4_load 8 u).bind (fun z14 => some ((-5), z14)) else (f_X4_keep u).bind (fun z12 => some ((((mF z12 1 ((z12.1 1) + 1)).1 1) - 1), (mF z12 1 ((z12.1 1) + 1)))))
noncomputable def f_X4_putNew (x1 : Int32) (x2 : Int32) (u : MS) : Option (Int32 × MS) := (if (u.1 1) = (300 : Int32) then some ((-5), u) else (f_X4_save 8 u).bind (fun z2 => (f_X4_come x1 x2 (2 * (z2.1 1)) z2).bind (fun z4 => (if z4.1 = 0 then f_X4_putNew_63 z4.1 z4.2 else (if ix x1 8 = true then (if (z4.2.2.1 2 (Int32.toNatClampNeg x1)) = (3 : Int32) then (f_X4_come x1 (x2 + 1) ((2 * (z4.2.1 1)) + 1) z4.2).bind (fun z9 => f_X4_putNew_63 z9.1 z9.2) else f_X4_putNew_63 z4.1 z4.2) else none)))))
section
variable {p : Program} {l : Launch} {e : Env} {s : State} {m : MethodId} {args : Array Value} {below : List Frame} {meth : Method} {c : Code}
variable {G : GX} {A : Nat → Prop} {ad : Nat → Nat}
set_option maxHeartbeats 4000000 in
set_option maxRecDepth 100000 in
theorem w_X4_putNew_63 (F : FX p m c cX4_putNew 4 s args yX4_putNew (some .int) RX4 meth) {z : Int32 × MS} : ∀ (x3 : Int32) (u : MS) (H : Heap) (locs : List Loc) (ls : Array Slot), WD G A s (mw G ad u) H locs → lv_has ls 4 [(0, .ref (ad 0)), (3, .int x3)] → f_X4_putNew_63 x3 u = some z → W p l e rmX4_putNew s m args below meth c H locs 0 0 (MQ below (QW G (mw G ad z.2) A (some (.int z.1))) args s 0 0 A) (F0 m 63 ls []) := by
  obtain ⟨⟨hx, hb, hml, hown, hts⟩, hr, hlocks⟩ := id F
  intro x3 u H locs ls hw hl h
  unfold f_X4_putNew_63 at h
  refine lv_iload_n hx hb dX4_putNew_63 rfl (lv_at hl 1 rfl) ?_
  refine lv_if_ne (tgt := 76) hx hb dX4_putNew_64 rfl (fun c11 => ?_) (fun c11 => ?_)
  · replace h := itF h c11
    refine lv_aload_n hx hb dX4_putNew_76 rfl (lv_at hl 0 rfl) ?_
    obtain ⟨z12, e13, h⟩ := bnd h
    refine k_X4_keep F hw e13 ⟨Nat.le_of_ble_eq_true rfl, Nat.le_of_ble_eq_true rfl⟩ ⟨Nat.zero_le _, Nat.zero_le _⟩ hl.1 (Nat.le_of_ble_eq_true rfl) dX4_putNew_77 (fun H locs hw => ?_)
    refine lv_aload_n hx hb dX4_putNew_80 rfl (lv_at hl 0 rfl) ?_
    refine lv_dup hx hb dX4_putNew_81 rfl ?_
    refine m_g1 F hw dX4_putNew_82 ?_
    refine lv_iconst (v := 1) hx hb dX4_putNew_85 rfl ?_
    refine lv_iadd hx hb dX4_putNew_86 ?_
    refine m_p1 F hw dX4_putNew_87 (fun H locs hw => ?_)
    refine lv_aload_n hx hb dX4_putNew_90 rfl (lv_at hl 0 rfl) ?_
    refine m_g1 F hw dX4_putNew_91 ?_
    refine lv_iconst (v := 1) hx hb dX4_putNew_94 rfl ?_
    refine lv_isub hx hb dX4_putNew_95 ?_
    cases h
    exact retW_i F hw dX4_putNew_96
  · replace h := itT h c11
    refine lv_aload_n hx hb dX4_putNew_67 rfl (lv_at hl 0 rfl) ?_
    refine lv_bipush (v := 8) hx hb dX4_putNew_68 rfl ?_
    obtain ⟨z14, e15, h⟩ := bnd h
    refine k_X4_load F hw e15 ⟨Nat.le_of_ble_eq_true rfl, Nat.le_of_ble_eq_true rfl⟩ ⟨Nat.zero_le _, Nat.zero_le _⟩ hl.1 (Nat.le_of_ble_eq_true rfl) dX4_putNew_70 (fun H locs hw => ?_)
    refine lv_bipush (v := (-5)) hx hb dX4_putNew_73 rfl ?_
    cases h
    exact retW_i F hw dX4_putNew_75
set_option maxHeartbeats 4000000 in
set_option maxRecDepth 100000 in
theorem w_X4_putNew_0 (F : FX p m c cX4_putNew 4 s args yX4_putNew (some .int) RX4 meth) {z : Int32 × MS} : ∀ (x1 : Int32) (x2 : Int32) (u : MS) (H : Heap) (locs : List Loc) (ls : Array Slot), WD G A s (mw G ad u) H locs → lv_has ls 4 [(0, .ref (ad 0)), (1, .int x1), (2, .int x2)] → f_X4_putNew x1 x2 u = some z → W p l e rmX4_putNew s m args below meth c H locs 0 0 (MQ below (QW G (mw G ad z.2) A (some (.int z.1))) args s 0 0 A) (F0 m 0 ls []) := by
  obtain ⟨⟨hx, hb, hml, hown, hts⟩, hr, hlocks⟩ := id F
  intro x1 x2 u H locs ls hw hl h
  unfold f_X4_putNew at h
  refine lv_aload_n hx hb dX4_putNew_0 rfl (lv_at hl 0 rfl) ?_
  refine m_g1 F hw dX4_putNew_1 ?_
  refine lv_sipush (v := 300) hx hb dX4_putNew_4 rfl ?_
  refine lv_icmp_ne (tgt := 13) hx hb dX4_putNew_7 rfl (fun c1 => ?_) (fun c1 => ?_)
  · replace h := itF h c1
    refine lv_aload_n hx hb dX4_putNew_13 rfl (lv_at hl 0 rfl) ?_
    refine lv_bipush (v := 8) hx hb dX4_putNew_14 rfl ?_
    obtain ⟨z2, e3, h⟩ := bnd h
    refine k_X4_save F hw e3 ⟨Nat.le_of_ble_eq_true rfl, Nat.le_of_ble_eq_true rfl⟩ ⟨Nat.zero_le _, Nat.zero_le _⟩ hl.1 (Nat.le_of_ble_eq_true rfl) dX4_putNew_16 (fun H locs hw => ?_)
    refine lv_aload_n hx hb dX4_putNew_19 rfl (lv_at hl 0 rfl) ?_
    refine lv_iload_n hx hb dX4_putNew_20 rfl (lv_at hl 1 rfl) ?_
    refine lv_iload_n hx hb dX4_putNew_21 rfl (lv_at hl 2 rfl) ?_
    refine lv_iconst (v := 2) hx hb dX4_putNew_22 rfl ?_
    refine lv_aload_n hx hb dX4_putNew_23 rfl (lv_at hl 0 rfl) ?_
    refine m_g1 F hw dX4_putNew_24 ?_
    refine lv_imul hx hb dX4_putNew_27 ?_
    obtain ⟨z4, e5, h⟩ := bnd h
    refine k_X4_come F hw e5 ⟨Nat.le_of_ble_eq_true rfl, Nat.le_of_ble_eq_true rfl⟩ ⟨Nat.zero_le _, Nat.zero_le _⟩ hl.1 (Nat.le_of_ble_eq_true rfl) dX4_putNew_28 (fun H locs hw => ?_)
    refine lv_istore_n (lv' := [(3, .int z4.1), (0, .ref (ad 0)), (1, .int x1), (2, .int x2)]) hx hb dX4_putNew_31 rfl hl (by decide) rfl (fun ls hl => ?_)
    refine lv_iload_n hx hb dX4_putNew_32 rfl (lv_at hl 0 rfl) ?_
    refine lv_if_eq (tgt := 63) hx hb dX4_putNew_33 rfl (fun c6 => ?_) (fun c6 => ?_)
    · replace h := itT h c6
      exact w_X4_putNew_63 F _ _ _ _ _ hw (lv_sub hl [1, 0] rfl) h
    · replace h := itF h c6
      refine lv_aload_n hx hb dX4_putNew_36 rfl (lv_at hl 1 rfl) ?_
      refine m_g2 F hw dX4_putNew_37 ?_
      refine lv_iload_n hx hb dX4_putNew_40 rfl (lv_at hl 2 rfl) ?_
      obtain ⟨g7, h⟩ := gd h
      refine m_l2 F hw g7 dX4_putNew_41 ?_
      refine lv_iconst (v := 3) hx hb dX4_putNew_42 rfl ?_
      refine lv_icmp_ne (tgt := 63) hx hb dX4_putNew_43 rfl (fun c8 => ?_) (fun c8 => ?_)
      · replace h := itF h c8
        exact w_X4_putNew_63 F _ _ _ _ _ hw (lv_sub hl [1, 0] rfl) h
      · replace h := itT h c8
        refine lv_aload_n hx hb dX4_putNew_46 rfl (lv_at hl 1 rfl) ?_
        refine lv_iload_n hx hb dX4_putNew_47 rfl (lv_at hl 2 rfl) ?_
        refine lv_iload_n hx hb dX4_putNew_48 rfl (lv_at hl 3 rfl) ?_
        refine lv_iconst (v := 1) hx hb dX4_putNew_49 rfl ?_
        refine lv_iadd hx hb dX4_putNew_50 ?_
        refine lv_iconst (v := 2) hx hb dX4_putNew_51 rfl ?_
        refine lv_aload_n hx hb dX4_putNew_52 rfl (lv_at hl 1 rfl) ?_
        refine m_g1 F hw dX4_putNew_53 ?_
        refine lv_imul hx hb dX4_putNew_56 ?_
        refine lv_iconst (v := 1) hx hb dX4_putNew_57 rfl ?_
        refine lv_iadd hx hb dX4_putNew_58 ?_
        obtain ⟨z9, e10, h⟩ := bnd h
        refine k_X4_come F hw e10 ⟨Nat.le_of_ble_eq_true rfl, Nat.le_of_ble_eq_true rfl⟩ ⟨Nat.zero_le _, Nat.zero_le _⟩ hl.1 (Nat.le_of_ble_eq_true rfl) dX4_putNew_59 (fun H locs hw => ?_)
        refine lv_istore_n (lv' := [(3, .int z9.1), (0, .ref (ad 0)), (1, .int x1), (2, .int x2)]) hx hb dX4_putNew_62 rfl hl (by decide) rfl (fun ls hl => ?_)
        exact w_X4_putNew_63 F _ _ _ _ _ hw (lv_sub hl [1, 0] rfl) h
  · replace h := itT h c1
    refine lv_bipush (v := (-5)) hx hb dX4_putNew_10 rfl ?_
    cases h
    exact retW_i F hw dX4_putNew_12
end
theorem c_X4_putNew {l : Launch} {G : GX} {ad : Nat → Nat} {x1 : Int32} {x2 : Int32} {u : MS} {z : Int32 × MS} (h : f_X4_putNew x1 x2 u = some z) : MW l yX4_putNew cX4_putNew 4 (some .int) rmX4_putNew G (mw G ad u) (mw G ad z.2) [.ref (ad 0), .int x1, .int x2] (some (.int z.1)) := MW.of (by decide) (Nat.le_of_ble_eq_true rfl) (fun p e s m below meth c ls F hw hl => w_X4_putNew_0 F _ _ _ _ _ _ hw hl h)
theorem yv_X4_putNew : YV RX4 193 yX4_putNew cX4_putNew 4 (some .int) 2 := ⟨(tw 649 (by decide +kernel) rfl), (tw 6 (by decide +kernel) rfl), (tw 646 (by decide +kernel) rfl), (tw 648 (by decide +kernel) rfl), (tp 21 (by decide +kernel) rfl), by decide +kernel⟩
theorem k_X4_putNew {p : Program} {l : Launch} {e : Env} {R : Room} {s : State} {m : MethodId} {args : Array Value} {below : List Frame} {meth : Method} {c : Code} {H : Heap} {locs : List Loc} {cells slots : Nat} {Q : State → Prop} {G : GX} {A : Nat → Prop} {ad : Nat → Nat} {cc : ByteArray} {nL pc : Nat} {y0 : MethodName} {ret0 : Option FieldType} {ls : Array Slot} {rest : List Value} {u : MS} {x1 : Int32} {x2 : Int32} {z : Int32 × MS} (F : FX p m c cc nL s args y0 ret0 RX4 meth) (hw : WD G A s (mw G ad u) H locs) (h : f_X4_putNew x1 x2 u = some z) (hR : rmX4_putNew.frames + 1 ≤ R.frames ∧ 8 + (4 + 11) + rmX4_putNew.locals ≤ R.locals) (hcs : cells ≤ R.cells ∧ slots ≤ R.slots) (hsz : ls.size = nL) (hW : (rest.map fun v => v.category).sum ≤ 8) (hdg : decode cc pc = .ok (.invokevirtual 193, 3)) (kk : ∀ (H : Heap) (locs : List Loc), WD G A s (mw G ad z.2) H locs → W p l e R s m args below meth c H locs cells slots Q (F0 m (pc + 3) ls (.int z.1 :: rest))) : W p l e R s m args below meth c H locs cells slots Q (F0 m pc ls (.int x2 :: .int x1 :: .ref (ad 0) :: rest)) := callW (runV F yv_X4_putNew (c_X4_putNew h) hw.1 hw.2.1 hw.2.2.1 rfl rfl rfl ⟨rfl, rfl⟩ hR hcs rfl hsz rfl hW hdg) hw.2.2.2 hw.2.2.1.own_in (fun H1 l1 hP _ hS => kk H1 l1 ⟨hw.1, hP, hw.2.2.1.addr rfl, hS⟩)
/-! ===== X4_put ===== -/
theorem dX4_put_0 : decode cX4_put 0 = .ok (.aload_n 0, 1) := by decide +kernel
theorem dX4_put_1 : decode cX4_put 1 = .ok (.iconst 0, 1) := by decide +kernel
theorem dX4_put_2 : decode cX4_put 2 = .ok (.putfield 64, 3) := by decide +kernel
theorem dX4_put_5 : decode cX4_put 5 = .ok (.aload_n 0, 1) := by decide +kernel
theorem dX4_put_6 : decode cX4_put 6 = .ok (.iload_n 1, 1) := by decide +kernel
theorem dX4_put_7 : decode cX4_put 7 = .ok (.invokevirtual 186, 3) := by decide +kernel
theorem dX4_put_10 : decode cX4_put 10 = .ok (.ifCond .ne 6, 3) := by decide +kernel
theorem dX4_put_13 : decode cX4_put 13 = .ok (.bipush (-3), 2) := by decide +kernel
theorem dX4_put_15 : decode cX4_put 15 = .ok (.ireturn, 1) := by decide +kernel
theorem dX4_put_16 : decode cX4_put 16 = .ok (.aload_n 0, 1) := by decide +kernel
theorem dX4_put_17 : decode cX4_put 17 = .ok (.iload_n 1, 1) := by decide +kernel
theorem dX4_put_18 : decode cX4_put 18 = .ok (.iload_n 2, 1) := by decide +kernel
theorem dX4_put_19 : decode cX4_put 19 = .ok (.iload_n 3, 1) := by decide +kernel
theorem dX4_put_20 : decode cX4_put 20 = .ok (.invokevirtual 189, 3) := by decide +kernel
theorem dX4_put_23 : decode cX4_put 23 = .ok (.istore 4, 2) := by decide +kernel
theorem dX4_put_25 : decode cX4_put 25 = .ok (.iload 4, 2) := by decide +kernel
theorem dX4_put_27 : decode cX4_put 27 = .ok (.bipush (-3), 2) := by decide +kernel
theorem dX4_put_29 : decode cX4_put 29 = .ok (.if_icmp .ne 8, 3) := by decide +kernel
theorem dX4_put_32 : decode cX4_put 32 = .ok (.bipush (-3), 2) := by decide +kernel
theorem dX4_put_34 : decode cX4_put 34 = .ok (.goto 10, 3) := by decide +kernel
theorem dX4_put_37 : decode cX4_put 37 = .ok (.aload_n 0, 1) := by decide +kernel
theorem dX4_put_38 : decode cX4_put 38 = .ok (.iload_n 1, 1) := by decide +kernel
theorem dX4_put_39 : decode cX4_put 39 = .ok (.iload 4, 2) := by decide +kernel
theorem dX4_put_41 : decode cX4_put 41 = .ok (.invokevirtual 193, 3) := by decide +kernel
theorem dX4_put_44 : decode cX4_put 44 = .ok (.ireturn, 1) := by decide +kernel
def rmX4_put : Room := { frames := 7, cells := 0, slots := 0, locals := 181 }
noncomputable def f_X4_put (x1 : Int32) (x2 : Int32) (x3 : Int32) (u : MS) : Option (Int32 × MS) := (f_X4_isRow x1 (mF u 0 0)).bind (fun z1 => (if z1 = 0 then some ((-3), (mF u 0 0)) else (f_X4_placeBehind x1 x2 x3 (mF u 0 0)).bind (fun z4 => (if z4 = ((-3) : Int32) then some ((-3), (mF u 0 0)) else (f_X4_putNew x1 z4 (mF u 0 0)).bind (fun z7 => some (z7.1, z7.2))))))
section
variable {p : Program} {l : Launch} {e : Env} {s : State} {m : MethodId} {args : Array Value} {below : List Frame} {meth : Method} {c : Code}
variable {G : GX} {A : Nat → Prop} {ad : Nat → Nat}
set_option maxHeartbeats 4000000 in
set_option maxRecDepth 100000 in
theorem w_X4_put_0 (F : FX p m c cX4_put 5 s args yX4_put (some .int) RX4 meth) {z : Int32 × MS} : ∀ (x1 : Int32) (x2 : Int32) (x3 : Int32) (u : MS) (H : Heap) (locs : List Loc) (ls : Array Slot), WD G A s (mw G ad u) H locs → lv_has ls 5 [(0, .ref (ad 0)), (1, .int x1), (2, .int x2), (3, .int x3)] → f_X4_put x1 x2 x3 u = some z → W p l e rmX4_put s m args below meth c H locs 0 0 (MQ below (QW G (mw G ad z.2) A (some (.int z.1))) args s 0 0 A) (F0 m 0 ls []) := by
  obtain ⟨⟨hx, hb, hml, hown, hts⟩, hr, hlocks⟩ := id F
  intro x1 x2 x3 u H locs ls hw hl h
  unfold f_X4_put at h
  refine lv_aload_n hx hb dX4_put_0 rfl (lv_at hl 0 rfl) ?_
  refine lv_iconst (v := 0) hx hb dX4_put_1 rfl ?_
  refine m_p0 F hw dX4_put_2 (fun H locs hw => ?_)
  refine lv_aload_n hx hb dX4_put_5 rfl (lv_at hl 0 rfl) ?_
  refine lv_iload_n hx hb dX4_put_6 rfl (lv_at hl 1 rfl) ?_
  obtain ⟨z1, e2, h⟩ := bnd h
  refine k_X4_isRow F hw e2 ⟨Nat.le_of_ble_eq_true rfl, Nat.le_of_ble_eq_true rfl⟩ ⟨Nat.zero_le _, Nat.zero_le _⟩ hl.1 (Nat.le_of_ble_eq_true rfl) dX4_put_7 ?_
  refine lv_if_ne (tgt := 16) hx hb dX4_put_10 rfl (fun c3 => ?_) (fun c3 => ?_)
  · replace h := itF h c3
    refine lv_aload_n hx hb dX4_put_16 rfl (lv_at hl 0 rfl) ?_
    refine lv_iload_n hx hb dX4_put_17 rfl (lv_at hl 1 rfl) ?_
    refine lv_iload_n hx hb dX4_put_18 rfl (lv_at hl 2 rfl) ?_
    refine lv_iload_n hx hb dX4_put_19 rfl (lv_at hl 3 rfl) ?_
    obtain ⟨z4, e5, h⟩ := bnd h
    refine k_X4_placeBehind F hw e5 ⟨Nat.le_of_ble_eq_true rfl, Nat.le_of_ble_eq_true rfl⟩ ⟨Nat.zero_le _, Nat.zero_le _⟩ hl.1 (Nat.le_of_ble_eq_true rfl) dX4_put_20 ?_
    refine lv_istore (lv' := [(4, .int z4), (0, .ref (ad 0)), (1, .int x1), (2, .int x2), (3, .int x3)]) hx hb dX4_put_23 hl (by decide) rfl (fun ls hl => ?_)
    refine lv_iload hx hb dX4_put_25 (lv_at hl 0 rfl) ?_
    refine lv_bipush (v := (-3)) hx hb dX4_put_27 rfl ?_
    refine lv_icmp_ne (tgt := 37) hx hb dX4_put_29 rfl (fun c6 => ?_) (fun c6 => ?_)
    · replace h := itF h c6
      refine lv_aload_n hx hb dX4_put_37 rfl (lv_at hl 1 rfl) ?_
      refine lv_iload_n hx hb dX4_put_38 rfl (lv_at hl 2 rfl) ?_
      refine lv_iload hx hb dX4_put_39 (lv_at hl 0 rfl) ?_
      obtain ⟨z7, e8, h⟩ := bnd h
      refine k_X4_putNew F hw e8 ⟨Nat.le_of_ble_eq_true rfl, Nat.le_of_ble_eq_true rfl⟩ ⟨Nat.zero_le _, Nat.zero_le _⟩ hl.1 (Nat.le_of_ble_eq_true rfl) dX4_put_41 (fun H locs hw => ?_)
      cases h
      exact retW_i F hw dX4_put_44
    · replace h := itT h c6
      refine lv_bipush (v := (-3)) hx hb dX4_put_32 rfl ?_
      refine lv_goto (tgt := 44) hx hb dX4_put_34 rfl ?_
      cases h
      exact retW_i F hw dX4_put_44
  · replace h := itT h c3
    refine lv_bipush (v := (-3)) hx hb dX4_put_13 rfl ?_
    cases h
    exact retW_i F hw dX4_put_15
end
theorem c_X4_put {l : Launch} {G : GX} {ad : Nat → Nat} {x1 : Int32} {x2 : Int32} {x3 : Int32} {u : MS} {z : Int32 × MS} (h : f_X4_put x1 x2 x3 u = some z) : MW l yX4_put cX4_put 5 (some .int) rmX4_put G (mw G ad u) (mw G ad z.2) [.ref (ad 0), .int x1, .int x2, .int x3] (some (.int z.1)) := MW.of (by decide) (Nat.le_of_ble_eq_true rfl) (fun p e s m below meth c ls F hw hl => w_X4_put_0 F _ _ _ _ _ _ _ hw hl h)
/-! ===== X4_drop ===== -/
theorem dX4_drop_0 : decode cX4_drop 0 = .ok (.aload_n 0, 1) := by decide +kernel
theorem dX4_drop_1 : decode cX4_drop 1 = .ok (.iconst 0, 1) := by decide +kernel
theorem dX4_drop_2 : decode cX4_drop 2 = .ok (.putfield 64, 3) := by decide +kernel
theorem dX4_drop_5 : decode cX4_drop 5 = .ok (.aload_n 0, 1) := by decide +kernel
theorem dX4_drop_6 : decode cX4_drop 6 = .ok (.iload_n 1, 1) := by decide +kernel
theorem dX4_drop_7 : decode cX4_drop 7 = .ok (.invokevirtual 183, 3) := by decide +kernel
theorem dX4_drop_10 : decode cX4_drop 10 = .ok (.ifCond .ne 6, 3) := by decide +kernel
theorem dX4_drop_13 : decode cX4_drop 13 = .ok (.bipush (-3), 2) := by decide +kernel
theorem dX4_drop_15 : decode cX4_drop 15 = .ok (.ireturn, 1) := by decide +kernel
theorem dX4_drop_16 : decode cX4_drop 16 = .ok (.aload_n 0, 1) := by decide +kernel
theorem dX4_drop_17 : decode cX4_drop 17 = .ok (.bipush 8, 2) := by decide +kernel
theorem dX4_drop_19 : decode cX4_drop 19 = .ok (.invokevirtual 104, 3) := by decide +kernel
theorem dX4_drop_22 : decode cX4_drop 22 = .ok (.aload_n 0, 1) := by decide +kernel
theorem dX4_drop_23 : decode cX4_drop 23 = .ok (.invokevirtual 107, 3) := by decide +kernel
theorem dX4_drop_26 : decode cX4_drop 26 = .ok (.aload_n 0, 1) := by decide +kernel
theorem dX4_drop_27 : decode cX4_drop 27 = .ok (.iconst 2, 1) := by decide +kernel
theorem dX4_drop_28 : decode cX4_drop 28 = .ok (.iload_n 1, 1) := by decide +kernel
theorem dX4_drop_29 : decode cX4_drop 29 = .ok (.imul, 1) := by decide +kernel
theorem dX4_drop_30 : decode cX4_drop 30 = .ok (.invokevirtual 100, 3) := by decide +kernel
theorem dX4_drop_33 : decode cX4_drop 33 = .ok (.istore_n 2, 1) := by decide +kernel
theorem dX4_drop_34 : decode cX4_drop 34 = .ok (.aload_n 0, 1) := by decide +kernel
theorem dX4_drop_35 : decode cX4_drop 35 = .ok (.iload_n 2, 1) := by decide +kernel
theorem dX4_drop_36 : decode cX4_drop 36 = .ok (.aload_n 0, 1) := by decide +kernel
theorem dX4_drop_37 : decode cX4_drop 37 = .ok (.iload_n 2, 1) := by decide +kernel
theorem dX4_drop_38 : decode cX4_drop 38 = .ok (.iconst 2, 1) := by decide +kernel
theorem dX4_drop_39 : decode cX4_drop 39 = .ok (.iload_n 1, 1) := by decide +kernel
theorem dX4_drop_40 : decode cX4_drop 40 = .ok (.imul, 1) := by decide +kernel
theorem dX4_drop_41 : decode cX4_drop 41 = .ok (.invokevirtual 171, 3) := by decide +kernel
theorem dX4_drop_44 : decode cX4_drop 44 = .ok (.aload_n 0, 1) := by decide +kernel
theorem dX4_drop_45 : decode cX4_drop 45 = .ok (.iload_n 2, 1) := by decide +kernel
theorem dX4_drop_46 : decode cX4_drop 46 = .ok (.iload_n 1, 1) := by decide +kernel
theorem dX4_drop_47 : decode cX4_drop 47 = .ok (.invokevirtual 196, 3) := by decide +kernel
theorem dX4_drop_50 : decode cX4_drop 50 = .ok (.invokevirtual 199, 3) := by decide +kernel
theorem dX4_drop_53 : decode cX4_drop 53 = .ok (.ireturn, 1) := by decide +kernel
def rmX4_drop : Room := { frames := 3, cells := 0, slots := 0, locals := 75 }
noncomputable def f_X4_drop (x1 : Int32) (u : MS) : Option (Int32 × MS) := (f_X4_isThing x1 (mF u 0 0)).bind (fun z1 => (if z1 = 0 then some ((-3), (mF u 0 0)) else (f_X4_save 8 (mF u 0 0)).bind (fun z4 => (f_X4_keep z4).bind (fun z6 => (f_X4_rowWith (2 * x1) z6).bind (fun z8 => (f_X4_placeOf z8 (2 * x1) z6).bind (fun z10 => (f_X4_span z8 x1 z6).bind (fun z12 => (f_X4_takeOut z8 z10 z12 z6).bind (fun z14 => some (z14.1, z14.2)))))))))
section
variable {p : Program} {l : Launch} {e : Env} {s : State} {m : MethodId} {args : Array Value} {below : List Frame} {meth : Method} {c : Code}
variable {G : GX} {A : Nat → Prop} {ad : Nat → Nat}
set_option maxHeartbeats 4000000 in
set_option maxRecDepth 100000 in
theorem w_X4_drop_0 (F : FX p m c cX4_drop 3 s args yX4_drop (some .int) RX4 meth) {z : Int32 × MS} : ∀ (x1 : Int32) (u : MS) (H : Heap) (locs : List Loc) (ls : Array Slot), WD G A s (mw G ad u) H locs → lv_has ls 3 [(0, .ref (ad 0)), (1, .int x1)] → f_X4_drop x1 u = some z → W p l e rmX4_drop s m args below meth c H locs 0 0 (MQ below (QW G (mw G ad z.2) A (some (.int z.1))) args s 0 0 A) (F0 m 0 ls []) := by
  obtain ⟨⟨hx, hb, hml, hown, hts⟩, hr, hlocks⟩ := id F
  intro x1 u H locs ls hw hl h
  unfold f_X4_drop at h
  refine lv_aload_n hx hb dX4_drop_0 rfl (lv_at hl 0 rfl) ?_
  refine lv_iconst (v := 0) hx hb dX4_drop_1 rfl ?_
  refine m_p0 F hw dX4_drop_2 (fun H locs hw => ?_)
  refine lv_aload_n hx hb dX4_drop_5 rfl (lv_at hl 0 rfl) ?_
  refine lv_iload_n hx hb dX4_drop_6 rfl (lv_at hl 1 rfl) ?_
  obtain ⟨z1, e2, h⟩ := bnd h
  refine k_X4_isThing F hw e2 ⟨Nat.le_of_ble_eq_true rfl, Nat.le_of_ble_eq_true rfl⟩ ⟨Nat.zero_le _, Nat.zero_le _⟩ hl.1 (Nat.le_of_ble_eq_true rfl) dX4_drop_7 ?_
  refine lv_if_ne (tgt := 16) hx hb dX4_drop_10 rfl (fun c3 => ?_) (fun c3 => ?_)
  · replace h := itF h c3
    refine lv_aload_n hx hb dX4_drop_16 rfl (lv_at hl 0 rfl) ?_
    refine lv_bipush (v := 8) hx hb dX4_drop_17 rfl ?_
    obtain ⟨z4, e5, h⟩ := bnd h
    refine k_X4_save F hw e5 ⟨Nat.le_of_ble_eq_true rfl, Nat.le_of_ble_eq_true rfl⟩ ⟨Nat.zero_le _, Nat.zero_le _⟩ hl.1 (Nat.le_of_ble_eq_true rfl) dX4_drop_19 (fun H locs hw => ?_)
    refine lv_aload_n hx hb dX4_drop_22 rfl (lv_at hl 0 rfl) ?_
    obtain ⟨z6, e7, h⟩ := bnd h
    refine k_X4_keep F hw e7 ⟨Nat.le_of_ble_eq_true rfl, Nat.le_of_ble_eq_true rfl⟩ ⟨Nat.zero_le _, Nat.zero_le _⟩ hl.1 (Nat.le_of_ble_eq_true rfl) dX4_drop_23 (fun H locs hw => ?_)
    refine lv_aload_n hx hb dX4_drop_26 rfl (lv_at hl 0 rfl) ?_
    refine lv_iconst (v := 2) hx hb dX4_drop_27 rfl ?_
    refine lv_iload_n hx hb dX4_drop_28 rfl (lv_at hl 1 rfl) ?_
    refine lv_imul hx hb dX4_drop_29 ?_
    obtain ⟨z8, e9, h⟩ := bnd h
    refine k_X4_rowWith F hw e9 ⟨Nat.le_of_ble_eq_true rfl, Nat.le_of_ble_eq_true rfl⟩ ⟨Nat.zero_le _, Nat.zero_le _⟩ hl.1 (Nat.le_of_ble_eq_true rfl) dX4_drop_30 ?_
    refine lv_istore_n (lv' := [(2, .int z8), (0, .ref (ad 0)), (1, .int x1)]) hx hb dX4_drop_33 rfl hl (by decide) rfl (fun ls hl => ?_)
    refine lv_aload_n hx hb dX4_drop_34 rfl (lv_at hl 1 rfl) ?_
    refine lv_iload_n hx hb dX4_drop_35 rfl (lv_at hl 0 rfl) ?_
    refine lv_aload_n hx hb dX4_drop_36 rfl (lv_at hl 1 rfl) ?_
    refine lv_iload_n hx hb dX4_drop_37 rfl (lv_at hl 0 rfl) ?_
    refine lv_iconst (v := 2) hx hb dX4_drop_38 rfl ?_
    refine lv_iload_n hx hb dX4_drop_39 rfl (lv_at hl 2 rfl) ?_
    refine lv_imul hx hb dX4_drop_40 ?_
    obtain ⟨z10, e11, h⟩ := bnd h
    refine k_X4_placeOf F hw e11 ⟨Nat.le_of_ble_eq_true rfl, Nat.le_of_ble_eq_true rfl⟩ ⟨Nat.zero_le _, Nat.zero_le _⟩ hl.1 (Nat.le_of_ble_eq_true rfl) dX4_drop_41 ?_
    refine lv_aload_n hx hb dX4_drop_44 rfl (lv_at hl 1 rfl) ?_
    refine lv_iload_n hx hb dX4_drop_45 rfl (lv_at hl 0 rfl) ?_
    refine lv_iload_n hx hb dX4_drop_46 rfl (lv_at hl 2 rfl) ?_
    obtain ⟨z12, e13, h⟩ := bnd h
    refine k_X4_span F hw e13 ⟨Nat.le_of_ble_eq_true rfl, Nat.le_of_ble_eq_true rfl⟩ ⟨Nat.zero_le _, Nat.zero_le _⟩ hl.1 (Nat.le_of_ble_eq_true rfl) dX4_drop_47 ?_
    obtain ⟨z14, e15, h⟩ := bnd h
    refine k_X4_takeOut F hw e15 ⟨Nat.le_of_ble_eq_true rfl, Nat.le_of_ble_eq_true rfl⟩ ⟨Nat.zero_le _, Nat.zero_le _⟩ hl.1 (Nat.le_of_ble_eq_true rfl) dX4_drop_50 (fun H locs hw => ?_)
    cases h
    exact retW_i F hw dX4_drop_53
  · replace h := itT h c3
    refine lv_bipush (v := (-3)) hx hb dX4_drop_13 rfl ?_
    cases h
    exact retW_i F hw dX4_drop_15
end
theorem c_X4_drop {l : Launch} {G : GX} {ad : Nat → Nat} {x1 : Int32} {u : MS} {z : Int32 × MS} (h : f_X4_drop x1 u = some z) : MW l yX4_drop cX4_drop 3 (some .int) rmX4_drop G (mw G ad u) (mw G ad z.2) [.ref (ad 0), .int x1] (some (.int z.1)) := MW.of (by decide) (Nat.le_of_ble_eq_true rfl) (fun p e s m below meth c ls F hw hl => w_X4_drop_0 F _ _ _ _ _ hw hl h)
/-! ===== X4_move ===== -/
theorem dX4_move_0 : decode cX4_move 0 = .ok (.aload_n 0, 1) := by decide +kernel
theorem dX4_move_1 : decode cX4_move 1 = .ok (.iconst 0, 1) := by decide +kernel
theorem dX4_move_2 : decode cX4_move 2 = .ok (.putfield 64, 3) := by decide +kernel
theorem dX4_move_5 : decode cX4_move 5 = .ok (.aload_n 0, 1) := by decide +kernel
theorem dX4_move_6 : decode cX4_move 6 = .ok (.iload_n 1, 1) := by decide +kernel
theorem dX4_move_7 : decode cX4_move 7 = .ok (.invokevirtual 183, 3) := by decide +kernel
theorem dX4_move_10 : decode cX4_move 10 = .ok (.ifCond .ne 6, 3) := by decide +kernel
theorem dX4_move_13 : decode cX4_move 13 = .ok (.bipush (-3), 2) := by decide +kernel
theorem dX4_move_15 : decode cX4_move 15 = .ok (.ireturn, 1) := by decide +kernel
theorem dX4_move_16 : decode cX4_move 16 = .ok (.aload_n 0, 1) := by decide +kernel
theorem dX4_move_17 : decode cX4_move 17 = .ok (.iconst 2, 1) := by decide +kernel
theorem dX4_move_18 : decode cX4_move 18 = .ok (.iload_n 1, 1) := by decide +kernel
theorem dX4_move_19 : decode cX4_move 19 = .ok (.imul, 1) := by decide +kernel
theorem dX4_move_20 : decode cX4_move 20 = .ok (.invokevirtual 100, 3) := by decide +kernel
theorem dX4_move_23 : decode cX4_move 23 = .ok (.istore 4, 2) := by decide +kernel
theorem dX4_move_25 : decode cX4_move 25 = .ok (.aload_n 0, 1) := by decide +kernel
theorem dX4_move_26 : decode cX4_move 26 = .ok (.iload 4, 2) := by decide +kernel
theorem dX4_move_28 : decode cX4_move 28 = .ok (.iload_n 2, 1) := by decide +kernel
theorem dX4_move_29 : decode cX4_move 29 = .ok (.iload_n 3, 1) := by decide +kernel
theorem dX4_move_30 : decode cX4_move 30 = .ok (.invokevirtual 189, 3) := by decide +kernel
theorem dX4_move_33 : decode cX4_move 33 = .ok (.bipush (-3), 2) := by decide +kernel
theorem dX4_move_35 : decode cX4_move 35 = .ok (.if_icmp .ne 6, 3) := by decide +kernel
theorem dX4_move_38 : decode cX4_move 38 = .ok (.bipush (-3), 2) := by decide +kernel
theorem dX4_move_40 : decode cX4_move 40 = .ok (.ireturn, 1) := by decide +kernel
theorem dX4_move_41 : decode cX4_move 41 = .ok (.aload_n 0, 1) := by decide +kernel
theorem dX4_move_42 : decode cX4_move 42 = .ok (.iload 4, 2) := by decide +kernel
theorem dX4_move_44 : decode cX4_move 44 = .ok (.iconst 2, 1) := by decide +kernel
theorem dX4_move_45 : decode cX4_move 45 = .ok (.iload_n 1, 1) := by decide +kernel
theorem dX4_move_46 : decode cX4_move 46 = .ok (.imul, 1) := by decide +kernel
theorem dX4_move_47 : decode cX4_move 47 = .ok (.invokevirtual 171, 3) := by decide +kernel
theorem dX4_move_50 : decode cX4_move 50 = .ok (.istore 5, 2) := by decide +kernel
theorem dX4_move_52 : decode cX4_move 52 = .ok (.aload_n 0, 1) := by decide +kernel
theorem dX4_move_53 : decode cX4_move 53 = .ok (.iload 4, 2) := by decide +kernel
theorem dX4_move_55 : decode cX4_move 55 = .ok (.iload_n 1, 1) := by decide +kernel
theorem dX4_move_56 : decode cX4_move 56 = .ok (.invokevirtual 196, 3) := by decide +kernel
theorem dX4_move_59 : decode cX4_move 59 = .ok (.istore 6, 2) := by decide +kernel
theorem dX4_move_61 : decode cX4_move 61 = .ok (.iload_n 2, 1) := by decide +kernel
theorem dX4_move_62 : decode cX4_move 62 = .ok (.iconst (-1), 1) := by decide +kernel
theorem dX4_move_63 : decode cX4_move 63 = .ok (.if_icmp .eq 30, 3) := by decide +kernel
theorem dX4_move_66 : decode cX4_move 66 = .ok (.aload_n 0, 1) := by decide +kernel
theorem dX4_move_67 : decode cX4_move 67 = .ok (.iload 4, 2) := by decide +kernel
theorem dX4_move_69 : decode cX4_move 69 = .ok (.iconst 2, 1) := by decide +kernel
theorem dX4_move_70 : decode cX4_move 70 = .ok (.iload_n 2, 1) := by decide +kernel
theorem dX4_move_71 : decode cX4_move 71 = .ok (.imul, 1) := by decide +kernel
theorem dX4_move_72 : decode cX4_move 72 = .ok (.invokevirtual 171, 3) := by decide +kernel
theorem dX4_move_75 : decode cX4_move 75 = .ok (.iload 5, 2) := by decide +kernel
theorem dX4_move_77 : decode cX4_move 77 = .ok (.iload 5, 2) := by decide +kernel
theorem dX4_move_79 : decode cX4_move 79 = .ok (.iload 6, 2) := by decide +kernel
theorem dX4_move_81 : decode cX4_move 81 = .ok (.iadd, 1) := by decide +kernel
theorem dX4_move_82 : decode cX4_move 82 = .ok (.iconst 1, 1) := by decide +kernel
theorem dX4_move_83 : decode cX4_move 83 = .ok (.isub, 1) := by decide +kernel
theorem dX4_move_84 : decode cX4_move 84 = .ok (.invokestatic 93, 3) := by decide +kernel
theorem dX4_move_87 : decode cX4_move 87 = .ok (.ifCond .eq 6, 3) := by decide +kernel
theorem dX4_move_90 : decode cX4_move 90 = .ok (.bipush (-4), 2) := by decide +kernel
theorem dX4_move_92 : decode cX4_move 92 = .ok (.ireturn, 1) := by decide +kernel
theorem dX4_move_93 : decode cX4_move 93 = .ok (.aload_n 0, 1) := by decide +kernel
theorem dX4_move_94 : decode cX4_move 94 = .ok (.bipush 8, 2) := by decide +kernel
theorem dX4_move_96 : decode cX4_move 96 = .ok (.invokevirtual 104, 3) := by decide +kernel
theorem dX4_move_99 : decode cX4_move 99 = .ok (.aload_n 0, 1) := by decide +kernel
theorem dX4_move_100 : decode cX4_move 100 = .ok (.iload 4, 2) := by decide +kernel
theorem dX4_move_102 : decode cX4_move 102 = .ok (.iload 5, 2) := by decide +kernel
theorem dX4_move_104 : decode cX4_move 104 = .ok (.iload 6, 2) := by decide +kernel
theorem dX4_move_106 : decode cX4_move 106 = .ok (.invokevirtual 199, 3) := by decide +kernel
theorem dX4_move_109 : decode cX4_move 109 = .ok (.istore 7, 2) := by decide +kernel
theorem dX4_move_111 : decode cX4_move 111 = .ok (.aload_n 0, 1) := by decide +kernel
theorem dX4_move_112 : decode cX4_move 112 = .ok (.iload 4, 2) := by decide +kernel
theorem dX4_move_114 : decode cX4_move 114 = .ok (.aload_n 0, 1) := by decide +kernel
theorem dX4_move_115 : decode cX4_move 115 = .ok (.iload 4, 2) := by decide +kernel
theorem dX4_move_117 : decode cX4_move 117 = .ok (.iload_n 2, 1) := by decide +kernel
theorem dX4_move_118 : decode cX4_move 118 = .ok (.iload_n 3, 1) := by decide +kernel
theorem dX4_move_119 : decode cX4_move 119 = .ok (.invokevirtual 189, 3) := by decide +kernel
theorem dX4_move_122 : decode cX4_move 122 = .ok (.invokevirtual 203, 3) := by decide +kernel
theorem dX4_move_125 : decode cX4_move 125 = .ok (.ifCond .ne 6, 3) := by decide +kernel
theorem dX4_move_128 : decode cX4_move 128 = .ok (.bipush (-5), 2) := by decide +kernel
theorem dX4_move_130 : decode cX4_move 130 = .ok (.ireturn, 1) := by decide +kernel
theorem dX4_move_131 : decode cX4_move 131 = .ok (.aload_n 0, 1) := by decide +kernel
theorem dX4_move_132 : decode cX4_move 132 = .ok (.invokevirtual 107, 3) := by decide +kernel
theorem dX4_move_135 : decode cX4_move 135 = .ok (.iload 7, 2) := by decide +kernel
theorem dX4_move_137 : decode cX4_move 137 = .ok (.ireturn, 1) := by decide +kernel
def rmX4_move : Room := { frames := 7, cells := 0, slots := 0, locals := 181 }
noncomputable def f_X4_move_93 (x2 : Int32) (x3 : Int32) (x4 : Int32) (x5 : Int32) (x6 : Int32) (u : MS) : Option (Int32 × MS) := (f_X4_save 8 u).bind (fun z19 => (f_X4_takeOut x4 x5 x6 z19).bind (fun z21 => (f_X4_placeBehind x4 x2 x3 z21.2).bind (fun z23 => (f_X4_bring x4 z23 z21.2).bind (fun z25 => (if z25.1 = 0 then some ((-5), z25.2) else (f_X4_keep z25.2).bind (fun z28 => some (z21.1, z28)))))))
noncomputable def f_X4_move (x1 : Int32) (x2 : Int32) (x3 : Int32) (u : MS) : Option (Int32 × MS) := (f_X4_isThing x1 (mF u 0 0)).bind (fun z1 => (if z1 = 0 then some ((-3), (mF u 0 0)) else (f_X4_rowWith (2 * x1) (mF u 0 0)).bind (fun z4 => (f_X4_placeBehind z4 x2 x3 (mF u 0 0)).bind (fun z6 => (if z6 = ((-3) : Int32) then some ((-3), (mF u 0 0)) else (f_X4_placeOf z4 (2 * x1) (mF u 0 0)).bind (fun z9 => (f_X4_span z4 x1 (mF u 0 0)).bind (fun z11 => (if x2 = ((-1) : Int32) then f_X4_move_93 x2 x3 z4 z9 z11 (mF u 0 0) else (f_X4_placeOf z4 (2 * x2) (mF u 0 0)).bind (fun z14 => (f_X4_in z14 z9 ((z9 + z11) - 1)).bind (fun z16 => (if z16 = 0 then f_X4_move_93 x2 x3 z4 z9 z11 (mF u 0 0) else some ((-4), (mF u 0 0)))))))))))))
section
variable {p : Program} {l : Launch} {e : Env} {s : State} {m : MethodId} {args : Array Value} {below : List Frame} {meth : Method} {c : Code}
variable {G : GX} {A : Nat → Prop} {ad : Nat → Nat}
set_option maxHeartbeats 4000000 in
set_option maxRecDepth 100000 in
theorem w_X4_move_93 (F : FX p m c cX4_move 8 s args yX4_move (some .int) RX4 meth) {z : Int32 × MS} : ∀ (x2 : Int32) (x3 : Int32) (x4 : Int32) (x5 : Int32) (x6 : Int32) (u : MS) (H : Heap) (locs : List Loc) (ls : Array Slot), WD G A s (mw G ad u) H locs → lv_has ls 8 [(0, .ref (ad 0)), (2, .int x2), (3, .int x3), (4, .int x4), (5, .int x5), (6, .int x6)] → f_X4_move_93 x2 x3 x4 x5 x6 u = some z → W p l e rmX4_move s m args below meth c H locs 0 0 (MQ below (QW G (mw G ad z.2) A (some (.int z.1))) args s 0 0 A) (F0 m 93 ls []) := by
  obtain ⟨⟨hx, hb, hml, hown, hts⟩, hr, hlocks⟩ := id F
  intro x2 x3 x4 x5 x6 u H locs ls hw hl h
  unfold f_X4_move_93 at h
  refine lv_aload_n hx hb dX4_move_93 rfl (lv_at hl 0 rfl) ?_
  refine lv_bipush (v := 8) hx hb dX4_move_94 rfl ?_
  obtain ⟨z19, e20, h⟩ := bnd h
  refine k_X4_save F hw e20 ⟨Nat.le_of_ble_eq_true rfl, Nat.le_of_ble_eq_true rfl⟩ ⟨Nat.zero_le _, Nat.zero_le _⟩ hl.1 (Nat.le_of_ble_eq_true rfl) dX4_move_96 (fun H locs hw => ?_)
  refine lv_aload_n hx hb dX4_move_99 rfl (lv_at hl 0 rfl) ?_
  refine lv_iload hx hb dX4_move_100 (lv_at hl 3 rfl) ?_
  refine lv_iload hx hb dX4_move_102 (lv_at hl 4 rfl) ?_
  refine lv_iload hx hb dX4_move_104 (lv_at hl 5 rfl) ?_
  obtain ⟨z21, e22, h⟩ := bnd h
  refine k_X4_takeOut F hw e22 ⟨Nat.le_of_ble_eq_true rfl, Nat.le_of_ble_eq_true rfl⟩ ⟨Nat.zero_le _, Nat.zero_le _⟩ hl.1 (Nat.le_of_ble_eq_true rfl) dX4_move_106 (fun H locs hw => ?_)
  refine lv_istore (lv' := [(7, .int z21.1), (0, .ref (ad 0)), (2, .int x2), (3, .int x3), (4, .int x4), (5, .int x5), (6, .int x6)]) hx hb dX4_move_109 hl (by decide) rfl (fun ls hl => ?_)
  refine lv_aload_n hx hb dX4_move_111 rfl (lv_at hl 1 rfl) ?_
  refine lv_iload hx hb dX4_move_112 (lv_at hl 4 rfl) ?_
  refine lv_aload_n hx hb dX4_move_114 rfl (lv_at hl 1 rfl) ?_
  refine lv_iload hx hb dX4_move_115 (lv_at hl 4 rfl) ?_
  refine lv_iload_n hx hb dX4_move_117 rfl (lv_at hl 2 rfl) ?_
  refine lv_iload_n hx hb dX4_move_118 rfl (lv_at hl 3 rfl) ?_
  obtain ⟨z23, e24, h⟩ := bnd h
  refine k_X4_placeBehind F hw e24 ⟨Nat.le_of_ble_eq_true rfl, Nat.le_of_ble_eq_true rfl⟩ ⟨Nat.zero_le _, Nat.zero_le _⟩ hl.1 (Nat.le_of_ble_eq_true rfl) dX4_move_119 ?_
  obtain ⟨z25, e26, h⟩ := bnd h
  refine k_X4_bring F hw e26 ⟨Nat.le_of_ble_eq_true rfl, Nat.le_of_ble_eq_true rfl⟩ ⟨Nat.zero_le _, Nat.zero_le _⟩ hl.1 (Nat.le_of_ble_eq_true rfl) dX4_move_122 (fun H locs hw => ?_)
  refine lv_if_ne (tgt := 131) hx hb dX4_move_125 rfl (fun c27 => ?_) (fun c27 => ?_)
  · replace h := itF h c27
    refine lv_aload_n hx hb dX4_move_131 rfl (lv_at hl 1 rfl) ?_
    obtain ⟨z28, e29, h⟩ := bnd h
    refine k_X4_keep F hw e29 ⟨Nat.le_of_ble_eq_true rfl, Nat.le_of_ble_eq_true rfl⟩ ⟨Nat.zero_le _, Nat.zero_le _⟩ hl.1 (Nat.le_of_ble_eq_true rfl) dX4_move_132 (fun H locs hw => ?_)
    refine lv_iload hx hb dX4_move_135 (lv_at hl 0 rfl) ?_
    cases h
    exact retW_i F hw dX4_move_137
  · replace h := itT h c27
    refine lv_bipush (v := (-5)) hx hb dX4_move_128 rfl ?_
    cases h
    exact retW_i F hw dX4_move_130
set_option maxHeartbeats 4000000 in
set_option maxRecDepth 100000 in
theorem w_X4_move_0 (F : FX p m c cX4_move 8 s args yX4_move (some .int) RX4 meth) {z : Int32 × MS} : ∀ (x1 : Int32) (x2 : Int32) (x3 : Int32) (u : MS) (H : Heap) (locs : List Loc) (ls : Array Slot), WD G A s (mw G ad u) H locs → lv_has ls 8 [(0, .ref (ad 0)), (1, .int x1), (2, .int x2), (3, .int x3)] → f_X4_move x1 x2 x3 u = some z → W p l e rmX4_move s m args below meth c H locs 0 0 (MQ below (QW G (mw G ad z.2) A (some (.int z.1))) args s 0 0 A) (F0 m 0 ls []) := by
  obtain ⟨⟨hx, hb, hml, hown, hts⟩, hr, hlocks⟩ := id F
  intro x1 x2 x3 u H locs ls hw hl h
  unfold f_X4_move at h
  refine lv_aload_n hx hb dX4_move_0 rfl (lv_at hl 0 rfl) ?_
  refine lv_iconst (v := 0) hx hb dX4_move_1 rfl ?_
  refine m_p0 F hw dX4_move_2 (fun H locs hw => ?_)
  refine lv_aload_n hx hb dX4_move_5 rfl (lv_at hl 0 rfl) ?_
  refine lv_iload_n hx hb dX4_move_6 rfl (lv_at hl 1 rfl) ?_
  obtain ⟨z1, e2, h⟩ := bnd h
  refine k_X4_isThing F hw e2 ⟨Nat.le_of_ble_eq_true rfl, Nat.le_of_ble_eq_true rfl⟩ ⟨Nat.zero_le _, Nat.zero_le _⟩ hl.1 (Nat.le_of_ble_eq_true rfl) dX4_move_7 ?_
  refine lv_if_ne (tgt := 16) hx hb dX4_move_10 rfl (fun c3 => ?_) (fun c3 => ?_)
  · replace h := itF h c3
    refine lv_aload_n hx hb dX4_move_16 rfl (lv_at hl 0 rfl) ?_
    refine lv_iconst (v := 2) hx hb dX4_move_17 rfl ?_
    refine lv_iload_n hx hb dX4_move_18 rfl (lv_at hl 1 rfl) ?_
    refine lv_imul hx hb dX4_move_19 ?_
    obtain ⟨z4, e5, h⟩ := bnd h
    refine k_X4_rowWith F hw e5 ⟨Nat.le_of_ble_eq_true rfl, Nat.le_of_ble_eq_true rfl⟩ ⟨Nat.zero_le _, Nat.zero_le _⟩ hl.1 (Nat.le_of_ble_eq_true rfl) dX4_move_20 ?_
    refine lv_istore (lv' := [(4, .int z4), (0, .ref (ad 0)), (1, .int x1), (2, .int x2), (3, .int x3)]) hx hb dX4_move_23 hl (by decide) rfl (fun ls hl => ?_)
    refine lv_aload_n hx hb dX4_move_25 rfl (lv_at hl 1 rfl) ?_
    refine lv_iload hx hb dX4_move_26 (lv_at hl 0 rfl) ?_
    refine lv_iload_n hx hb dX4_move_28 rfl (lv_at hl 3 rfl) ?_
    refine lv_iload_n hx hb dX4_move_29 rfl (lv_at hl 4 rfl) ?_
    obtain ⟨z6, e7, h⟩ := bnd h
    refine k_X4_placeBehind F hw e7 ⟨Nat.le_of_ble_eq_true rfl, Nat.le_of_ble_eq_true rfl⟩ ⟨Nat.zero_le _, Nat.zero_le _⟩ hl.1 (Nat.le_of_ble_eq_true rfl) dX4_move_30 ?_
    refine lv_bipush (v := (-3)) hx hb dX4_move_33 rfl ?_
    refine lv_icmp_ne (tgt := 41) hx hb dX4_move_35 rfl (fun c8 => ?_) (fun c8 => ?_)
    · replace h := itF h c8
      refine lv_aload_n hx hb dX4_move_41 rfl (lv_at hl 1 rfl) ?_
      refine lv_iload hx hb dX4_move_42 (lv_at hl 0 rfl) ?_
      refine lv_iconst (v := 2) hx hb dX4_move_44 rfl ?_
      refine lv_iload_n hx hb dX4_move_45 rfl (lv_at hl 2 rfl) ?_
      refine lv_imul hx hb dX4_move_46 ?_
      obtain ⟨z9, e10, h⟩ := bnd h
      refine k_X4_placeOf F hw e10 ⟨Nat.le_of_ble_eq_true rfl, Nat.le_of_ble_eq_true rfl⟩ ⟨Nat.zero_le _, Nat.zero_le _⟩ hl.1 (Nat.le_of_ble_eq_true rfl) dX4_move_47 ?_
      refine lv_istore (lv' := [(5, .int z9), (4, .int z4), (0, .ref (ad 0)), (1, .int x1), (2, .int x2), (3, .int x3)]) hx hb dX4_move_50 hl (by decide) rfl (fun ls hl => ?_)
      refine lv_aload_n hx hb dX4_move_52 rfl (lv_at hl 2 rfl) ?_
      refine lv_iload hx hb dX4_move_53 (lv_at hl 1 rfl) ?_
      refine lv_iload_n hx hb dX4_move_55 rfl (lv_at hl 3 rfl) ?_
      obtain ⟨z11, e12, h⟩ := bnd h
      refine k_X4_span F hw e12 ⟨Nat.le_of_ble_eq_true rfl, Nat.le_of_ble_eq_true rfl⟩ ⟨Nat.zero_le _, Nat.zero_le _⟩ hl.1 (Nat.le_of_ble_eq_true rfl) dX4_move_56 ?_
      refine lv_istore (lv' := [(6, .int z11), (5, .int z9), (4, .int z4), (0, .ref (ad 0)), (1, .int x1), (2, .int x2), (3, .int x3)]) hx hb dX4_move_59 hl (by decide) rfl (fun ls hl => ?_)
      refine lv_iload_n hx hb dX4_move_61 rfl (lv_at hl 5 rfl) ?_
      refine lv_iconst (v := (-1)) hx hb dX4_move_62 rfl ?_
      refine lv_icmp_eq (tgt := 93) hx hb dX4_move_63 rfl (fun c13 => ?_) (fun c13 => ?_)
      · replace h := itT h c13
        exact w_X4_move_93 F _ _ _ _ _ _ _ _ _ hw (lv_sub hl [3, 5, 6, 2, 1, 0] rfl) h
      · replace h := itF h c13
        refine lv_aload_n hx hb dX4_move_66 rfl (lv_at hl 3 rfl) ?_
        refine lv_iload hx hb dX4_move_67 (lv_at hl 2 rfl) ?_
        refine lv_iconst (v := 2) hx hb dX4_move_69 rfl ?_
        refine lv_iload_n hx hb dX4_move_70 rfl (lv_at hl 5 rfl) ?_
        refine lv_imul hx hb dX4_move_71 ?_
        obtain ⟨z14, e15, h⟩ := bnd h
        refine k_X4_placeOf F hw e15 ⟨Nat.le_of_ble_eq_true rfl, Nat.le_of_ble_eq_true rfl⟩ ⟨Nat.zero_le _, Nat.zero_le _⟩ hl.1 (Nat.le_of_ble_eq_true rfl) dX4_move_72 ?_
        refine lv_iload hx hb dX4_move_75 (lv_at hl 1 rfl) ?_
        refine lv_iload hx hb dX4_move_77 (lv_at hl 1 rfl) ?_
        refine lv_iload hx hb dX4_move_79 (lv_at hl 0 rfl) ?_
        refine lv_iadd hx hb dX4_move_81 ?_
        refine lv_iconst (v := 1) hx hb dX4_move_82 rfl ?_
        refine lv_isub hx hb dX4_move_83 ?_
        obtain ⟨z16, e17, h⟩ := bnd h
        refine k_X4_in F hw e17 ⟨Nat.le_of_ble_eq_true rfl, Nat.le_of_ble_eq_true rfl⟩ ⟨Nat.zero_le _, Nat.zero_le _⟩ hl.1 (Nat.le_of_ble_eq_true rfl) dX4_move_84 ?_
        refine lv_if_eq (tgt := 93) hx hb dX4_move_87 rfl (fun c18 => ?_) (fun c18 => ?_)
        · replace h := itT h c18
          exact w_X4_move_93 F _ _ _ _ _ _ _ _ _ hw (lv_sub hl [3, 5, 6, 2, 1, 0] rfl) h
        · replace h := itF h c18
          refine lv_bipush (v := (-4)) hx hb dX4_move_90 rfl ?_
          cases h
          exact retW_i F hw dX4_move_92
    · replace h := itT h c8
      refine lv_bipush (v := (-3)) hx hb dX4_move_38 rfl ?_
      cases h
      exact retW_i F hw dX4_move_40
  · replace h := itT h c3
    refine lv_bipush (v := (-3)) hx hb dX4_move_13 rfl ?_
    cases h
    exact retW_i F hw dX4_move_15
end
theorem c_X4_move {l : Launch} {G : GX} {ad : Nat → Nat} {x1 : Int32} {x2 : Int32} {x3 : Int32} {u : MS} {z : Int32 × MS} (h : f_X4_move x1 x2 x3 u = some z) : MW l yX4_move cX4_move 8 (some .int) rmX4_move G (mw G ad u) (mw G ad z.2) [.ref (ad 0), .int x1, .int x2, .int x3] (some (.int z.1)) := MW.of (by decide) (Nat.le_of_ble_eq_true rfl) (fun p e s m below meth c ls F hw hl => w_X4_move_0 F _ _ _ _ _ _ _ hw hl h)
/-! ===== X4_join ===== -/
theorem dX4_join_0 : decode cX4_join 0 = .ok (.aload_n 0, 1) := by decide +kernel
theorem dX4_join_1 : decode cX4_join 1 = .ok (.iconst 0, 1) := by decide +kernel
theorem dX4_join_2 : decode cX4_join 2 = .ok (.putfield 64, 3) := by decide +kernel
theorem dX4_join_5 : decode cX4_join 5 = .ok (.aload_n 0, 1) := by decide +kernel
theorem dX4_join_6 : decode cX4_join 6 = .ok (.iload_n 1, 1) := by decide +kernel
theorem dX4_join_7 : decode cX4_join 7 = .ok (.invokevirtual 186, 3) := by decide +kernel
theorem dX4_join_10 : decode cX4_join 10 = .ok (.ifCond .eq 16, 3) := by decide +kernel
theorem dX4_join_13 : decode cX4_join 13 = .ok (.aload_n 0, 1) := by decide +kernel
theorem dX4_join_14 : decode cX4_join 14 = .ok (.iload_n 2, 1) := by decide +kernel
theorem dX4_join_15 : decode cX4_join 15 = .ok (.invokevirtual 186, 3) := by decide +kernel
theorem dX4_join_18 : decode cX4_join 18 = .ok (.ifCond .eq 8, 3) := by decide +kernel
theorem dX4_join_21 : decode cX4_join 21 = .ok (.iload_n 1, 1) := by decide +kernel
theorem dX4_join_22 : decode cX4_join 22 = .ok (.iload_n 2, 1) := by decide +kernel
theorem dX4_join_23 : decode cX4_join 23 = .ok (.if_icmp .ne 6, 3) := by decide +kernel
theorem dX4_join_26 : decode cX4_join 26 = .ok (.bipush (-3), 2) := by decide +kernel
theorem dX4_join_28 : decode cX4_join 28 = .ok (.ireturn, 1) := by decide +kernel
theorem dX4_join_29 : decode cX4_join 29 = .ok (.aload_n 0, 1) := by decide +kernel
theorem dX4_join_30 : decode cX4_join 30 = .ok (.getfield 7, 3) := by decide +kernel
theorem dX4_join_33 : decode cX4_join 33 = .ok (.iload_n 1, 1) := by decide +kernel
theorem dX4_join_34 : decode cX4_join 34 = .ok (.iaload, 1) := by decide +kernel
theorem dX4_join_35 : decode cX4_join 35 = .ok (.aload_n 0, 1) := by decide +kernel
theorem dX4_join_36 : decode cX4_join 36 = .ok (.getfield 7, 3) := by decide +kernel
theorem dX4_join_39 : decode cX4_join 39 = .ok (.iload_n 2, 1) := by decide +kernel
theorem dX4_join_40 : decode cX4_join 40 = .ok (.iaload, 1) := by decide +kernel
theorem dX4_join_41 : decode cX4_join 41 = .ok (.if_icmp .eq 6, 3) := by decide +kernel
theorem dX4_join_44 : decode cX4_join 44 = .ok (.bipush (-4), 2) := by decide +kernel
theorem dX4_join_46 : decode cX4_join 46 = .ok (.ireturn, 1) := by decide +kernel
theorem dX4_join_47 : decode cX4_join 47 = .ok (.aload_n 0, 1) := by decide +kernel
theorem dX4_join_48 : decode cX4_join 48 = .ok (.bipush 8, 2) := by decide +kernel
theorem dX4_join_50 : decode cX4_join 50 = .ok (.invokevirtual 104, 3) := by decide +kernel
theorem dX4_join_53 : decode cX4_join 53 = .ok (.aload_n 0, 1) := by decide +kernel
theorem dX4_join_54 : decode cX4_join 54 = .ok (.iload_n 1, 1) := by decide +kernel
theorem dX4_join_55 : decode cX4_join 55 = .ok (.iconst 0, 1) := by decide +kernel
theorem dX4_join_56 : decode cX4_join 56 = .ok (.aload_n 0, 1) := by decide +kernel
theorem dX4_join_57 : decode cX4_join 57 = .ok (.getfield 16, 3) := by decide +kernel
theorem dX4_join_60 : decode cX4_join 60 = .ok (.iload_n 1, 1) := by decide +kernel
theorem dX4_join_61 : decode cX4_join 61 = .ok (.iaload, 1) := by decide +kernel
theorem dX4_join_62 : decode cX4_join 62 = .ok (.invokevirtual 199, 3) := by decide +kernel
theorem dX4_join_65 : decode cX4_join 65 = .ok (.istore_n 3, 1) := by decide +kernel
theorem dX4_join_66 : decode cX4_join 66 = .ok (.aload_n 0, 1) := by decide +kernel
theorem dX4_join_67 : decode cX4_join 67 = .ok (.iload_n 2, 1) := by decide +kernel
theorem dX4_join_68 : decode cX4_join 68 = .ok (.aload_n 0, 1) := by decide +kernel
theorem dX4_join_69 : decode cX4_join 69 = .ok (.getfield 16, 3) := by decide +kernel
theorem dX4_join_72 : decode cX4_join 72 = .ok (.iload_n 2, 1) := by decide +kernel
theorem dX4_join_73 : decode cX4_join 73 = .ok (.iaload, 1) := by decide +kernel
theorem dX4_join_74 : decode cX4_join 74 = .ok (.invokevirtual 203, 3) := by decide +kernel
theorem dX4_join_77 : decode cX4_join 77 = .ok (.ifCond .ne 6, 3) := by decide +kernel
theorem dX4_join_80 : decode cX4_join 80 = .ok (.bipush (-5), 2) := by decide +kernel
theorem dX4_join_82 : decode cX4_join 82 = .ok (.ireturn, 1) := by decide +kernel
theorem dX4_join_83 : decode cX4_join 83 = .ok (.aload_n 0, 1) := by decide +kernel
theorem dX4_join_84 : decode cX4_join 84 = .ok (.invokevirtual 107, 3) := by decide +kernel
theorem dX4_join_87 : decode cX4_join 87 = .ok (.iload_n 3, 1) := by decide +kernel
theorem dX4_join_88 : decode cX4_join 88 = .ok (.ireturn, 1) := by decide +kernel
def rmX4_join : Room := { frames := 7, cells := 0, slots := 0, locals := 181 }
noncomputable def f_X4_join (x1 : Int32) (x2 : Int32) (u : MS) : Option (Int32 × MS) := (f_X4_isRow x1 (mF u 0 0)).bind (fun z1 => (if z1 = 0 then some ((-3), (mF u 0 0)) else (f_X4_isRow x2 (mF u 0 0)).bind (fun z4 => (if z4 = 0 then some ((-3), (mF u 0 0)) else (if x1 = x2 then some ((-3), (mF u 0 0)) else (if ix x1 8 = true then (if ix x2 8 = true then (if ((mF u 0 0).2.1 2 (Int32.toNatClampNeg x1)) = ((mF u 0 0).2.1 2 (Int32.toNatClampNeg x2)) then (f_X4_save 8 (mF u 0 0)).bind (fun z11 => (if ix x1 8 = true then (f_X4_takeOut x1 0 (z11.2.1 4 (Int32.toNatClampNeg x1)) z11).bind (fun z14 => (if ix x2 8 = true then (f_X4_bring x2 (z14.2.2.1 4 (Int32.toNatClampNeg x2)) z14.2).bind (fun z17 => (if z17.1 = 0 then some ((-5), z17.2) else (f_X4_keep z17.2).bind (fun z20 => some (z14.1, z20)))) else none)) else none)) else some ((-4), (mF u 0 0))) else none) else none))))))
section
variable {p : Program} {l : Launch} {e : Env} {s : State} {m : MethodId} {args : Array Value} {below : List Frame} {meth : Method} {c : Code}
variable {G : GX} {A : Nat → Prop} {ad : Nat → Nat}
set_option maxHeartbeats 4000000 in
set_option maxRecDepth 100000 in
theorem w_X4_join_0 (F : FX p m c cX4_join 4 s args yX4_join (some .int) RX4 meth) {z : Int32 × MS} : ∀ (x1 : Int32) (x2 : Int32) (u : MS) (H : Heap) (locs : List Loc) (ls : Array Slot), WD G A s (mw G ad u) H locs → lv_has ls 4 [(0, .ref (ad 0)), (1, .int x1), (2, .int x2)] → f_X4_join x1 x2 u = some z → W p l e rmX4_join s m args below meth c H locs 0 0 (MQ below (QW G (mw G ad z.2) A (some (.int z.1))) args s 0 0 A) (F0 m 0 ls []) := by
  obtain ⟨⟨hx, hb, hml, hown, hts⟩, hr, hlocks⟩ := id F
  intro x1 x2 u H locs ls hw hl h
  unfold f_X4_join at h
  refine lv_aload_n hx hb dX4_join_0 rfl (lv_at hl 0 rfl) ?_
  refine lv_iconst (v := 0) hx hb dX4_join_1 rfl ?_
  refine m_p0 F hw dX4_join_2 (fun H locs hw => ?_)
  refine lv_aload_n hx hb dX4_join_5 rfl (lv_at hl 0 rfl) ?_
  refine lv_iload_n hx hb dX4_join_6 rfl (lv_at hl 1 rfl) ?_
  obtain ⟨z1, e2, h⟩ := bnd h
  refine k_X4_isRow F hw e2 ⟨Nat.le_of_ble_eq_true rfl, Nat.le_of_ble_eq_true rfl⟩ ⟨Nat.zero_le _, Nat.zero_le _⟩ hl.1 (Nat.le_of_ble_eq_true rfl) dX4_join_7 ?_
  refine lv_if_eq (tgt := 26) hx hb dX4_join_10 rfl (fun c3 => ?_) (fun c3 => ?_)
  · replace h := itT h c3
    refine lv_bipush (v := (-3)) hx hb dX4_join_26 rfl ?_
    cases h
    exact retW_i F hw dX4_join_28
  · replace h := itF h c3
    refine lv_aload_n hx hb dX4_join_13 rfl (lv_at hl 0 rfl) ?_
    refine lv_iload_n hx hb dX4_join_14 rfl (lv_at hl 2 rfl) ?_
    obtain ⟨z4, e5, h⟩ := bnd h
    refine k_X4_isRow F hw e5 ⟨Nat.le_of_ble_eq_true rfl, Nat.le_of_ble_eq_true rfl⟩ ⟨Nat.zero_le _, Nat.zero_le _⟩ hl.1 (Nat.le_of_ble_eq_true rfl) dX4_join_15 ?_
    refine lv_if_eq (tgt := 26) hx hb dX4_join_18 rfl (fun c6 => ?_) (fun c6 => ?_)
    · replace h := itT h c6
      refine lv_bipush (v := (-3)) hx hb dX4_join_26 rfl ?_
      cases h
      exact retW_i F hw dX4_join_28
    · replace h := itF h c6
      refine lv_iload_n hx hb dX4_join_21 rfl (lv_at hl 1 rfl) ?_
      refine lv_iload_n hx hb dX4_join_22 rfl (lv_at hl 2 rfl) ?_
      refine lv_icmp_ne (tgt := 29) hx hb dX4_join_23 rfl (fun c7 => ?_) (fun c7 => ?_)
      · replace h := itF h c7
        refine lv_aload_n hx hb dX4_join_29 rfl (lv_at hl 0 rfl) ?_
        refine m_g2 F hw dX4_join_30 ?_
        refine lv_iload_n hx hb dX4_join_33 rfl (lv_at hl 1 rfl) ?_
        obtain ⟨g8, h⟩ := gd h
        refine m_l2 F hw g8 dX4_join_34 ?_
        refine lv_aload_n hx hb dX4_join_35 rfl (lv_at hl 0 rfl) ?_
        refine m_g2 F hw dX4_join_36 ?_
        refine lv_iload_n hx hb dX4_join_39 rfl (lv_at hl 2 rfl) ?_
        obtain ⟨g9, h⟩ := gd h
        refine m_l2 F hw g9 dX4_join_40 ?_
        refine lv_icmp_eq (tgt := 47) hx hb dX4_join_41 rfl (fun c10 => ?_) (fun c10 => ?_)
        · replace h := itT h c10
          refine lv_aload_n hx hb dX4_join_47 rfl (lv_at hl 0 rfl) ?_
          refine lv_bipush (v := 8) hx hb dX4_join_48 rfl ?_
          obtain ⟨z11, e12, h⟩ := bnd h
          refine k_X4_save F hw e12 ⟨Nat.le_of_ble_eq_true rfl, Nat.le_of_ble_eq_true rfl⟩ ⟨Nat.zero_le _, Nat.zero_le _⟩ hl.1 (Nat.le_of_ble_eq_true rfl) dX4_join_50 (fun H locs hw => ?_)
          refine lv_aload_n hx hb dX4_join_53 rfl (lv_at hl 0 rfl) ?_
          refine lv_iload_n hx hb dX4_join_54 rfl (lv_at hl 1 rfl) ?_
          refine lv_iconst (v := 0) hx hb dX4_join_55 rfl ?_
          refine lv_aload_n hx hb dX4_join_56 rfl (lv_at hl 0 rfl) ?_
          refine m_g4 F hw dX4_join_57 ?_
          refine lv_iload_n hx hb dX4_join_60 rfl (lv_at hl 1 rfl) ?_
          obtain ⟨g13, h⟩ := gd h
          refine m_l4 F hw g13 dX4_join_61 ?_
          obtain ⟨z14, e15, h⟩ := bnd h
          refine k_X4_takeOut F hw e15 ⟨Nat.le_of_ble_eq_true rfl, Nat.le_of_ble_eq_true rfl⟩ ⟨Nat.zero_le _, Nat.zero_le _⟩ hl.1 (Nat.le_of_ble_eq_true rfl) dX4_join_62 (fun H locs hw => ?_)
          refine lv_istore_n (lv' := [(3, .int z14.1), (0, .ref (ad 0)), (1, .int x1), (2, .int x2)]) hx hb dX4_join_65 rfl hl (by decide) rfl (fun ls hl => ?_)
          refine lv_aload_n hx hb dX4_join_66 rfl (lv_at hl 1 rfl) ?_
          refine lv_iload_n hx hb dX4_join_67 rfl (lv_at hl 3 rfl) ?_
          refine lv_aload_n hx hb dX4_join_68 rfl (lv_at hl 1 rfl) ?_
          refine m_g4 F hw dX4_join_69 ?_
          refine lv_iload_n hx hb dX4_join_72 rfl (lv_at hl 3 rfl) ?_
          obtain ⟨g16, h⟩ := gd h
          refine m_l4 F hw g16 dX4_join_73 ?_
          obtain ⟨z17, e18, h⟩ := bnd h
          refine k_X4_bring F hw e18 ⟨Nat.le_of_ble_eq_true rfl, Nat.le_of_ble_eq_true rfl⟩ ⟨Nat.zero_le _, Nat.zero_le _⟩ hl.1 (Nat.le_of_ble_eq_true rfl) dX4_join_74 (fun H locs hw => ?_)
          refine lv_if_ne (tgt := 83) hx hb dX4_join_77 rfl (fun c19 => ?_) (fun c19 => ?_)
          · replace h := itF h c19
            refine lv_aload_n hx hb dX4_join_83 rfl (lv_at hl 1 rfl) ?_
            obtain ⟨z20, e21, h⟩ := bnd h
            refine k_X4_keep F hw e21 ⟨Nat.le_of_ble_eq_true rfl, Nat.le_of_ble_eq_true rfl⟩ ⟨Nat.zero_le _, Nat.zero_le _⟩ hl.1 (Nat.le_of_ble_eq_true rfl) dX4_join_84 (fun H locs hw => ?_)
            refine lv_iload_n hx hb dX4_join_87 rfl (lv_at hl 0 rfl) ?_
            cases h
            exact retW_i F hw dX4_join_88
          · replace h := itT h c19
            refine lv_bipush (v := (-5)) hx hb dX4_join_80 rfl ?_
            cases h
            exact retW_i F hw dX4_join_82
        · replace h := itF h c10
          refine lv_bipush (v := (-4)) hx hb dX4_join_44 rfl ?_
          cases h
          exact retW_i F hw dX4_join_46
      · replace h := itT h c7
        refine lv_bipush (v := (-3)) hx hb dX4_join_26 rfl ?_
        cases h
        exact retW_i F hw dX4_join_28
end
theorem c_X4_join {l : Launch} {G : GX} {ad : Nat → Nat} {x1 : Int32} {x2 : Int32} {u : MS} {z : Int32 × MS} (h : f_X4_join x1 x2 u = some z) : MW l yX4_join cX4_join 4 (some .int) rmX4_join G (mw G ad u) (mw G ad z.2) [.ref (ad 0), .int x1, .int x2] (some (.int z.1)) := MW.of (by decide) (Nat.le_of_ble_eq_true rfl) (fun p e s m below meth c ls F hw hl => w_X4_join_0 F _ _ _ _ _ _ hw hl h)
/-! ===== X4_isWithin ===== -/
theorem dX4_isWithin_0 : decode cX4_isWithin 0 = .ok (.aload_n 0, 1) := by decide +kernel
theorem dX4_isWithin_1 : decode cX4_isWithin 1 = .ok (.iload_n 1, 1) := by decide +kernel
theorem dX4_isWithin_2 : decode cX4_isWithin 2 = .ok (.iconst 2, 1) := by decide +kernel
theorem dX4_isWithin_3 : decode cX4_isWithin 3 = .ok (.iload_n 2, 1) := by decide +kernel
theorem dX4_isWithin_4 : decode cX4_isWithin 4 = .ok (.imul, 1) := by decide +kernel
theorem dX4_isWithin_5 : decode cX4_isWithin 5 = .ok (.invokevirtual 171, 3) := by decide +kernel
theorem dX4_isWithin_8 : decode cX4_isWithin 8 = .ok (.istore 4, 2) := by decide +kernel
theorem dX4_isWithin_10 : decode cX4_isWithin 10 = .ok (.aload_n 0, 1) := by decide +kernel
theorem dX4_isWithin_11 : decode cX4_isWithin 11 = .ok (.iload_n 1, 1) := by decide +kernel
theorem dX4_isWithin_12 : decode cX4_isWithin 12 = .ok (.iconst 2, 1) := by decide +kernel
theorem dX4_isWithin_13 : decode cX4_isWithin 13 = .ok (.iload_n 3, 1) := by decide +kernel
theorem dX4_isWithin_14 : decode cX4_isWithin 14 = .ok (.imul, 1) := by decide +kernel
theorem dX4_isWithin_15 : decode cX4_isWithin 15 = .ok (.invokevirtual 171, 3) := by decide +kernel
theorem dX4_isWithin_18 : decode cX4_isWithin 18 = .ok (.istore 5, 2) := by decide +kernel
theorem dX4_isWithin_20 : decode cX4_isWithin 20 = .ok (.iload 5, 2) := by decide +kernel
theorem dX4_isWithin_22 : decode cX4_isWithin 22 = .ok (.iload 4, 2) := by decide +kernel
theorem dX4_isWithin_24 : decode cX4_isWithin 24 = .ok (.if_icmp .le 21, 3) := by decide +kernel
theorem dX4_isWithin_27 : decode cX4_isWithin 27 = .ok (.iload 5, 2) := by decide +kernel
theorem dX4_isWithin_29 : decode cX4_isWithin 29 = .ok (.iload 4, 2) := by decide +kernel
theorem dX4_isWithin_31 : decode cX4_isWithin 31 = .ok (.aload_n 0, 1) := by decide +kernel
theorem dX4_isWithin_32 : decode cX4_isWithin 32 = .ok (.iload_n 1, 1) := by decide +kernel
theorem dX4_isWithin_33 : decode cX4_isWithin 33 = .ok (.iload_n 2, 1) := by decide +kernel
theorem dX4_isWithin_34 : decode cX4_isWithin 34 = .ok (.invokevirtual 196, 3) := by decide +kernel
theorem dX4_isWithin_37 : decode cX4_isWithin 37 = .ok (.iadd, 1) := by decide +kernel
theorem dX4_isWithin_38 : decode cX4_isWithin 38 = .ok (.if_icmp .ge 7, 3) := by decide +kernel
theorem dX4_isWithin_41 : decode cX4_isWithin 41 = .ok (.iconst 1, 1) := by decide +kernel
theorem dX4_isWithin_42 : decode cX4_isWithin 42 = .ok (.goto 4, 3) := by decide +kernel
theorem dX4_isWithin_45 : decode cX4_isWithin 45 = .ok (.iconst 0, 1) := by decide +kernel
theorem dX4_isWithin_46 : decode cX4_isWithin 46 = .ok (.ireturn, 1) := by decide +kernel
def rmX4_isWithin : Room := { frames := 2, cells := 0, slots := 0, locals := 46 }
noncomputable def f_X4_isWithin (x1 : Int32) (x2 : Int32) (x3 : Int32) (u : MS) : Option (Int32) := (f_X4_placeOf x1 (2 * x2) u).bind (fun z1 => (f_X4_placeOf x1 (2 * x3) u).bind (fun z3 => (if z3 ≤ z1 then some 0 else (f_X4_span x1 x2 u).bind (fun z6 => (if (z1 + z6) ≤ z3 then some 0 else some 1)))))
section
variable {p : Program} {l : Launch} {e : Env} {s : State} {m : MethodId} {args : Array Value} {below : List Frame} {meth : Method} {c : Code}
variable {G : GX} {A : Nat → Prop} {ad : Nat → Nat}
set_option maxHeartbeats 4000000 in
set_option maxRecDepth 100000 in
theorem w_X4_isWithin_0 (F : FX p m c cX4_isWithin 6 s args yX4_isWithin (some .boolean) RX4 meth) {z : Int32} : ∀ (x1 : Int32) (x2 : Int32) (x3 : Int32) (u : MS) (ls : Array Slot), WD G A s (mw G ad u) s.heap [] → lv_has ls 6 [(0, .ref (ad 0)), (1, .int x1), (2, .int x2), (3, .int x3)] → f_X4_isWithin x1 x2 x3 u = some z → W p l e rmX4_isWithin s m args below meth c s.heap [] 0 0 (MQ below (QO (some (.int z))) args s 0 0 (fun _ => False)) (F0 m 0 ls []) := by
  obtain ⟨⟨hx, hb, hml, hown, hts⟩, hr, hlocks⟩ := id F
  intro x1 x2 x3 u ls hw hl h
  unfold f_X4_isWithin at h
  refine lv_aload_n hx hb dX4_isWithin_0 rfl (lv_at hl 0 rfl) ?_
  refine lv_iload_n hx hb dX4_isWithin_1 rfl (lv_at hl 1 rfl) ?_
  refine lv_iconst (v := 2) hx hb dX4_isWithin_2 rfl ?_
  refine lv_iload_n hx hb dX4_isWithin_3 rfl (lv_at hl 2 rfl) ?_
  refine lv_imul hx hb dX4_isWithin_4 ?_
  obtain ⟨z1, e2, h⟩ := bnd h
  refine k_X4_placeOf F hw e2 ⟨Nat.le_of_ble_eq_true rfl, Nat.le_of_ble_eq_true rfl⟩ ⟨Nat.zero_le _, Nat.zero_le _⟩ hl.1 (Nat.le_of_ble_eq_true rfl) dX4_isWithin_5 ?_
  refine lv_istore (lv' := [(4, .int z1), (0, .ref (ad 0)), (1, .int x1), (2, .int x2), (3, .int x3)]) hx hb dX4_isWithin_8 hl (by decide) rfl (fun ls hl => ?_)
  refine lv_aload_n hx hb dX4_isWithin_10 rfl (lv_at hl 1 rfl) ?_
  refine lv_iload_n hx hb dX4_isWithin_11 rfl (lv_at hl 2 rfl) ?_
  refine lv_iconst (v := 2) hx hb dX4_isWithin_12 rfl ?_
  refine lv_iload_n hx hb dX4_isWithin_13 rfl (lv_at hl 4 rfl) ?_
  refine lv_imul hx hb dX4_isWithin_14 ?_
  obtain ⟨z3, e4, h⟩ := bnd h
  refine k_X4_placeOf F hw e4 ⟨Nat.le_of_ble_eq_true rfl, Nat.le_of_ble_eq_true rfl⟩ ⟨Nat.zero_le _, Nat.zero_le _⟩ hl.1 (Nat.le_of_ble_eq_true rfl) dX4_isWithin_15 ?_
  refine lv_istore (lv' := [(5, .int z3), (4, .int z1), (0, .ref (ad 0)), (1, .int x1), (2, .int x2), (3, .int x3)]) hx hb dX4_isWithin_18 hl (by decide) rfl (fun ls hl => ?_)
  refine lv_iload hx hb dX4_isWithin_20 (lv_at hl 0 rfl) ?_
  refine lv_iload hx hb dX4_isWithin_22 (lv_at hl 1 rfl) ?_
  refine lv_icmp_le (tgt := 45) hx hb dX4_isWithin_24 rfl (fun c5 => ?_) (fun c5 => ?_)
  · replace h := itT h c5
    refine lv_iconst (v := 0) hx hb dX4_isWithin_45 rfl ?_
    cases h
    exact retO_z F narrow_b0 dX4_isWithin_46
  · replace h := itF h c5
    refine lv_iload hx hb dX4_isWithin_27 (lv_at hl 0 rfl) ?_
    refine lv_iload hx hb dX4_isWithin_29 (lv_at hl 1 rfl) ?_
    refine lv_aload_n hx hb dX4_isWithin_31 rfl (lv_at hl 2 rfl) ?_
    refine lv_iload_n hx hb dX4_isWithin_32 rfl (lv_at hl 3 rfl) ?_
    refine lv_iload_n hx hb dX4_isWithin_33 rfl (lv_at hl 4 rfl) ?_
    obtain ⟨z6, e7, h⟩ := bnd h
    refine k_X4_span F hw e7 ⟨Nat.le_of_ble_eq_true rfl, Nat.le_of_ble_eq_true rfl⟩ ⟨Nat.zero_le _, Nat.zero_le _⟩ hl.1 (Nat.le_of_ble_eq_true rfl) dX4_isWithin_34 ?_
    refine lv_iadd hx hb dX4_isWithin_37 ?_
    refine lv_icmp_ge (tgt := 45) hx hb dX4_isWithin_38 rfl (fun c8 => ?_) (fun c8 => ?_)
    · replace h := itT h c8
      refine lv_iconst (v := 0) hx hb dX4_isWithin_45 rfl ?_
      cases h
      exact retO_z F narrow_b0 dX4_isWithin_46
    · replace h := itF h c8
      refine lv_iconst (v := 1) hx hb dX4_isWithin_41 rfl ?_
      refine lv_goto (tgt := 46) hx hb dX4_isWithin_42 rfl ?_
      cases h
      exact retO_z F narrow_b1 dX4_isWithin_46
end
theorem c_X4_isWithin {l : Launch} {G : GX} {ad : Nat → Nat} {x1 : Int32} {x2 : Int32} {x3 : Int32} {u : MS} {z : Int32} (h : f_X4_isWithin x1 x2 x3 u = some z) : MO l yX4_isWithin cX4_isWithin 6 (some .boolean) rmX4_isWithin G (mw G ad u) [.ref (ad 0), .int x1, .int x2, .int x3] (some (.int z)) := MO.of (by decide) (Nat.le_of_ble_eq_true rfl) (fun p e s m below meth c ls F hw hl => w_X4_isWithin_0 F _ _ _ _ _ hw hl h)
theorem yv_X4_isWithin : YV RX4 214 yX4_isWithin cX4_isWithin 6 (some .boolean) 3 := ⟨(tw 760 (by decide +kernel) rfl), (tw 6 (by decide +kernel) rfl), (tw 757 (by decide +kernel) rfl), (tw 759 (by decide +kernel) rfl), (tp 44 (by decide +kernel) rfl), by decide +kernel⟩
theorem k_X4_isWithin {p : Program} {l : Launch} {e : Env} {R : Room} {s : State} {m : MethodId} {args : Array Value} {below : List Frame} {meth : Method} {c : Code} {H : Heap} {locs : List Loc} {cells slots : Nat} {Q : State → Prop} {G : GX} {A : Nat → Prop} {ad : Nat → Nat} {cc : ByteArray} {nL pc : Nat} {y0 : MethodName} {ret0 : Option FieldType} {ls : Array Slot} {rest : List Value} {u : MS} {x1 : Int32} {x2 : Int32} {x3 : Int32} {z : Int32} (F : FX p m c cc nL s args y0 ret0 RX4 meth) (hw : WD G A s (mw G ad u) H locs) (h : f_X4_isWithin x1 x2 x3 u = some z) (hR : rmX4_isWithin.frames + 1 ≤ R.frames ∧ 8 + (6 + 11) + rmX4_isWithin.locals ≤ R.locals) (hcs : cells ≤ R.cells ∧ slots ≤ R.slots) (hsz : ls.size = nL) (hW : (rest.map fun v => v.category).sum ≤ 8) (hdg : decode cc pc = .ok (.invokevirtual 214, 3)) (kk : W p l e R s m args below meth c H locs cells slots Q (F0 m (pc + 3) ls (.int z :: rest))) : W p l e R s m args below meth c H locs cells slots Q (F0 m pc ls (.int x3 :: .int x2 :: .int x1 :: .ref (ad 0) :: rest)) := callO (runV F yv_X4_isWithin (c_X4_isWithin h) hw.1 hw.2.1 hw.2.2.1 rfl rfl rfl ⟨rfl, rfl⟩ hR hcs rfl hsz rfl hW hdg) kk
/-! ===== X4_outerOf ===== -/
theorem dX4_outerOf_0 : decode cX4_outerOf 0 = .ok (.aload_n 0, 1) := by decide +kernel
theorem dX4_outerOf_1 : decode cX4_outerOf 1 = .ok (.iload_n 1, 1) := by decide +kernel
theorem dX4_outerOf_2 : decode cX4_outerOf 2 = .ok (.iconst 2, 1) := by decide +kernel
theorem dX4_outerOf_3 : decode cX4_outerOf 3 = .ok (.iload_n 2, 1) := by decide +kernel
theorem dX4_outerOf_4 : decode cX4_outerOf 4 = .ok (.imul, 1) := by decide +kernel
theorem dX4_outerOf_5 : decode cX4_outerOf 5 = .ok (.invokevirtual 171, 3) := by decide +kernel
theorem dX4_outerOf_8 : decode cX4_outerOf 8 = .ok (.iconst 1, 1) := by decide +kernel
theorem dX4_outerOf_9 : decode cX4_outerOf 9 = .ok (.isub, 1) := by decide +kernel
theorem dX4_outerOf_10 : decode cX4_outerOf 10 = .ok (.istore_n 3, 1) := by decide +kernel
theorem dX4_outerOf_11 : decode cX4_outerOf 11 = .ok (.iload_n 3, 1) := by decide +kernel
theorem dX4_outerOf_12 : decode cX4_outerOf 12 = .ok (.ifCond .lt 48, 3) := by decide +kernel
theorem dX4_outerOf_15 : decode cX4_outerOf 15 = .ok (.aload_n 0, 1) := by decide +kernel
theorem dX4_outerOf_16 : decode cX4_outerOf 16 = .ok (.getfield 25, 3) := by decide +kernel
theorem dX4_outerOf_19 : decode cX4_outerOf 19 = .ok (.sipush 600, 3) := by decide +kernel
theorem dX4_outerOf_22 : decode cX4_outerOf 22 = .ok (.iload_n 1, 1) := by decide +kernel
theorem dX4_outerOf_23 : decode cX4_outerOf 23 = .ok (.imul, 1) := by decide +kernel
theorem dX4_outerOf_24 : decode cX4_outerOf 24 = .ok (.iload_n 3, 1) := by decide +kernel
theorem dX4_outerOf_25 : decode cX4_outerOf 25 = .ok (.iadd, 1) := by decide +kernel
theorem dX4_outerOf_26 : decode cX4_outerOf 26 = .ok (.iaload, 1) := by decide +kernel
theorem dX4_outerOf_27 : decode cX4_outerOf 27 = .ok (.istore 4, 2) := by decide +kernel
theorem dX4_outerOf_29 : decode cX4_outerOf 29 = .ok (.iload 4, 2) := by decide +kernel
theorem dX4_outerOf_31 : decode cX4_outerOf 31 = .ok (.iconst 2, 1) := by decide +kernel
theorem dX4_outerOf_32 : decode cX4_outerOf 32 = .ok (.irem, 1) := by decide +kernel
theorem dX4_outerOf_33 : decode cX4_outerOf 33 = .ok (.ifCond .ne 21, 3) := by decide +kernel
theorem dX4_outerOf_36 : decode cX4_outerOf 36 = .ok (.aload_n 0, 1) := by decide +kernel
theorem dX4_outerOf_37 : decode cX4_outerOf 37 = .ok (.iload_n 1, 1) := by decide +kernel
theorem dX4_outerOf_38 : decode cX4_outerOf 38 = .ok (.iload 4, 2) := by decide +kernel
theorem dX4_outerOf_40 : decode cX4_outerOf 40 = .ok (.iconst 2, 1) := by decide +kernel
theorem dX4_outerOf_41 : decode cX4_outerOf 41 = .ok (.idiv, 1) := by decide +kernel
theorem dX4_outerOf_42 : decode cX4_outerOf 42 = .ok (.iload_n 2, 1) := by decide +kernel
theorem dX4_outerOf_43 : decode cX4_outerOf 43 = .ok (.invokevirtual 214, 3) := by decide +kernel
theorem dX4_outerOf_46 : decode cX4_outerOf 46 = .ok (.ifCond .eq 8, 3) := by decide +kernel
theorem dX4_outerOf_49 : decode cX4_outerOf 49 = .ok (.iload 4, 2) := by decide +kernel
theorem dX4_outerOf_51 : decode cX4_outerOf 51 = .ok (.iconst 2, 1) := by decide +kernel
theorem dX4_outerOf_52 : decode cX4_outerOf 52 = .ok (.idiv, 1) := by decide +kernel
theorem dX4_outerOf_53 : decode cX4_outerOf 53 = .ok (.ireturn, 1) := by decide +kernel
theorem dX4_outerOf_54 : decode cX4_outerOf 54 = .ok (.iinc 3 (-1), 3) := by decide +kernel
theorem dX4_outerOf_57 : decode cX4_outerOf 57 = .ok (.goto (-46), 3) := by decide +kernel
theorem dX4_outerOf_60 : decode cX4_outerOf 60 = .ok (.iconst (-1), 1) := by decide +kernel
theorem dX4_outerOf_61 : decode cX4_outerOf 61 = .ok (.ireturn, 1) := by decide +kernel
def rmX4_outerOf : Room := { frames := 3, cells := 0, slots := 0, locals := 71 }
noncomputable def f_X4_outerOf_11 : Nat → Int32 → Int32 → Int32 → MS → Option (Int32)
  | 0, _, _, _, _ => none
  | n + 1, x1, x2, x3, u => (if x3 < 0 then some (-1) else (if ix ((600 * x1) + x3) 4800 = true then (if ((u.2.1 7 (Int32.toNatClampNeg ((600 * x1) + x3))) - (u.2.1 7 (Int32.toNatClampNeg ((600 * x1) + x3))) / 2 * 2) = 0 then (f_X4_isWithin x1 ((u.2.1 7 (Int32.toNatClampNeg ((600 * x1) + x3))) / 2) x2 u).bind (fun z6 => (if z6 = 0 then f_X4_outerOf_11 n x1 x2 (x3 + (-1)) u else some ((u.2.1 7 (Int32.toNatClampNeg ((600 * x1) + x3))) / 2))) else f_X4_outerOf_11 n x1 x2 (x3 + (-1)) u) else none))
noncomputable def f_X4_outerOf (x1 : Int32) (x2 : Int32) (u : MS) : Option (Int32) := (f_X4_placeOf x1 (2 * x2) u).bind (fun z1 => f_X4_outerOf_11 NF x1 x2 (z1 - 1) u)
section
variable {p : Program} {l : Launch} {e : Env} {s : State} {m : MethodId} {args : Array Value} {below : List Frame} {meth : Method} {c : Code}
variable {G : GX} {A : Nat → Prop} {ad : Nat → Nat}
set_option maxHeartbeats 4000000 in
set_option maxRecDepth 100000 in
theorem w_X4_outerOf_11 (F : FX p m c cX4_outerOf 5 s args yX4_outerOf (some .int) RX4 meth) {z : Int32} : ∀ (n : Nat) (x1 : Int32) (x2 : Int32) (x3 : Int32) (u : MS) (ls : Array Slot), WD G A s (mw G ad u) s.heap [] → lv_has ls 5 [(0, .ref (ad 0)), (1, .int x1), (2, .int x2), (3, .int x3)] → f_X4_outerOf_11 n x1 x2 x3 u = some z → W p l e rmX4_outerOf s m args below meth c s.heap [] 0 0 (MQ below (QO (some (.int z))) args s 0 0 (fun _ => False)) (F0 m 11 ls []) := by
  obtain ⟨⟨hx, hb, hml, hown, hts⟩, hr, hlocks⟩ := id F
  intro n
  induction n with
  | zero =>
    intro x1 x2 x3 u ls hw hl h
    rw [f_X4_outerOf_11] at h
    cases h
  | succ n ih =>
    intro x1 x2 x3 u ls hw hl h
    rw [f_X4_outerOf_11] at h
    refine lv_iload_n hx hb dX4_outerOf_11 rfl (lv_at hl 3 rfl) ?_
    refine lv_if_lt (tgt := 60) hx hb dX4_outerOf_12 rfl (fun c3 => ?_) (fun c3 => ?_)
    · replace h := itT h c3
      refine lv_iconst (v := (-1)) hx hb dX4_outerOf_60 rfl ?_
      cases h
      exact retO_i F dX4_outerOf_61
    · replace h := itF h c3
      refine lv_aload_n hx hb dX4_outerOf_15 rfl (lv_at hl 0 rfl) ?_
      refine m_g7 F hw dX4_outerOf_16 ?_
      refine lv_sipush (v := 600) hx hb dX4_outerOf_19 rfl ?_
      refine lv_iload_n hx hb dX4_outerOf_22 rfl (lv_at hl 1 rfl) ?_
      refine lv_imul hx hb dX4_outerOf_23 ?_
      refine lv_iload_n hx hb dX4_outerOf_24 rfl (lv_at hl 3 rfl) ?_
      refine lv_iadd hx hb dX4_outerOf_25 ?_
      obtain ⟨g4, h⟩ := gd h
      refine m_l7 F hw g4 dX4_outerOf_26 ?_
      refine lv_istore (lv' := [(4, .int (u.2.1 7 (Int32.toNatClampNeg ((600 * x1) + x3)))), (0, .ref (ad 0)), (1, .int x1), (2, .int x2), (3, .int x3)]) hx hb dX4_outerOf_27 hl (by decide) rfl (fun ls hl => ?_)
      refine lv_iload hx hb dX4_outerOf_29 (lv_at hl 0 rfl) ?_
      refine lv_iconst (v := 2) hx hb dX4_outerOf_31 rfl ?_
      refine lv_irem hx hb dX4_outerOf_32 (by decide) ?_
      refine lv_if_ne (tgt := 54) hx hb dX4_outerOf_33 rfl (fun c5 => ?_) (fun c5 => ?_)
      · replace h := itF h c5
        refine lv_iinc (v := (x3 + (-1))) (lv' := [(3, .int (x3 + (-1))), (4, .int (u.2.1 7 (Int32.toNatClampNeg ((600 * x1) + x3)))), (0, .ref (ad 0)), (1, .int x1), (2, .int x2)]) hx hb dX4_outerOf_54 hl (k := 4) rfl rfl (by decide) rfl (fun ls hl => ?_)
        refine lv_goto (tgt := 11) hx hb dX4_outerOf_57 rfl ?_
        exact ih _ _ _ _ _ hw (lv_sub hl [2, 3, 4, 0] rfl) h
      · replace h := itT h c5
        refine lv_aload_n hx hb dX4_outerOf_36 rfl (lv_at hl 1 rfl) ?_
        refine lv_iload_n hx hb dX4_outerOf_37 rfl (lv_at hl 2 rfl) ?_
        refine lv_iload hx hb dX4_outerOf_38 (lv_at hl 0 rfl) ?_
        refine lv_iconst (v := 2) hx hb dX4_outerOf_40 rfl ?_
        refine lv_idiv hx hb dX4_outerOf_41 (by decide) ?_
        refine lv_iload_n hx hb dX4_outerOf_42 rfl (lv_at hl 3 rfl) ?_
        obtain ⟨z6, e7, h⟩ := bnd h
        refine k_X4_isWithin F hw e7 ⟨Nat.le_of_ble_eq_true rfl, Nat.le_of_ble_eq_true rfl⟩ ⟨Nat.zero_le _, Nat.zero_le _⟩ hl.1 (Nat.le_of_ble_eq_true rfl) dX4_outerOf_43 ?_
        refine lv_if_eq (tgt := 54) hx hb dX4_outerOf_46 rfl (fun c8 => ?_) (fun c8 => ?_)
        · replace h := itT h c8
          refine lv_iinc (v := (x3 + (-1))) (lv' := [(3, .int (x3 + (-1))), (4, .int (u.2.1 7 (Int32.toNatClampNeg ((600 * x1) + x3)))), (0, .ref (ad 0)), (1, .int x1), (2, .int x2)]) hx hb dX4_outerOf_54 hl (k := 4) rfl rfl (by decide) rfl (fun ls hl => ?_)
          refine lv_goto (tgt := 11) hx hb dX4_outerOf_57 rfl ?_
          exact ih _ _ _ _ _ hw (lv_sub hl [2, 3, 4, 0] rfl) h
        · replace h := itF h c8
          refine lv_iload hx hb dX4_outerOf_49 (lv_at hl 0 rfl) ?_
          refine lv_iconst (v := 2) hx hb dX4_outerOf_51 rfl ?_
          refine lv_idiv hx hb dX4_outerOf_52 (by decide) ?_
          cases h
          exact retO_i F dX4_outerOf_53
set_option maxHeartbeats 4000000 in
set_option maxRecDepth 100000 in
theorem w_X4_outerOf_0 (F : FX p m c cX4_outerOf 5 s args yX4_outerOf (some .int) RX4 meth) {z : Int32} : ∀ (x1 : Int32) (x2 : Int32) (u : MS) (ls : Array Slot), WD G A s (mw G ad u) s.heap [] → lv_has ls 5 [(0, .ref (ad 0)), (1, .int x1), (2, .int x2)] → f_X4_outerOf x1 x2 u = some z → W p l e rmX4_outerOf s m args below meth c s.heap [] 0 0 (MQ below (QO (some (.int z))) args s 0 0 (fun _ => False)) (F0 m 0 ls []) := by
  obtain ⟨⟨hx, hb, hml, hown, hts⟩, hr, hlocks⟩ := id F
  intro x1 x2 u ls hw hl h
  unfold f_X4_outerOf at h
  refine lv_aload_n hx hb dX4_outerOf_0 rfl (lv_at hl 0 rfl) ?_
  refine lv_iload_n hx hb dX4_outerOf_1 rfl (lv_at hl 1 rfl) ?_
  refine lv_iconst (v := 2) hx hb dX4_outerOf_2 rfl ?_
  refine lv_iload_n hx hb dX4_outerOf_3 rfl (lv_at hl 2 rfl) ?_
  refine lv_imul hx hb dX4_outerOf_4 ?_
  obtain ⟨z1, e2, h⟩ := bnd h
  refine k_X4_placeOf F hw e2 ⟨Nat.le_of_ble_eq_true rfl, Nat.le_of_ble_eq_true rfl⟩ ⟨Nat.zero_le _, Nat.zero_le _⟩ hl.1 (Nat.le_of_ble_eq_true rfl) dX4_outerOf_5 ?_
  refine lv_iconst (v := 1) hx hb dX4_outerOf_8 rfl ?_
  refine lv_isub hx hb dX4_outerOf_9 ?_
  refine lv_istore_n (lv' := [(3, .int (z1 - 1)), (0, .ref (ad 0)), (1, .int x1), (2, .int x2)]) hx hb dX4_outerOf_10 rfl hl (by decide) rfl (fun ls hl => ?_)
  exact w_X4_outerOf_11 F NF _ _ _ _ _ hw (lv_sub hl [1, 2, 3, 0] rfl) h
end
theorem c_X4_outerOf {l : Launch} {G : GX} {ad : Nat → Nat} {x1 : Int32} {x2 : Int32} {u : MS} {z : Int32} (h : f_X4_outerOf x1 x2 u = some z) : MO l yX4_outerOf cX4_outerOf 5 (some .int) rmX4_outerOf G (mw G ad u) [.ref (ad 0), .int x1, .int x2] (some (.int z)) := MO.of (by decide) (Nat.le_of_ble_eq_true rfl) (fun p e s m below meth c ls F hw hl => w_X4_outerOf_0 F _ _ _ _ hw hl h)
theorem yv_X4_outerOf : YV RX4 217 yX4_outerOf cX4_outerOf 5 (some .int) 2 := ⟨(tw 756 (by decide +kernel) rfl), (tw 6 (by decide +kernel) rfl), (tw 753 (by decide +kernel) rfl), (tw 755 (by decide +kernel) rfl), (tp 43 (by decide +kernel) rfl), by decide +kernel⟩
theorem k_X4_outerOf {p : Program} {l : Launch} {e : Env} {R : Room} {s : State} {m : MethodId} {args : Array Value} {below : List Frame} {meth : Method} {c : Code} {H : Heap} {locs : List Loc} {cells slots : Nat} {Q : State → Prop} {G : GX} {A : Nat → Prop} {ad : Nat → Nat} {cc : ByteArray} {nL pc : Nat} {y0 : MethodName} {ret0 : Option FieldType} {ls : Array Slot} {rest : List Value} {u : MS} {x1 : Int32} {x2 : Int32} {z : Int32} (F : FX p m c cc nL s args y0 ret0 RX4 meth) (hw : WD G A s (mw G ad u) H locs) (h : f_X4_outerOf x1 x2 u = some z) (hR : rmX4_outerOf.frames + 1 ≤ R.frames ∧ 8 + (5 + 11) + rmX4_outerOf.locals ≤ R.locals) (hcs : cells ≤ R.cells ∧ slots ≤ R.slots) (hsz : ls.size = nL) (hW : (rest.map fun v => v.category).sum ≤ 8) (hdg : decode cc pc = .ok (.invokevirtual 217, 3)) (kk : W p l e R s m args below meth c H locs cells slots Q (F0 m (pc + 3) ls (.int z :: rest))) : W p l e R s m args below meth c H locs cells slots Q (F0 m pc ls (.int x2 :: .int x1 :: .ref (ad 0) :: rest)) := callO (runV F yv_X4_outerOf (c_X4_outerOf h) hw.1 hw.2.1 hw.2.2.1 rfl rfl rfl ⟨rfl, rfl⟩ hR hcs rfl hsz rfl hW hdg) kk
/-! ===== X4_depthOf ===== -/
theorem dX4_depthOf_0 : decode cX4_depthOf 0 = .ok (.iconst 0, 1) := by decide +kernel
theorem dX4_depthOf_1 : decode cX4_depthOf 1 = .ok (.istore_n 3, 1) := by decide +kernel
theorem dX4_depthOf_2 : decode cX4_depthOf 2 = .ok (.aload_n 0, 1) := by decide +kernel
theorem dX4_depthOf_3 : decode cX4_depthOf 3 = .ok (.iload_n 1, 1) := by decide +kernel
theorem dX4_depthOf_4 : decode cX4_depthOf 4 = .ok (.iload_n 2, 1) := by decide +kernel
theorem dX4_depthOf_5 : decode cX4_depthOf 5 = .ok (.invokevirtual 217, 3) := by decide +kernel
theorem dX4_depthOf_8 : decode cX4_depthOf 8 = .ok (.istore 4, 2) := by decide +kernel
theorem dX4_depthOf_10 : decode cX4_depthOf 10 = .ok (.iload 4, 2) := by decide +kernel
theorem dX4_depthOf_12 : decode cX4_depthOf 12 = .ok (.iconst (-1), 1) := by decide +kernel
theorem dX4_depthOf_13 : decode cX4_depthOf 13 = .ok (.if_icmp .eq 18, 3) := by decide +kernel
theorem dX4_depthOf_16 : decode cX4_depthOf 16 = .ok (.iinc 3 1, 3) := by decide +kernel
theorem dX4_depthOf_19 : decode cX4_depthOf 19 = .ok (.aload_n 0, 1) := by decide +kernel
theorem dX4_depthOf_20 : decode cX4_depthOf 20 = .ok (.iload_n 1, 1) := by decide +kernel
theorem dX4_depthOf_21 : decode cX4_depthOf 21 = .ok (.iload 4, 2) := by decide +kernel
theorem dX4_depthOf_23 : decode cX4_depthOf 23 = .ok (.invokevirtual 217, 3) := by decide +kernel
theorem dX4_depthOf_26 : decode cX4_depthOf 26 = .ok (.istore 4, 2) := by decide +kernel
theorem dX4_depthOf_28 : decode cX4_depthOf 28 = .ok (.goto (-18), 3) := by decide +kernel
theorem dX4_depthOf_31 : decode cX4_depthOf 31 = .ok (.iload_n 3, 1) := by decide +kernel
theorem dX4_depthOf_32 : decode cX4_depthOf 32 = .ok (.ireturn, 1) := by decide +kernel
def rmX4_depthOf : Room := { frames := 4, cells := 0, slots := 0, locals := 95 }
noncomputable def f_X4_depthOf_10 : Nat → Int32 → Int32 → Int32 → MS → Option (Int32)
  | 0, _, _, _, _ => none
  | n + 1, x1, x3, x4, u => (if x4 = ((-1) : Int32) then some x3 else (f_X4_outerOf x1 x4 u).bind (fun z4 => f_X4_depthOf_10 n x1 (x3 + 1) z4 u))
noncomputable def f_X4_depthOf (x1 : Int32) (x2 : Int32) (u : MS) : Option (Int32) := (f_X4_outerOf x1 x2 u).bind (fun z1 => f_X4_depthOf_10 NF x1 0 z1 u)
section
variable {p : Program} {l : Launch} {e : Env} {s : State} {m : MethodId} {args : Array Value} {below : List Frame} {meth : Method} {c : Code}
variable {G : GX} {A : Nat → Prop} {ad : Nat → Nat}
set_option maxHeartbeats 4000000 in
set_option maxRecDepth 100000 in
theorem w_X4_depthOf_10 (F : FX p m c cX4_depthOf 5 s args yX4_depthOf (some .int) RX4 meth) {z : Int32} : ∀ (n : Nat) (x1 : Int32) (x3 : Int32) (x4 : Int32) (u : MS) (ls : Array Slot), WD G A s (mw G ad u) s.heap [] → lv_has ls 5 [(0, .ref (ad 0)), (1, .int x1), (3, .int x3), (4, .int x4)] → f_X4_depthOf_10 n x1 x3 x4 u = some z → W p l e rmX4_depthOf s m args below meth c s.heap [] 0 0 (MQ below (QO (some (.int z))) args s 0 0 (fun _ => False)) (F0 m 10 ls []) := by
  obtain ⟨⟨hx, hb, hml, hown, hts⟩, hr, hlocks⟩ := id F
  intro n
  induction n with
  | zero =>
    intro x1 x3 x4 u ls hw hl h
    rw [f_X4_depthOf_10] at h
    cases h
  | succ n ih =>
    intro x1 x3 x4 u ls hw hl h
    rw [f_X4_depthOf_10] at h
    refine lv_iload hx hb dX4_depthOf_10 (lv_at hl 3 rfl) ?_
    refine lv_iconst (v := (-1)) hx hb dX4_depthOf_12 rfl ?_
    refine lv_icmp_eq (tgt := 31) hx hb dX4_depthOf_13 rfl (fun c3 => ?_) (fun c3 => ?_)
    · replace h := itT h c3
      refine lv_iload_n hx hb dX4_depthOf_31 rfl (lv_at hl 2 rfl) ?_
      cases h
      exact retO_i F dX4_depthOf_32
    · replace h := itF h c3
      refine lv_iinc (v := (x3 + 1)) (lv' := [(3, .int (x3 + 1)), (0, .ref (ad 0)), (1, .int x1), (4, .int x4)]) hx hb dX4_depthOf_16 hl (k := 2) rfl rfl (by decide) rfl (fun ls hl => ?_)
      refine lv_aload_n hx hb dX4_depthOf_19 rfl (lv_at hl 1 rfl) ?_
      refine lv_iload_n hx hb dX4_depthOf_20 rfl (lv_at hl 2 rfl) ?_
      refine lv_iload hx hb dX4_depthOf_21 (lv_at hl 3 rfl) ?_
      obtain ⟨z4, e5, h⟩ := bnd h
      refine k_X4_outerOf F hw e5 ⟨Nat.le_of_ble_eq_true rfl, Nat.le_of_ble_eq_true rfl⟩ ⟨Nat.zero_le _, Nat.zero_le _⟩ hl.1 (Nat.le_of_ble_eq_true rfl) dX4_depthOf_23 ?_
      refine lv_istore (lv' := [(4, .int z4), (3, .int (x3 + 1)), (0, .ref (ad 0)), (1, .int x1)]) hx hb dX4_depthOf_26 hl (by decide) rfl (fun ls hl => ?_)
      refine lv_goto (tgt := 10) hx hb dX4_depthOf_28 rfl ?_
      exact ih _ _ _ _ _ hw (lv_sub hl [2, 3, 1, 0] rfl) h
set_option maxHeartbeats 4000000 in
set_option maxRecDepth 100000 in
theorem w_X4_depthOf_0 (F : FX p m c cX4_depthOf 5 s args yX4_depthOf (some .int) RX4 meth) {z : Int32} : ∀ (x1 : Int32) (x2 : Int32) (u : MS) (ls : Array Slot), WD G A s (mw G ad u) s.heap [] → lv_has ls 5 [(0, .ref (ad 0)), (1, .int x1), (2, .int x2)] → f_X4_depthOf x1 x2 u = some z → W p l e rmX4_depthOf s m args below meth c s.heap [] 0 0 (MQ below (QO (some (.int z))) args s 0 0 (fun _ => False)) (F0 m 0 ls []) := by
  obtain ⟨⟨hx, hb, hml, hown, hts⟩, hr, hlocks⟩ := id F
  intro x1 x2 u ls hw hl h
  unfold f_X4_depthOf at h
  refine lv_iconst (v := 0) hx hb dX4_depthOf_0 rfl ?_
  refine lv_istore_n (lv' := [(3, .int 0), (0, .ref (ad 0)), (1, .int x1), (2, .int x2)]) hx hb dX4_depthOf_1 rfl hl (by decide) rfl (fun ls hl => ?_)
  refine lv_aload_n hx hb dX4_depthOf_2 rfl (lv_at hl 1 rfl) ?_
  refine lv_iload_n hx hb dX4_depthOf_3 rfl (lv_at hl 2 rfl) ?_
  refine lv_iload_n hx hb dX4_depthOf_4 rfl (lv_at hl 3 rfl) ?_
  obtain ⟨z1, e2, h⟩ := bnd h
  refine k_X4_outerOf F hw e2 ⟨Nat.le_of_ble_eq_true rfl, Nat.le_of_ble_eq_true rfl⟩ ⟨Nat.zero_le _, Nat.zero_le _⟩ hl.1 (Nat.le_of_ble_eq_true rfl) dX4_depthOf_5 ?_
  refine lv_istore (lv' := [(4, .int z1), (3, .int 0), (0, .ref (ad 0)), (1, .int x1), (2, .int x2)]) hx hb dX4_depthOf_8 hl (by decide) rfl (fun ls hl => ?_)
  exact w_X4_depthOf_10 F NF _ _ _ _ _ hw (lv_sub hl [2, 3, 1, 0] rfl) h
end
theorem c_X4_depthOf {l : Launch} {G : GX} {ad : Nat → Nat} {x1 : Int32} {x2 : Int32} {u : MS} {z : Int32} (h : f_X4_depthOf x1 x2 u = some z) : MO l yX4_depthOf cX4_depthOf 5 (some .int) rmX4_depthOf G (mw G ad u) [.ref (ad 0), .int x1, .int x2] (some (.int z)) := MO.of (by decide) (Nat.le_of_ble_eq_true rfl) (fun p e s m below meth c ls F hw hl => w_X4_depthOf_0 F _ _ _ _ hw hl h)
theorem yv_X4_depthOf : YV RX4 206 yX4_depthOf cX4_depthOf 5 (some .int) 2 := ⟨(tw 752 (by decide +kernel) rfl), (tw 6 (by decide +kernel) rfl), (tw 749 (by decide +kernel) rfl), (tw 751 (by decide +kernel) rfl), (tp 42 (by decide +kernel) rfl), by decide +kernel⟩
theorem k_X4_depthOf {p : Program} {l : Launch} {e : Env} {R : Room} {s : State} {m : MethodId} {args : Array Value} {below : List Frame} {meth : Method} {c : Code} {H : Heap} {locs : List Loc} {cells slots : Nat} {Q : State → Prop} {G : GX} {A : Nat → Prop} {ad : Nat → Nat} {cc : ByteArray} {nL pc : Nat} {y0 : MethodName} {ret0 : Option FieldType} {ls : Array Slot} {rest : List Value} {u : MS} {x1 : Int32} {x2 : Int32} {z : Int32} (F : FX p m c cc nL s args y0 ret0 RX4 meth) (hw : WD G A s (mw G ad u) H locs) (h : f_X4_depthOf x1 x2 u = some z) (hR : rmX4_depthOf.frames + 1 ≤ R.frames ∧ 8 + (5 + 11) + rmX4_depthOf.locals ≤ R.locals) (hcs : cells ≤ R.cells ∧ slots ≤ R.slots) (hsz : ls.size = nL) (hW : (rest.map fun v => v.category).sum ≤ 8) (hdg : decode cc pc = .ok (.invokevirtual 206, 3)) (kk : W p l e R s m args below meth c H locs cells slots Q (F0 m (pc + 3) ls (.int z :: rest))) : W p l e R s m args below meth c H locs cells slots Q (F0 m pc ls (.int x2 :: .int x1 :: .ref (ad 0) :: rest)) := callO (runV F yv_X4_depthOf (c_X4_depthOf h) hw.1 hw.2.1 hw.2.2.1 rfl rfl rfl ⟨rfl, rfl⟩ hR hcs rfl hsz rfl hW hdg) kk
/-! ===== X4_split ===== -/
theorem dX4_split_0 : decode cX4_split 0 = .ok (.aload_n 0, 1) := by decide +kernel
theorem dX4_split_1 : decode cX4_split 1 = .ok (.iconst 0, 1) := by decide +kernel
theorem dX4_split_2 : decode cX4_split 2 = .ok (.putfield 64, 3) := by decide +kernel
theorem dX4_split_5 : decode cX4_split 5 = .ok (.aload_n 0, 1) := by decide +kernel
theorem dX4_split_6 : decode cX4_split 6 = .ok (.iload_n 1, 1) := by decide +kernel
theorem dX4_split_7 : decode cX4_split 7 = .ok (.invokevirtual 183, 3) := by decide +kernel
theorem dX4_split_10 : decode cX4_split 10 = .ok (.ifCond .eq 22, 3) := by decide +kernel
theorem dX4_split_13 : decode cX4_split 13 = .ok (.aload_n 0, 1) := by decide +kernel
theorem dX4_split_14 : decode cX4_split 14 = .ok (.iload_n 2, 1) := by decide +kernel
theorem dX4_split_15 : decode cX4_split 15 = .ok (.invokevirtual 186, 3) := by decide +kernel
theorem dX4_split_18 : decode cX4_split 18 = .ok (.ifCond .eq 14, 3) := by decide +kernel
theorem dX4_split_21 : decode cX4_split 21 = .ok (.aload_n 0, 1) := by decide +kernel
theorem dX4_split_22 : decode cX4_split 22 = .ok (.iconst 2, 1) := by decide +kernel
theorem dX4_split_23 : decode cX4_split 23 = .ok (.iload_n 1, 1) := by decide +kernel
theorem dX4_split_24 : decode cX4_split 24 = .ok (.imul, 1) := by decide +kernel
theorem dX4_split_25 : decode cX4_split 25 = .ok (.invokevirtual 100, 3) := by decide +kernel
theorem dX4_split_28 : decode cX4_split 28 = .ok (.iload_n 2, 1) := by decide +kernel
theorem dX4_split_29 : decode cX4_split 29 = .ok (.if_icmp .ne 6, 3) := by decide +kernel
theorem dX4_split_32 : decode cX4_split 32 = .ok (.bipush (-3), 2) := by decide +kernel
theorem dX4_split_34 : decode cX4_split 34 = .ok (.ireturn, 1) := by decide +kernel
theorem dX4_split_35 : decode cX4_split 35 = .ok (.aload_n 0, 1) := by decide +kernel
theorem dX4_split_36 : decode cX4_split 36 = .ok (.iconst 2, 1) := by decide +kernel
theorem dX4_split_37 : decode cX4_split 37 = .ok (.iload_n 1, 1) := by decide +kernel
theorem dX4_split_38 : decode cX4_split 38 = .ok (.imul, 1) := by decide +kernel
theorem dX4_split_39 : decode cX4_split 39 = .ok (.invokevirtual 100, 3) := by decide +kernel
theorem dX4_split_42 : decode cX4_split 42 = .ok (.istore_n 3, 1) := by decide +kernel
theorem dX4_split_43 : decode cX4_split 43 = .ok (.aload_n 0, 1) := by decide +kernel
theorem dX4_split_44 : decode cX4_split 44 = .ok (.getfield 7, 3) := by decide +kernel
theorem dX4_split_47 : decode cX4_split 47 = .ok (.iload_n 3, 1) := by decide +kernel
theorem dX4_split_48 : decode cX4_split 48 = .ok (.iaload, 1) := by decide +kernel
theorem dX4_split_49 : decode cX4_split 49 = .ok (.aload_n 0, 1) := by decide +kernel
theorem dX4_split_50 : decode cX4_split 50 = .ok (.getfield 7, 3) := by decide +kernel
theorem dX4_split_53 : decode cX4_split 53 = .ok (.iload_n 2, 1) := by decide +kernel
theorem dX4_split_54 : decode cX4_split 54 = .ok (.iaload, 1) := by decide +kernel
theorem dX4_split_55 : decode cX4_split 55 = .ok (.if_icmp .ne 12, 3) := by decide +kernel
theorem dX4_split_58 : decode cX4_split 58 = .ok (.aload_n 0, 1) := by decide +kernel
theorem dX4_split_59 : decode cX4_split 59 = .ok (.iload_n 3, 1) := by decide +kernel
theorem dX4_split_60 : decode cX4_split 60 = .ok (.iload_n 1, 1) := by decide +kernel
theorem dX4_split_61 : decode cX4_split 61 = .ok (.invokevirtual 206, 3) := by decide +kernel
theorem dX4_split_64 : decode cX4_split 64 = .ok (.ifCond .le 6, 3) := by decide +kernel
theorem dX4_split_67 : decode cX4_split 67 = .ok (.bipush (-4), 2) := by decide +kernel
theorem dX4_split_69 : decode cX4_split 69 = .ok (.ireturn, 1) := by decide +kernel
theorem dX4_split_70 : decode cX4_split 70 = .ok (.aload_n 0, 1) := by decide +kernel
theorem dX4_split_71 : decode cX4_split 71 = .ok (.bipush 8, 2) := by decide +kernel
theorem dX4_split_73 : decode cX4_split 73 = .ok (.invokevirtual 104, 3) := by decide +kernel
theorem dX4_split_76 : decode cX4_split 76 = .ok (.aload_n 0, 1) := by decide +kernel
theorem dX4_split_77 : decode cX4_split 77 = .ok (.iload_n 3, 1) := by decide +kernel
theorem dX4_split_78 : decode cX4_split 78 = .ok (.iconst 2, 1) := by decide +kernel
theorem dX4_split_79 : decode cX4_split 79 = .ok (.iload_n 1, 1) := by decide +kernel
theorem dX4_split_80 : decode cX4_split 80 = .ok (.imul, 1) := by decide +kernel
theorem dX4_split_81 : decode cX4_split 81 = .ok (.invokevirtual 171, 3) := by decide +kernel
theorem dX4_split_84 : decode cX4_split 84 = .ok (.aload_n 0, 1) := by decide +kernel
theorem dX4_split_85 : decode cX4_split 85 = .ok (.iload_n 3, 1) := by decide +kernel
theorem dX4_split_86 : decode cX4_split 86 = .ok (.iload_n 1, 1) := by decide +kernel
theorem dX4_split_87 : decode cX4_split 87 = .ok (.invokevirtual 196, 3) := by decide +kernel
theorem dX4_split_90 : decode cX4_split 90 = .ok (.iadd, 1) := by decide +kernel
theorem dX4_split_91 : decode cX4_split 91 = .ok (.istore 4, 2) := by decide +kernel
theorem dX4_split_93 : decode cX4_split 93 = .ok (.aload_n 0, 1) := by decide +kernel
theorem dX4_split_94 : decode cX4_split 94 = .ok (.iload_n 3, 1) := by decide +kernel
theorem dX4_split_95 : decode cX4_split 95 = .ok (.iload 4, 2) := by decide +kernel
theorem dX4_split_97 : decode cX4_split 97 = .ok (.aload_n 0, 1) := by decide +kernel
theorem dX4_split_98 : decode cX4_split 98 = .ok (.getfield 16, 3) := by decide +kernel
theorem dX4_split_101 : decode cX4_split 101 = .ok (.iload_n 3, 1) := by decide +kernel
theorem dX4_split_102 : decode cX4_split 102 = .ok (.iaload, 1) := by decide +kernel
theorem dX4_split_103 : decode cX4_split 103 = .ok (.iload 4, 2) := by decide +kernel
theorem dX4_split_105 : decode cX4_split 105 = .ok (.isub, 1) := by decide +kernel
theorem dX4_split_106 : decode cX4_split 106 = .ok (.invokevirtual 199, 3) := by decide +kernel
theorem dX4_split_109 : decode cX4_split 109 = .ok (.istore 5, 2) := by decide +kernel
theorem dX4_split_111 : decode cX4_split 111 = .ok (.aload_n 0, 1) := by decide +kernel
theorem dX4_split_112 : decode cX4_split 112 = .ok (.iload_n 2, 1) := by decide +kernel
theorem dX4_split_113 : decode cX4_split 113 = .ok (.aload_n 0, 1) := by decide +kernel
theorem dX4_split_114 : decode cX4_split 114 = .ok (.getfield 16, 3) := by decide +kernel
theorem dX4_split_117 : decode cX4_split 117 = .ok (.iload_n 2, 1) := by decide +kernel
theorem dX4_split_118 : decode cX4_split 118 = .ok (.iaload, 1) := by decide +kernel
theorem dX4_split_119 : decode cX4_split 119 = .ok (.invokevirtual 203, 3) := by decide +kernel
theorem dX4_split_122 : decode cX4_split 122 = .ok (.ifCond .ne 6, 3) := by decide +kernel
theorem dX4_split_125 : decode cX4_split 125 = .ok (.bipush (-5), 2) := by decide +kernel
theorem dX4_split_127 : decode cX4_split 127 = .ok (.ireturn, 1) := by decide +kernel
theorem dX4_split_128 : decode cX4_split 128 = .ok (.aload_n 0, 1) := by decide +kernel
theorem dX4_split_129 : decode cX4_split 129 = .ok (.invokevirtual 107, 3) := by decide +kernel
theorem dX4_split_132 : decode cX4_split 132 = .ok (.iload 5, 2) := by decide +kernel
theorem dX4_split_134 : decode cX4_split 134 = .ok (.ireturn, 1) := by decide +kernel
def rmX4_split : Room := { frames := 7, cells := 0, slots := 0, locals := 181 }
noncomputable def f_X4_split (x1 : Int32) (x2 : Int32) (u : MS) : Option (Int32 × MS) := (f_X4_isThing x1 (mF u 0 0)).bind (fun z1 => (if z1 = 0 then some ((-3), (mF u 0 0)) else (f_X4_isRow x2 (mF u 0 0)).bind (fun z4 => (if z4 = 0 then some ((-3), (mF u 0 0)) else (f_X4_rowWith (2 * x1) (mF u 0 0)).bind (fun z7 => (if z7 = x2 then some ((-3), (mF u 0 0)) else (f_X4_rowWith (2 * x1) (mF u 0 0)).bind (fun z10 => (if ix z10 8 = true then (if ix x2 8 = true then (if ((mF u 0 0).2.1 2 (Int32.toNatClampNeg z10)) = ((mF u 0 0).2.1 2 (Int32.toNatClampNeg x2)) then (f_X4_depthOf z10 x1 (mF u 0 0)).bind (fun z15 => (if z15 ≤ 0 then (f_X4_save 8 (mF u 0 0)).bind (fun z18 => (f_X4_placeOf z10 (2 * x1) z18).bind (fun z20 => (f_X4_span z10 x1 z18).bind (fun z22 => (if ix z10 8 = true then (f_X4_takeOut z10 (z20 + z22) ((z18.2.1 4 (Int32.toNatClampNeg z10)) - (z20 + z22)) z18).bind (fun z25 => (if ix x2 8 = true then (f_X4_bring x2 (z25.2.2.1 4 (Int32.toNatClampNeg x2)) z25.2).bind (fun z28 => (if z28.1 = 0 then some ((-5), z28.2) else (f_X4_keep z28.2).bind (fun z31 => some (z25.1, z31)))) else none)) else none)))) else some ((-4), (mF u 0 0)))) else some ((-4), (mF u 0 0))) else none) else none))))))))
section
variable {p : Program} {l : Launch} {e : Env} {s : State} {m : MethodId} {args : Array Value} {below : List Frame} {meth : Method} {c : Code}
variable {G : GX} {A : Nat → Prop} {ad : Nat → Nat}
set_option maxHeartbeats 4000000 in
set_option maxRecDepth 100000 in
theorem w_X4_split_0 (F : FX p m c cX4_split 6 s args yX4_split (some .int) RX4 meth) {z : Int32 × MS} : ∀ (x1 : Int32) (x2 : Int32) (u : MS) (H : Heap) (locs : List Loc) (ls : Array Slot), WD G A s (mw G ad u) H locs → lv_has ls 6 [(0, .ref (ad 0)), (1, .int x1), (2, .int x2)] → f_X4_split x1 x2 u = some z → W p l e rmX4_split s m args below meth c H locs 0 0 (MQ below (QW G (mw G ad z.2) A (some (.int z.1))) args s 0 0 A) (F0 m 0 ls []) := by
  obtain ⟨⟨hx, hb, hml, hown, hts⟩, hr, hlocks⟩ := id F
  intro x1 x2 u H locs ls hw hl h
  unfold f_X4_split at h
  refine lv_aload_n hx hb dX4_split_0 rfl (lv_at hl 0 rfl) ?_
  refine lv_iconst (v := 0) hx hb dX4_split_1 rfl ?_
  refine m_p0 F hw dX4_split_2 (fun H locs hw => ?_)
  refine lv_aload_n hx hb dX4_split_5 rfl (lv_at hl 0 rfl) ?_
  refine lv_iload_n hx hb dX4_split_6 rfl (lv_at hl 1 rfl) ?_
  obtain ⟨z1, e2, h⟩ := bnd h
  refine k_X4_isThing F hw e2 ⟨Nat.le_of_ble_eq_true rfl, Nat.le_of_ble_eq_true rfl⟩ ⟨Nat.zero_le _, Nat.zero_le _⟩ hl.1 (Nat.le_of_ble_eq_true rfl) dX4_split_7 ?_
  refine lv_if_eq (tgt := 32) hx hb dX4_split_10 rfl (fun c3 => ?_) (fun c3 => ?_)
  · replace h := itT h c3
    refine lv_bipush (v := (-3)) hx hb dX4_split_32 rfl ?_
    cases h
    exact retW_i F hw dX4_split_34
  · replace h := itF h c3
    refine lv_aload_n hx hb dX4_split_13 rfl (lv_at hl 0 rfl) ?_
    refine lv_iload_n hx hb dX4_split_14 rfl (lv_at hl 2 rfl) ?_
    obtain ⟨z4, e5, h⟩ := bnd h
    refine k_X4_isRow F hw e5 ⟨Nat.le_of_ble_eq_true rfl, Nat.le_of_ble_eq_true rfl⟩ ⟨Nat.zero_le _, Nat.zero_le _⟩ hl.1 (Nat.le_of_ble_eq_true rfl) dX4_split_15 ?_
    refine lv_if_eq (tgt := 32) hx hb dX4_split_18 rfl (fun c6 => ?_) (fun c6 => ?_)
    · replace h := itT h c6
      refine lv_bipush (v := (-3)) hx hb dX4_split_32 rfl ?_
      cases h
      exact retW_i F hw dX4_split_34
    · replace h := itF h c6
      refine lv_aload_n hx hb dX4_split_21 rfl (lv_at hl 0 rfl) ?_
      refine lv_iconst (v := 2) hx hb dX4_split_22 rfl ?_
      refine lv_iload_n hx hb dX4_split_23 rfl (lv_at hl 1 rfl) ?_
      refine lv_imul hx hb dX4_split_24 ?_
      obtain ⟨z7, e8, h⟩ := bnd h
      refine k_X4_rowWith F hw e8 ⟨Nat.le_of_ble_eq_true rfl, Nat.le_of_ble_eq_true rfl⟩ ⟨Nat.zero_le _, Nat.zero_le _⟩ hl.1 (Nat.le_of_ble_eq_true rfl) dX4_split_25 ?_
      refine lv_iload_n hx hb dX4_split_28 rfl (lv_at hl 2 rfl) ?_
      refine lv_icmp_ne (tgt := 35) hx hb dX4_split_29 rfl (fun c9 => ?_) (fun c9 => ?_)
      · replace h := itF h c9
        refine lv_aload_n hx hb dX4_split_35 rfl (lv_at hl 0 rfl) ?_
        refine lv_iconst (v := 2) hx hb dX4_split_36 rfl ?_
        refine lv_iload_n hx hb dX4_split_37 rfl (lv_at hl 1 rfl) ?_
        refine lv_imul hx hb dX4_split_38 ?_
        obtain ⟨z10, e11, h⟩ := bnd h
        refine k_X4_rowWith F hw e11 ⟨Nat.le_of_ble_eq_true rfl, Nat.le_of_ble_eq_true rfl⟩ ⟨Nat.zero_le _, Nat.zero_le _⟩ hl.1 (Nat.le_of_ble_eq_true rfl) dX4_split_39 ?_
        refine lv_istore_n (lv' := [(3, .int z10), (0, .ref (ad 0)), (1, .int x1), (2, .int x2)]) hx hb dX4_split_42 rfl hl (by decide) rfl (fun ls hl => ?_)
        refine lv_aload_n hx hb dX4_split_43 rfl (lv_at hl 1 rfl) ?_
        refine m_g2 F hw dX4_split_44 ?_
        refine lv_iload_n hx hb dX4_split_47 rfl (lv_at hl 0 rfl) ?_
        obtain ⟨g12, h⟩ := gd h
        refine m_l2 F hw g12 dX4_split_48 ?_
        refine lv_aload_n hx hb dX4_split_49 rfl (lv_at hl 1 rfl) ?_
        refine m_g2 F hw dX4_split_50 ?_
        refine lv_iload_n hx hb dX4_split_53 rfl (lv_at hl 3 rfl) ?_
        obtain ⟨g13, h⟩ := gd h
        refine m_l2 F hw g13 dX4_split_54 ?_
        refine lv_icmp_ne (tgt := 67) hx hb dX4_split_55 rfl (fun c14 => ?_) (fun c14 => ?_)
        · replace h := itF h c14
          refine lv_bipush (v := (-4)) hx hb dX4_split_67 rfl ?_
          cases h
          exact retW_i F hw dX4_split_69
        · replace h := itT h c14
          refine lv_aload_n hx hb dX4_split_58 rfl (lv_at hl 1 rfl) ?_
          refine lv_iload_n hx hb dX4_split_59 rfl (lv_at hl 0 rfl) ?_
          refine lv_iload_n hx hb dX4_split_60 rfl (lv_at hl 2 rfl) ?_
          obtain ⟨z15, e16, h⟩ := bnd h
          refine k_X4_depthOf F hw e16 ⟨Nat.le_of_ble_eq_true rfl, Nat.le_of_ble_eq_true rfl⟩ ⟨Nat.zero_le _, Nat.zero_le _⟩ hl.1 (Nat.le_of_ble_eq_true rfl) dX4_split_61 ?_
          refine lv_if_le (tgt := 70) hx hb dX4_split_64 rfl (fun c17 => ?_) (fun c17 => ?_)
          · replace h := itT h c17
            refine lv_aload_n hx hb dX4_split_70 rfl (lv_at hl 1 rfl) ?_
            refine lv_bipush (v := 8) hx hb dX4_split_71 rfl ?_
            obtain ⟨z18, e19, h⟩ := bnd h
            refine k_X4_save F hw e19 ⟨Nat.le_of_ble_eq_true rfl, Nat.le_of_ble_eq_true rfl⟩ ⟨Nat.zero_le _, Nat.zero_le _⟩ hl.1 (Nat.le_of_ble_eq_true rfl) dX4_split_73 (fun H locs hw => ?_)
            refine lv_aload_n hx hb dX4_split_76 rfl (lv_at hl 1 rfl) ?_
            refine lv_iload_n hx hb dX4_split_77 rfl (lv_at hl 0 rfl) ?_
            refine lv_iconst (v := 2) hx hb dX4_split_78 rfl ?_
            refine lv_iload_n hx hb dX4_split_79 rfl (lv_at hl 2 rfl) ?_
            refine lv_imul hx hb dX4_split_80 ?_
            obtain ⟨z20, e21, h⟩ := bnd h
            refine k_X4_placeOf F hw e21 ⟨Nat.le_of_ble_eq_true rfl, Nat.le_of_ble_eq_true rfl⟩ ⟨Nat.zero_le _, Nat.zero_le _⟩ hl.1 (Nat.le_of_ble_eq_true rfl) dX4_split_81 ?_
            refine lv_aload_n hx hb dX4_split_84 rfl (lv_at hl 1 rfl) ?_
            refine lv_iload_n hx hb dX4_split_85 rfl (lv_at hl 0 rfl) ?_
            refine lv_iload_n hx hb dX4_split_86 rfl (lv_at hl 2 rfl) ?_
            obtain ⟨z22, e23, h⟩ := bnd h
            refine k_X4_span F hw e23 ⟨Nat.le_of_ble_eq_true rfl, Nat.le_of_ble_eq_true rfl⟩ ⟨Nat.zero_le _, Nat.zero_le _⟩ hl.1 (Nat.le_of_ble_eq_true rfl) dX4_split_87 ?_
            refine lv_iadd hx hb dX4_split_90 ?_
            refine lv_istore (lv' := [(4, .int (z20 + z22)), (3, .int z10), (0, .ref (ad 0)), (1, .int x1), (2, .int x2)]) hx hb dX4_split_91 hl (by decide) rfl (fun ls hl => ?_)
            refine lv_aload_n hx hb dX4_split_93 rfl (lv_at hl 2 rfl) ?_
            refine lv_iload_n hx hb dX4_split_94 rfl (lv_at hl 1 rfl) ?_
            refine lv_iload hx hb dX4_split_95 (lv_at hl 0 rfl) ?_
            refine lv_aload_n hx hb dX4_split_97 rfl (lv_at hl 2 rfl) ?_
            refine m_g4 F hw dX4_split_98 ?_
            refine lv_iload_n hx hb dX4_split_101 rfl (lv_at hl 1 rfl) ?_
            obtain ⟨g24, h⟩ := gd h
            refine m_l4 F hw g24 dX4_split_102 ?_
            refine lv_iload hx hb dX4_split_103 (lv_at hl 0 rfl) ?_
            refine lv_isub hx hb dX4_split_105 ?_
            obtain ⟨z25, e26, h⟩ := bnd h
            refine k_X4_takeOut F hw e26 ⟨Nat.le_of_ble_eq_true rfl, Nat.le_of_ble_eq_true rfl⟩ ⟨Nat.zero_le _, Nat.zero_le _⟩ hl.1 (Nat.le_of_ble_eq_true rfl) dX4_split_106 (fun H locs hw => ?_)
            refine lv_istore (lv' := [(5, .int z25.1), (4, .int (z20 + z22)), (3, .int z10), (0, .ref (ad 0)), (1, .int x1), (2, .int x2)]) hx hb dX4_split_109 hl (by decide) rfl (fun ls hl => ?_)
            refine lv_aload_n hx hb dX4_split_111 rfl (lv_at hl 3 rfl) ?_
            refine lv_iload_n hx hb dX4_split_112 rfl (lv_at hl 5 rfl) ?_
            refine lv_aload_n hx hb dX4_split_113 rfl (lv_at hl 3 rfl) ?_
            refine m_g4 F hw dX4_split_114 ?_
            refine lv_iload_n hx hb dX4_split_117 rfl (lv_at hl 5 rfl) ?_
            obtain ⟨g27, h⟩ := gd h
            refine m_l4 F hw g27 dX4_split_118 ?_
            obtain ⟨z28, e29, h⟩ := bnd h
            refine k_X4_bring F hw e29 ⟨Nat.le_of_ble_eq_true rfl, Nat.le_of_ble_eq_true rfl⟩ ⟨Nat.zero_le _, Nat.zero_le _⟩ hl.1 (Nat.le_of_ble_eq_true rfl) dX4_split_119 (fun H locs hw => ?_)
            refine lv_if_ne (tgt := 128) hx hb dX4_split_122 rfl (fun c30 => ?_) (fun c30 => ?_)
            · replace h := itF h c30
              refine lv_aload_n hx hb dX4_split_128 rfl (lv_at hl 3 rfl) ?_
              obtain ⟨z31, e32, h⟩ := bnd h
              refine k_X4_keep F hw e32 ⟨Nat.le_of_ble_eq_true rfl, Nat.le_of_ble_eq_true rfl⟩ ⟨Nat.zero_le _, Nat.zero_le _⟩ hl.1 (Nat.le_of_ble_eq_true rfl) dX4_split_129 (fun H locs hw => ?_)
              refine lv_iload hx hb dX4_split_132 (lv_at hl 0 rfl) ?_
              cases h
              exact retW_i F hw dX4_split_134
            · replace h := itT h c30
              refine lv_bipush (v := (-5)) hx hb dX4_split_125 rfl ?_
              cases h
              exact retW_i F hw dX4_split_127
          · replace h := itF h c17
            refine lv_bipush (v := (-4)) hx hb dX4_split_67 rfl ?_
            cases h
            exact retW_i F hw dX4_split_69
      · replace h := itT h c9
        refine lv_bipush (v := (-3)) hx hb dX4_split_32 rfl ?_
        cases h
        exact retW_i F hw dX4_split_34
end
theorem c_X4_split {l : Launch} {G : GX} {ad : Nat → Nat} {x1 : Int32} {x2 : Int32} {u : MS} {z : Int32 × MS} (h : f_X4_split x1 x2 u = some z) : MW l yX4_split cX4_split 6 (some .int) rmX4_split G (mw G ad u) (mw G ad z.2) [.ref (ad 0), .int x1, .int x2] (some (.int z.1)) := MW.of (by decide) (Nat.le_of_ble_eq_true rfl) (fun p e s m below meth c ls F hw hl => w_X4_split_0 F _ _ _ _ _ _ hw hl h)
