theorem n0_58 : mNW RX0 58 2 := ⟨_, _, _, _, cf_2, (mG1 39 rfl rfl), (mG1 40 rfl rfl), (mG1 3 rfl rfl)⟩
theorem n5_23 : mNW RX5 23 3 := ⟨_, _, _, _, cf_3, (mG2 77 rfl rfl), (mG2 78 rfl rfl), (mG1 11 rfl rfl)⟩
theorem n7_9 : mNW RX7 9 4 := ⟨_, _, _, _, cf_4, (mG3 46 rfl rfl), (mG2 183 rfl rfl), (mG1 15 rfl rfl)⟩
theorem n7_9a : mQW RX7 9 "OathWalls$Moment" 4 := ⟨(mG3 46 rfl rfl), trivial, fun _ => rfl⟩
theorem n10_9 : mNW RX10 9 4 := ⟨_, _, _, _, cf_4, (mG2 182 rfl rfl), (mG2 183 rfl rfl), (mG1 15 rfl rfl)⟩
theorem n11_19 : mNW RX11 19 8 := ⟨_, _, _, _, cf_8, (mG1 192 rfl rfl), (mG1 193 rfl rfl), (mG1 4 rfl rfl)⟩
theorem n11_19a : mQW RX11 19 "OathWalls$Told" 5 := ⟨(mG1 192 rfl rfl), trivial, fun _ => rfl⟩
theorem n11_29 : mNW RX11 29 6 := ⟨_, _, _, _, cf_6, (mG1 225 rfl rfl), (mG1 226 rfl rfl), (mG1 5 rfl rfl)⟩
theorem n11_36 : mNW RX11 36 5 := ⟨_, _, _, _, cf_5, (mG2 71 rfl rfl), (mG2 72 rfl rfl), (mG1 10 rfl rfl)⟩
theorem n11_45 : mNW RX11 45 9 := ⟨_, _, _, _, cf_9, (mG2 127 rfl rfl), (mG2 128 rfl rfl), (mG1 12 rfl rfl)⟩
theorem n11_52 : mNW RX11 52 1 := ⟨_, _, _, _, cf_1, (mG2 166 rfl rfl), (mG2 167 rfl rfl), (mG1 13 rfl rfl)⟩
theorem n11_61 : mNW RX11 61 10 := ⟨_, _, _, _, cf_10, (mG2 176 rfl rfl), (mG2 177 rfl rfl), (mG1 14 rfl rfl)⟩
theorem n11_7 : mNW RX11 7 0 := ⟨_, _, _, _, cf_0, (mG1 33 rfl rfl), (mG1 34 rfl rfl), (mG1 2 rfl rfl)⟩
theorem n11_70 : mNW RX11 70 7 := ⟨_, _, _, _, cf_7, (mG3 40 rfl rfl), (mG3 41 rfl rfl), (mG1 16 rfl rfl)⟩
theorem n11_79 : mNW RX11 79 4 := ⟨_, _, _, _, cf_4, (mG3 93 rfl rfl), (mG2 183 rfl rfl), (mG1 15 rfl rfl)⟩
theorem n11_79a : mQW RX11 79 "OathWalls$Moment" 4 := ⟨(mG3 93 rfl rfl), trivial, fun _ => rfl⟩
theorem o11_1 : mOW RX11 1 := ⟨(mG1 30 rfl rfl), (mG1 31 rfl rfl), (mG1 32 rfl rfl)⟩
theorem o0_3 : mOW RX0 3 := ⟨(mG1 38 rfl rfl), (mG1 31 rfl rfl), (mG1 32 rfl rfl)⟩
theorem o1_3 : mOW RX1 3 := ⟨(mG2 171 rfl rfl), (mG1 31 rfl rfl), (mG1 32 rfl rfl)⟩
theorem o2_3 : mOW RX2 3 := ⟨(mG1 44 rfl rfl), (mG1 31 rfl rfl), (mG1 32 rfl rfl)⟩
theorem o3_1 : mOW RX3 1 := ⟨(mG2 82 rfl rfl), (mG1 31 rfl rfl), (mG1 32 rfl rfl)⟩
theorem o4_1 : mOW RX4 1 := ⟨(mG2 187 rfl rfl), (mG1 31 rfl rfl), (mG1 32 rfl rfl)⟩
theorem o5_3 : mOW RX5 3 := ⟨(mG2 76 rfl rfl), (mG1 31 rfl rfl), (mG1 32 rfl rfl)⟩
theorem o7_3 : mOW RX7 3 := ⟨(mG3 45 rfl rfl), (mG1 31 rfl rfl), (mG1 32 rfl rfl)⟩
theorem o8_3 : mOW RX8 3 := ⟨(mG1 197 rfl rfl), (mG1 31 rfl rfl), (mG1 32 rfl rfl)⟩
theorem o9_3 : mOW RX9 3 := ⟨(mG2 132 rfl rfl), (mG1 31 rfl rfl), (mG1 32 rfl rfl)⟩
theorem o10_3 : mOW RX10 3 := ⟨(mG2 181 rfl rfl), (mG1 31 rfl rfl), (mG1 32 rfl rfl)⟩
theorem o12_1 : mOW RX12 1 := ⟨(mG6 72 rfl rfl), (mG1 31 rfl rfl), (mG1 32 rfl rfl)⟩
theorem z11_9 : mMN RX11 9 yX0_init "OathWalls" cX0_init 1 0 := ⟨by decide +kernel, (mG1 37 rfl rfl), (mG1 2 rfl rfl), ⟨by decide, by decide⟩, by decide +kernel⟩
theorem z11_21 : mMN RX11 21 yX8_init "OathWalls" cX8_init 1 0 := ⟨by decide +kernel, (mG1 196 rfl rfl), (mG1 4 rfl rfl), ⟨by decide, by decide⟩, by decide +kernel⟩
theorem z11_47 : mMN RX11 47 yX9_init "OathWalls" cX9_init 1 0 := ⟨by decide +kernel, (mG2 131 rfl rfl), (mG1 12 rfl rfl), ⟨by decide, by decide⟩, by decide +kernel⟩
theorem z11_81 : mMN RX11 81 yX4_init "OathWalls" cX4_init 1 0 := ⟨by decide +kernel, (mG2 186 rfl rfl), (mG1 15 rfl rfl), ⟨by decide, by decide⟩, by decide +kernel⟩
theorem z0_60 : mMN RX0 60 yX2_init "OathWalls" cX2_init 1 0 := ⟨by decide +kernel, (mG1 43 rfl rfl), (mG1 3 rfl rfl), ⟨by decide, by decide⟩, by decide +kernel⟩
theorem z7_11 : mMN RX7 11 yX4_init "OathWalls" cX4_init 1 0 := ⟨by decide +kernel, (mG2 186 rfl rfl), (mG1 15 rfl rfl), ⟨by decide, by decide⟩, by decide +kernel⟩
theorem z10_11 : mMN RX10 11 yX4_init "OathWalls" cX4_init 1 0 := ⟨by decide +kernel, (mG2 186 rfl rfl), (mG1 15 rfl rfl), ⟨by decide, by decide⟩, by decide +kernel⟩
theorem ii_X0_init : Cond.instanceMethod yX0_init ∈ mGood ∧ yX0_init.name = "<init>" := ⟨(mG1 36 rfl rfl), rfl⟩
theorem ii_X10_init : Cond.instanceMethod yX10_init ∈ mGood ∧ yX10_init.name = "<init>" := ⟨(mG2 179 rfl rfl), rfl⟩
theorem ii_X1_init : Cond.instanceMethod yX1_init ∈ mGood ∧ yX1_init.name = "<init>" := ⟨(mG2 169 rfl rfl), rfl⟩
theorem ii_X2_init : Cond.instanceMethod yX2_init ∈ mGood ∧ yX2_init.name = "<init>" := ⟨(mG1 42 rfl rfl), rfl⟩
theorem ii_X3_init : Cond.instanceMethod yX3_init ∈ mGood ∧ yX3_init.name = "<init>" := ⟨(mG2 80 rfl rfl), rfl⟩
theorem ii_X4_init : Cond.instanceMethod yX4_init ∈ mGood ∧ yX4_init.name = "<init>" := ⟨(mG2 185 rfl rfl), rfl⟩
theorem ii_X5_init : Cond.instanceMethod yX5_init ∈ mGood ∧ yX5_init.name = "<init>" := ⟨(mG2 74 rfl rfl), rfl⟩
theorem ii_X6_init : Cond.instanceMethod yX6_init ∈ mGood ∧ yX6_init.name = "<init>" := ⟨(mG1 228 rfl rfl), rfl⟩
theorem ii_X7_init : Cond.instanceMethod yX7_init ∈ mGood ∧ yX7_init.name = "<init>" := ⟨(mG3 43 rfl rfl), rfl⟩
theorem ii_X8_init : Cond.instanceMethod yX8_init ∈ mGood ∧ yX8_init.name = "<init>" := ⟨(mG1 195 rfl rfl), rfl⟩
theorem ii_X9_init : Cond.instanceMethod yX9_init ∈ mGood ∧ yX9_init.name = "<init>" := ⟨(mG2 130 rfl rfl), rfl⟩
theorem ac_int : Cond.arrayClass .int ∈ mGood := (mG1 77 rfl rfl)
theorem ac_long : Cond.arrayClass .long ∈ mGood := (mG1 76 rfl rfl)
theorem ac_byte : Cond.arrayClass .byte ∈ mGood := (mG2 70 rfl rfl)
theorem ac_boolean : Cond.arrayClass .boolean ∈ mGood := (mG7 33 rfl rfl)
theorem ao_Moment {G : mg} : ∀ U, mK G U → va_AO "OathWalls$Moment" U := fun _ h => h.2.2.2.2.1
theorem ao_Told {G : mg} : ∀ U, mK G U → va_AO "OathWalls$Told" U := fun _ h => h.2.2.2.2.2.1
theorem kb_50 : (Int8.ofInt 50).toInt32 = 50 := by decide +kernel
theorem kb_64 : (Int8.ofInt 64).toInt32 = 64 := by decide +kernel
theorem kb_110 : (Int8.ofInt 110).toInt32 = 110 := by decide +kernel
theorem kl_2 : Int32.ofNat 2 = 2 := by decide +kernel
theorem kl_3 : Int32.ofNat 3 = 3 := by decide +kernel
theorem kl_4 : Int32.ofNat 4 = 4 := by decide +kernel
theorem kl_5 : Int32.ofNat 5 = 5 := by decide +kernel
theorem kl_7 : Int32.ofNat 7 = 7 := by decide +kernel
theorem kl_8 : Int32.ofNat 8 = 8 := by decide +kernel
theorem kl_11 : Int32.ofNat 11 = 11 := by decide +kernel
theorem kl_12 : Int32.ofNat 12 = 12 := by decide +kernel
theorem kl_16 : Int32.ofNat 16 = 16 := by decide +kernel
theorem kl_22 : Int32.ofNat 22 = 22 := by decide +kernel
theorem kl_40 : Int32.ofNat 40 = 40 := by decide +kernel
theorem kl_50 : Int32.ofNat 50 = 50 := by decide +kernel
theorem kl_240 : Int32.ofNat 240 = 240 := by decide +kernel
theorem kl_384 : Int32.ofNat 384 = 384 := by decide +kernel
theorem kl_1024 : Int32.ofNat 1024 = 1024 := by decide +kernel
theorem kl_2000 : Int32.ofNat 2000 = 2000 := by decide +kernel
theorem ks_240 : (Int16.ofInt 240).toInt32 = 240 := by decide +kernel
theorem ks_384 : (Int16.ofInt 384).toInt32 = 384 := by decide +kernel
theorem ks_1024 : (Int16.ofInt 1024).toInt32 = 1024 := by decide +kernel
theorem ks_2000 : (Int16.ofInt 2000).toInt32 = 2000 := by decide +kernel
