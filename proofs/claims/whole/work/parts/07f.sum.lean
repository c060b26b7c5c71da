theorem all_cut {f : Row → Bool} {L : List Row} (k : Nat) (h1 : (L.take k).all f = true) (h2 : (L.drop k).all f = true) : L.all f = true := by
  rw [← List.take_append_drop k L, List.all_append, h1, h2]; rfl
theorem tl_end : ((tab 288).drop 1160).all (okRow 288) = true := by decide +kernel
theorem te28 : ((tab 288).drop 1120).all (okRow 288) = true := all_cut 40 tl28 (by rw [List.drop_drop]; exact tl_end)
theorem te27 : ((tab 288).drop 1080).all (okRow 288) = true := all_cut 40 tl27 (by rw [List.drop_drop]; exact te28)
theorem te26 : ((tab 288).drop 1040).all (okRow 288) = true := all_cut 40 tl26 (by rw [List.drop_drop]; exact te27)
theorem te25 : ((tab 288).drop 1000).all (okRow 288) = true := all_cut 40 tl25 (by rw [List.drop_drop]; exact te26)
theorem te24 : ((tab 288).drop 960).all (okRow 288) = true := all_cut 40 tl24 (by rw [List.drop_drop]; exact te25)
theorem te23 : ((tab 288).drop 920).all (okRow 288) = true := all_cut 40 tl23 (by rw [List.drop_drop]; exact te24)
theorem te22 : ((tab 288).drop 880).all (okRow 288) = true := all_cut 40 tl22 (by rw [List.drop_drop]; exact te23)
theorem te21 : ((tab 288).drop 840).all (okRow 288) = true := all_cut 40 tl21 (by rw [List.drop_drop]; exact te22)
theorem te20 : ((tab 288).drop 800).all (okRow 288) = true := all_cut 40 tl20 (by rw [List.drop_drop]; exact te21)
theorem te19 : ((tab 288).drop 760).all (okRow 288) = true := all_cut 40 tl19 (by rw [List.drop_drop]; exact te20)
theorem te18 : ((tab 288).drop 720).all (okRow 288) = true := all_cut 40 tl18 (by rw [List.drop_drop]; exact te19)
theorem te17 : ((tab 288).drop 680).all (okRow 288) = true := all_cut 40 tl17 (by rw [List.drop_drop]; exact te18)
theorem te16 : ((tab 288).drop 640).all (okRow 288) = true := all_cut 40 tl16 (by rw [List.drop_drop]; exact te17)
theorem te15 : ((tab 288).drop 600).all (okRow 288) = true := all_cut 40 tl15 (by rw [List.drop_drop]; exact te16)
theorem te14 : ((tab 288).drop 560).all (okRow 288) = true := all_cut 40 tl14 (by rw [List.drop_drop]; exact te15)
theorem te13 : ((tab 288).drop 520).all (okRow 288) = true := all_cut 40 tl13 (by rw [List.drop_drop]; exact te14)
theorem te12 : ((tab 288).drop 480).all (okRow 288) = true := all_cut 40 tl12 (by rw [List.drop_drop]; exact te13)
theorem te11 : ((tab 288).drop 440).all (okRow 288) = true := all_cut 40 tl11 (by rw [List.drop_drop]; exact te12)
theorem te10 : ((tab 288).drop 400).all (okRow 288) = true := all_cut 40 tl10 (by rw [List.drop_drop]; exact te11)
theorem te9 : ((tab 288).drop 360).all (okRow 288) = true := all_cut 40 tl9 (by rw [List.drop_drop]; exact te10)
theorem te8 : ((tab 288).drop 320).all (okRow 288) = true := all_cut 40 tl8 (by rw [List.drop_drop]; exact te9)
theorem te7 : ((tab 288).drop 280).all (okRow 288) = true := all_cut 40 tl7 (by rw [List.drop_drop]; exact te8)
theorem te6 : ((tab 288).drop 240).all (okRow 288) = true := all_cut 40 tl6 (by rw [List.drop_drop]; exact te7)
theorem te5 : ((tab 288).drop 200).all (okRow 288) = true := all_cut 40 tl5 (by rw [List.drop_drop]; exact te6)
theorem te4 : ((tab 288).drop 160).all (okRow 288) = true := all_cut 40 tl4 (by rw [List.drop_drop]; exact te5)
theorem te3 : ((tab 288).drop 120).all (okRow 288) = true := all_cut 40 tl3 (by rw [List.drop_drop]; exact te4)
theorem te2 : ((tab 288).drop 80).all (okRow 288) = true := all_cut 40 tl2 (by rw [List.drop_drop]; exact te3)
theorem te1 : ((tab 288).drop 40).all (okRow 288) = true := all_cut 40 tl1 (by rw [List.drop_drop]; exact te2)
theorem te0 : ((tab 288).drop 0).all (okRow 288) = true := all_cut 40 tl0 (by rw [List.drop_drop]; exact te1)
theorem tk288 : (tab 288).all (okRow 288) = true := te0
theorem om0 : ∀ M, M < 16 → okM (0 + M) = true := by decide +kernel
theorem om1 : ∀ M, M < 16 → okM (16 + M) = true := by decide +kernel
theorem om2 : ∀ M, M < 16 → okM (32 + M) = true := by decide +kernel
theorem om3 : ∀ M, M < 16 → okM (48 + M) = true := by decide +kernel
theorem om4 : ∀ M, M < 16 → okM (64 + M) = true := by decide +kernel
theorem om5 : ∀ M, M < 16 → okM (80 + M) = true := by decide +kernel
theorem om6 : ∀ M, M < 16 → okM (96 + M) = true := by decide +kernel
theorem om7 : ∀ M, M < 16 → okM (112 + M) = true := by decide +kernel
theorem om8 : ∀ M, M < 16 → okM (128 + M) = true := by decide +kernel
theorem om9 : ∀ M, M < 16 → okM (144 + M) = true := by decide +kernel
theorem om10 : ∀ M, M < 16 → okM (160 + M) = true := by decide +kernel
theorem om11 : ∀ M, M < 16 → okM (176 + M) = true := by decide +kernel
theorem om12 : ∀ M, M < 16 → okM (192 + M) = true := by decide +kernel
theorem om13 : ∀ M, M < 16 → okM (208 + M) = true := by decide +kernel
theorem om14 : ∀ M, M < 16 → okM (224 + M) = true := by decide +kernel
theorem om15 : ∀ M, M < 16 → okM (240 + M) = true := by decide +kernel
theorem om16 : ∀ M, M < 16 → okM (256 + M) = true := by decide +kernel
theorem om17 : ∀ M, M < 16 → okM (272 + M) = true := by decide +kernel
theorem om_all : ∀ M, M < 288 → okM M = true := by
  intro M h
  by_cases h0 : M < 16
  · have q := om0 (M - 0) (by omega)
    rwa [show 0 + (M - 0) = M by omega] at q
  by_cases h1 : M < 32
  · have q := om1 (M - 16) (by omega)
    rwa [show 16 + (M - 16) = M by omega] at q
  by_cases h2 : M < 48
  · have q := om2 (M - 32) (by omega)
    rwa [show 32 + (M - 32) = M by omega] at q
  by_cases h3 : M < 64
  · have q := om3 (M - 48) (by omega)
    rwa [show 48 + (M - 48) = M by omega] at q
  by_cases h4 : M < 80
  · have q := om4 (M - 64) (by omega)
    rwa [show 64 + (M - 64) = M by omega] at q
  by_cases h5 : M < 96
  · have q := om5 (M - 80) (by omega)
    rwa [show 80 + (M - 80) = M by omega] at q
  by_cases h6 : M < 112
  · have q := om6 (M - 96) (by omega)
    rwa [show 96 + (M - 96) = M by omega] at q
  by_cases h7 : M < 128
  · have q := om7 (M - 112) (by omega)
    rwa [show 112 + (M - 112) = M by omega] at q
  by_cases h8 : M < 144
  · have q := om8 (M - 128) (by omega)
    rwa [show 128 + (M - 128) = M by omega] at q
  by_cases h9 : M < 160
  · have q := om9 (M - 144) (by omega)
    rwa [show 144 + (M - 144) = M by omega] at q
  by_cases h10 : M < 176
  · have q := om10 (M - 160) (by omega)
    rwa [show 160 + (M - 160) = M by omega] at q
  by_cases h11 : M < 192
  · have q := om11 (M - 176) (by omega)
    rwa [show 176 + (M - 176) = M by omega] at q
  by_cases h12 : M < 208
  · have q := om12 (M - 192) (by omega)
    rwa [show 192 + (M - 192) = M by omega] at q
  by_cases h13 : M < 224
  · have q := om13 (M - 208) (by omega)
    rwa [show 208 + (M - 208) = M by omega] at q
  by_cases h14 : M < 240
  · have q := om14 (M - 224) (by omega)
    rwa [show 224 + (M - 224) = M by omega] at q
  by_cases h15 : M < 256
  · have q := om15 (M - 240) (by omega)
    rwa [show 240 + (M - 240) = M by omega] at q
  by_cases h16 : M < 272
  · have q := om16 (M - 256) (by omega)
    rwa [show 256 + (M - 256) = M by omega] at q
  by_cases h17 : M < 288
  · have q := om17 (M - 272) (by omega)
    rwa [show 272 + (M - 272) = M by omega] at q
  omega
theorem tk_all : ∀ M, M < 289 → (tab M).all (okRow M) = true := fun M h => match M, h with
  | 0, _ => tk0
  | 1, _ => tk1
  | 2, _ => tk2
  | 3, _ => tk3
  | 4, _ => tk4
  | 5, _ => tk5
  | 6, _ => tk6
  | 7, _ => tk7
  | 8, _ => tk8
  | 9, _ => tk9
  | 10, _ => tk10
  | 11, _ => tk11
  | 12, _ => tk12
  | 13, _ => tk13
  | 14, _ => tk14
  | 15, _ => tk15
  | 16, _ => tk16
  | 17, _ => tk17
  | 18, _ => tk18
  | 19, _ => tk19
  | 20, _ => tk20
  | 21, _ => tk21
  | 22, _ => tk22
  | 23, _ => tk23
  | 24, _ => tk24
  | 25, _ => tk25
  | 26, _ => tk26
  | 27, _ => tk27
  | 28, _ => tk28
  | 29, _ => tk29
  | 30, _ => tk30
  | 31, _ => tk31
  | 32, _ => tk32
  | 33, _ => tk33
  | 34, _ => tk34
  | 35, _ => tk35
  | 36, _ => tk36
  | 37, _ => tk37
  | 38, _ => tk38
  | 39, _ => tk39
  | 40, _ => tk40
  | 41, _ => tk41
  | 42, _ => tk42
  | 43, _ => tk43
  | 44, _ => tk44
  | 45, _ => tk45
  | 46, _ => tk46
  | 47, _ => tk47
  | 48, _ => tk48
  | 49, _ => tk49
  | 50, _ => tk50
  | 51, _ => tk51
  | 52, _ => tk52
  | 53, _ => tk53
  | 54, _ => tk54
  | 55, _ => tk55
  | 56, _ => tk56
  | 57, _ => tk57
  | 58, _ => tk58
  | 59, _ => tk59
  | 60, _ => tk60
  | 61, _ => tk61
  | 62, _ => tk62
  | 63, _ => tk63
  | 64, _ => tk64
  | 65, _ => tk65
  | 66, _ => tk66
  | 67, _ => tk67
  | 68, _ => tk68
  | 69, _ => tk69
  | 70, _ => tk70
  | 71, _ => tk71
  | 72, _ => tk72
  | 73, _ => tk73
  | 74, _ => tk74
  | 75, _ => tk75
  | 76, _ => tk76
  | 77, _ => tk77
  | 78, _ => tk78
  | 79, _ => tk79
  | 80, _ => tk80
  | 81, _ => tk81
  | 82, _ => tk82
  | 83, _ => tk83
  | 84, _ => tk84
  | 85, _ => tk85
  | 86, _ => tk86
  | 87, _ => tk87
  | 88, _ => tk88
  | 89, _ => tk89
  | 90, _ => tk90
  | 91, _ => tk91
  | 92, _ => tk92
  | 93, _ => tk93
  | 94, _ => tk94
  | 95, _ => tk95
  | 96, _ => tk96
  | 97, _ => tk97
  | 98, _ => tk98
  | 99, _ => tk99
  | 100, _ => tk100
  | 101, _ => tk101
  | 102, _ => tk102
  | 103, _ => tk103
  | 104, _ => tk104
  | 105, _ => tk105
  | 106, _ => tk106
  | 107, _ => tk107
  | 108, _ => tk108
  | 109, _ => tk109
  | 110, _ => tk110
  | 111, _ => tk111
  | 112, _ => tk112
  | 113, _ => tk113
  | 114, _ => tk114
  | 115, _ => tk115
  | 116, _ => tk116
  | 117, _ => tk117
  | 118, _ => tk118
  | 119, _ => tk119
  | 120, _ => tk120
  | 121, _ => tk121
  | 122, _ => tk122
  | 123, _ => tk123
  | 124, _ => tk124
  | 125, _ => tk125
  | 126, _ => tk126
  | 127, _ => tk127
  | 128, _ => tk128
  | 129, _ => tk129
  | 130, _ => tk130
  | 131, _ => tk131
  | 132, _ => tk132
  | 133, _ => tk133
  | 134, _ => tk134
  | 135, _ => tk135
  | 136, _ => tk136
  | 137, _ => tk137
  | 138, _ => tk138
  | 139, _ => tk139
  | 140, _ => tk140
  | 141, _ => tk141
  | 142, _ => tk142
  | 143, _ => tk143
  | 144, _ => tk144
  | 145, _ => tk145
  | 146, _ => tk146
  | 147, _ => tk147
  | 148, _ => tk148
  | 149, _ => tk149
  | 150, _ => tk150
  | 151, _ => tk151
  | 152, _ => tk152
  | 153, _ => tk153
  | 154, _ => tk154
  | 155, _ => tk155
  | 156, _ => tk156
  | 157, _ => tk157
  | 158, _ => tk158
  | 159, _ => tk159
  | 160, _ => tk160
  | 161, _ => tk161
  | 162, _ => tk162
  | 163, _ => tk163
  | 164, _ => tk164
  | 165, _ => tk165
  | 166, _ => tk166
  | 167, _ => tk167
  | 168, _ => tk168
  | 169, _ => tk169
  | 170, _ => tk170
  | 171, _ => tk171
  | 172, _ => tk172
  | 173, _ => tk173
  | 174, _ => tk174
  | 175, _ => tk175
  | 176, _ => tk176
  | 177, _ => tk177
  | 178, _ => tk178
  | 179, _ => tk179
  | 180, _ => tk180
  | 181, _ => tk181
  | 182, _ => tk182
  | 183, _ => tk183
  | 184, _ => tk184
  | 185, _ => tk185
  | 186, _ => tk186
  | 187, _ => tk187
  | 188, _ => tk188
  | 189, _ => tk189
  | 190, _ => tk190
  | 191, _ => tk191
  | 192, _ => tk192
  | 193, _ => tk193
  | 194, _ => tk194
  | 195, _ => tk195
  | 196, _ => tk196
  | 197, _ => tk197
  | 198, _ => tk198
  | 199, _ => tk199
  | 200, _ => tk200
  | 201, _ => tk201
  | 202, _ => tk202
  | 203, _ => tk203
  | 204, _ => tk204
  | 205, _ => tk205
  | 206, _ => tk206
  | 207, _ => tk207
  | 208, _ => tk208
  | 209, _ => tk209
  | 210, _ => tk210
  | 211, _ => tk211
  | 212, _ => tk212
  | 213, _ => tk213
  | 214, _ => tk214
  | 215, _ => tk215
  | 216, _ => tk216
  | 217, _ => tk217
  | 218, _ => tk218
  | 219, _ => tk219
  | 220, _ => tk220
  | 221, _ => tk221
  | 222, _ => tk222
  | 223, _ => tk223
  | 224, _ => tk224
  | 225, _ => tk225
  | 226, _ => tk226
  | 227, _ => tk227
  | 228, _ => tk228
  | 229, _ => tk229
  | 230, _ => tk230
  | 231, _ => tk231
  | 232, _ => tk232
  | 233, _ => tk233
  | 234, _ => tk234
  | 235, _ => tk235
  | 236, _ => tk236
  | 237, _ => tk237
  | 238, _ => tk238
  | 239, _ => tk239
  | 240, _ => tk240
  | 241, _ => tk241
  | 242, _ => tk242
  | 243, _ => tk243
  | 244, _ => tk244
  | 245, _ => tk245
  | 246, _ => tk246
  | 247, _ => tk247
  | 248, _ => tk248
  | 249, _ => tk249
  | 250, _ => tk250
  | 251, _ => tk251
  | 252, _ => tk252
  | 253, _ => tk253
  | 254, _ => tk254
  | 255, _ => tk255
  | 256, _ => tk256
  | 257, _ => tk257
  | 258, _ => tk258
  | 259, _ => tk259
  | 260, _ => tk260
  | 261, _ => tk261
  | 262, _ => tk262
  | 263, _ => tk263
  | 264, _ => tk264
  | 265, _ => tk265
  | 266, _ => tk266
  | 267, _ => tk267
  | 268, _ => tk268
  | 269, _ => tk269
  | 270, _ => tk270
  | 271, _ => tk271
  | 272, _ => tk272
  | 273, _ => tk273
  | 274, _ => tk274
  | 275, _ => tk275
  | 276, _ => tk276
  | 277, _ => tk277
  | 278, _ => tk278
  | 279, _ => tk279
  | 280, _ => tk280
  | 281, _ => tk281
  | 282, _ => tk282
  | 283, _ => tk283
  | 284, _ => tk284
  | 285, _ => tk285
  | 286, _ => tk286
  | 287, _ => tk287
  | 288, _ => tk288
  | n + 289, h => absurd h (by omega)
theorem cw0 : wd (mn 0 3) = some (.code (mname 0) (mcode 0) (mmax 0) (mret 0)) := rfl
theorem cw1 : wd (mn 1 3) = some (.code (mname 1) (mcode 1) (mmax 1) (mret 1)) := rfl
theorem cw2 : wd (mn 2 3) = some (.code (mname 2) (mcode 2) (mmax 2) (mret 2)) := rfl
theorem cw3 : wd (mn 3 3) = some (.code (mname 3) (mcode 3) (mmax 3) (mret 3)) := rfl
theorem cw4 : wd (mn 4 3) = some (.code (mname 4) (mcode 4) (mmax 4) (mret 4)) := rfl
theorem cw5 : wd (mn 5 3) = some (.code (mname 5) (mcode 5) (mmax 5) (mret 5)) := rfl
theorem cw6 : wd (mn 6 3) = some (.code (mname 6) (mcode 6) (mmax 6) (mret 6)) := rfl
theorem cw7 : wd (mn 7 3) = some (.code (mname 7) (mcode 7) (mmax 7) (mret 7)) := rfl
theorem cw8 : wd (mn 8 3) = some (.code (mname 8) (mcode 8) (mmax 8) (mret 8)) := rfl
theorem cw9 : wd (mn 9 3) = some (.code (mname 9) (mcode 9) (mmax 9) (mret 9)) := rfl
theorem cw10 : wd (mn 10 3) = some (.code (mname 10) (mcode 10) (mmax 10) (mret 10)) := rfl
theorem cw11 : wd (mn 11 3) = some (.code (mname 11) (mcode 11) (mmax 11) (mret 11)) := rfl
theorem cw12 : wd (mn 12 3) = some (.code (mname 12) (mcode 12) (mmax 12) (mret 12)) := rfl
theorem cw13 : wd (mn 13 3) = some (.code (mname 13) (mcode 13) (mmax 13) (mret 13)) := rfl
theorem cw14 : wd (mn 14 3) = some (.code (mname 14) (mcode 14) (mmax 14) (mret 14)) := rfl
theorem cw15 : wd (mn 15 3) = some (.code (mname 15) (mcode 15) (mmax 15) (mret 15)) := rfl
theorem cw16 : wd (mn 16 3) = some (.code (mname 16) (mcode 16) (mmax 16) (mret 16)) := rfl
theorem cw17 : wd (mn 17 3) = some (.code (mname 17) (mcode 17) (mmax 17) (mret 17)) := rfl
theorem cw18 : wd (mn 18 3) = some (.code (mname 18) (mcode 18) (mmax 18) (mret 18)) := rfl
theorem cw19 : wd (mn 19 3) = some (.code (mname 19) (mcode 19) (mmax 19) (mret 19)) := rfl
theorem cw20 : wd (mn 20 3) = some (.code (mname 20) (mcode 20) (mmax 20) (mret 20)) := rfl
theorem cw21 : wd (mn 21 3) = some (.code (mname 21) (mcode 21) (mmax 21) (mret 21)) := rfl
theorem cw22 : wd (mn 22 3) = some (.code (mname 22) (mcode 22) (mmax 22) (mret 22)) := rfl
theorem cw23 : wd (mn 23 3) = some (.code (mname 23) (mcode 23) (mmax 23) (mret 23)) := rfl
theorem cw24 : wd (mn 24 3) = some (.code (mname 24) (mcode 24) (mmax 24) (mret 24)) := rfl
theorem cw25 : wd (mn 25 3) = some (.code (mname 25) (mcode 25) (mmax 25) (mret 25)) := rfl
theorem cw26 : wd (mn 26 3) = some (.code (mname 26) (mcode 26) (mmax 26) (mret 26)) := rfl
theorem cw27 : wd (mn 27 3) = some (.code (mname 27) (mcode 27) (mmax 27) (mret 27)) := rfl
theorem cw28 : wd (mn 28 3) = some (.code (mname 28) (mcode 28) (mmax 28) (mret 28)) := rfl
theorem cw29 : wd (mn 29 3) = some (.code (mname 29) (mcode 29) (mmax 29) (mret 29)) := rfl
theorem cw30 : wd (mn 30 3) = some (.code (mname 30) (mcode 30) (mmax 30) (mret 30)) := rfl
theorem cw31 : wd (mn 31 3) = some (.code (mname 31) (mcode 31) (mmax 31) (mret 31)) := rfl
theorem cw32 : wd (mn 32 3) = some (.code (mname 32) (mcode 32) (mmax 32) (mret 32)) := rfl
theorem cw33 : wd (mn 33 3) = some (.code (mname 33) (mcode 33) (mmax 33) (mret 33)) := rfl
theorem cw34 : wd (mn 34 3) = some (.code (mname 34) (mcode 34) (mmax 34) (mret 34)) := rfl
theorem cw35 : wd (mn 35 3) = some (.code (mname 35) (mcode 35) (mmax 35) (mret 35)) := rfl
theorem cw36 : wd (mn 36 3) = some (.code (mname 36) (mcode 36) (mmax 36) (mret 36)) := rfl
theorem cw37 : wd (mn 37 3) = some (.code (mname 37) (mcode 37) (mmax 37) (mret 37)) := rfl
theorem cw38 : wd (mn 38 3) = some (.code (mname 38) (mcode 38) (mmax 38) (mret 38)) := rfl
theorem cw39 : wd (mn 39 3) = some (.code (mname 39) (mcode 39) (mmax 39) (mret 39)) := rfl
theorem cw40 : wd (mn 40 3) = some (.code (mname 40) (mcode 40) (mmax 40) (mret 40)) := rfl
theorem cw41 : wd (mn 41 3) = some (.code (mname 41) (mcode 41) (mmax 41) (mret 41)) := rfl
theorem cw42 : wd (mn 42 3) = some (.code (mname 42) (mcode 42) (mmax 42) (mret 42)) := rfl
theorem cw43 : wd (mn 43 3) = some (.code (mname 43) (mcode 43) (mmax 43) (mret 43)) := rfl
theorem cw44 : wd (mn 44 3) = some (.code (mname 44) (mcode 44) (mmax 44) (mret 44)) := rfl
theorem cw45 : wd (mn 45 3) = some (.code (mname 45) (mcode 45) (mmax 45) (mret 45)) := rfl
theorem cw46 : wd (mn 46 3) = some (.code (mname 46) (mcode 46) (mmax 46) (mret 46)) := rfl
theorem cw47 : wd (mn 47 3) = some (.code (mname 47) (mcode 47) (mmax 47) (mret 47)) := rfl
theorem cw48 : wd (mn 48 3) = some (.code (mname 48) (mcode 48) (mmax 48) (mret 48)) := rfl
theorem cw49 : wd (mn 49 3) = some (.code (mname 49) (mcode 49) (mmax 49) (mret 49)) := rfl
theorem cw50 : wd (mn 50 3) = some (.code (mname 50) (mcode 50) (mmax 50) (mret 50)) := rfl
theorem cw51 : wd (mn 51 3) = some (.code (mname 51) (mcode 51) (mmax 51) (mret 51)) := rfl
theorem cw52 : wd (mn 52 3) = some (.code (mname 52) (mcode 52) (mmax 52) (mret 52)) := rfl
theorem cw53 : wd (mn 53 3) = some (.code (mname 53) (mcode 53) (mmax 53) (mret 53)) := rfl
theorem cw54 : wd (mn 54 3) = some (.code (mname 54) (mcode 54) (mmax 54) (mret 54)) := rfl
theorem cw55 : wd (mn 55 3) = some (.code (mname 55) (mcode 55) (mmax 55) (mret 55)) := rfl
theorem cw56 : wd (mn 56 3) = some (.code (mname 56) (mcode 56) (mmax 56) (mret 56)) := rfl
theorem cw57 : wd (mn 57 3) = some (.code (mname 57) (mcode 57) (mmax 57) (mret 57)) := rfl
theorem cw58 : wd (mn 58 3) = some (.code (mname 58) (mcode 58) (mmax 58) (mret 58)) := rfl
theorem cw59 : wd (mn 59 3) = some (.code (mname 59) (mcode 59) (mmax 59) (mret 59)) := rfl
theorem cw60 : wd (mn 60 3) = some (.code (mname 60) (mcode 60) (mmax 60) (mret 60)) := rfl
theorem cw61 : wd (mn 61 3) = some (.code (mname 61) (mcode 61) (mmax 61) (mret 61)) := rfl
theorem cw62 : wd (mn 62 3) = some (.code (mname 62) (mcode 62) (mmax 62) (mret 62)) := rfl
theorem cw63 : wd (mn 63 3) = some (.code (mname 63) (mcode 63) (mmax 63) (mret 63)) := rfl
theorem cw64 : wd (mn 64 3) = some (.code (mname 64) (mcode 64) (mmax 64) (mret 64)) := rfl
theorem cw65 : wd (mn 65 3) = some (.code (mname 65) (mcode 65) (mmax 65) (mret 65)) := rfl
theorem cw66 : wd (mn 66 3) = some (.code (mname 66) (mcode 66) (mmax 66) (mret 66)) := rfl
theorem cw67 : wd (mn 67 3) = some (.code (mname 67) (mcode 67) (mmax 67) (mret 67)) := rfl
theorem cw68 : wd (mn 68 3) = some (.code (mname 68) (mcode 68) (mmax 68) (mret 68)) := rfl
theorem cw69 : wd (mn 69 3) = some (.code (mname 69) (mcode 69) (mmax 69) (mret 69)) := rfl
theorem cw70 : wd (mn 70 3) = some (.code (mname 70) (mcode 70) (mmax 70) (mret 70)) := rfl
theorem cw71 : wd (mn 71 3) = some (.code (mname 71) (mcode 71) (mmax 71) (mret 71)) := rfl
theorem cw72 : wd (mn 72 3) = some (.code (mname 72) (mcode 72) (mmax 72) (mret 72)) := rfl
theorem cw73 : wd (mn 73 3) = some (.code (mname 73) (mcode 73) (mmax 73) (mret 73)) := rfl
theorem cw74 : wd (mn 74 3) = some (.code (mname 74) (mcode 74) (mmax 74) (mret 74)) := rfl
theorem cw75 : wd (mn 75 3) = some (.code (mname 75) (mcode 75) (mmax 75) (mret 75)) := rfl
theorem cw76 : wd (mn 76 3) = some (.code (mname 76) (mcode 76) (mmax 76) (mret 76)) := rfl
theorem cw77 : wd (mn 77 3) = some (.code (mname 77) (mcode 77) (mmax 77) (mret 77)) := rfl
theorem cw78 : wd (mn 78 3) = some (.code (mname 78) (mcode 78) (mmax 78) (mret 78)) := rfl
theorem cw79 : wd (mn 79 3) = some (.code (mname 79) (mcode 79) (mmax 79) (mret 79)) := rfl
theorem cw80 : wd (mn 80 3) = some (.code (mname 80) (mcode 80) (mmax 80) (mret 80)) := rfl
theorem cw81 : wd (mn 81 3) = some (.code (mname 81) (mcode 81) (mmax 81) (mret 81)) := rfl
theorem cw82 : wd (mn 82 3) = some (.code (mname 82) (mcode 82) (mmax 82) (mret 82)) := rfl
theorem cw83 : wd (mn 83 3) = some (.code (mname 83) (mcode 83) (mmax 83) (mret 83)) := rfl
theorem cw84 : wd (mn 84 3) = some (.code (mname 84) (mcode 84) (mmax 84) (mret 84)) := rfl
theorem cw85 : wd (mn 85 3) = some (.code (mname 85) (mcode 85) (mmax 85) (mret 85)) := rfl
theorem cw86 : wd (mn 86 3) = some (.code (mname 86) (mcode 86) (mmax 86) (mret 86)) := rfl
theorem cw87 : wd (mn 87 3) = some (.code (mname 87) (mcode 87) (mmax 87) (mret 87)) := rfl
theorem cw88 : wd (mn 88 3) = some (.code (mname 88) (mcode 88) (mmax 88) (mret 88)) := rfl
theorem cw89 : wd (mn 89 3) = some (.code (mname 89) (mcode 89) (mmax 89) (mret 89)) := rfl
theorem cw90 : wd (mn 90 3) = some (.code (mname 90) (mcode 90) (mmax 90) (mret 90)) := rfl
theorem cw91 : wd (mn 91 3) = some (.code (mname 91) (mcode 91) (mmax 91) (mret 91)) := rfl
theorem cw92 : wd (mn 92 3) = some (.code (mname 92) (mcode 92) (mmax 92) (mret 92)) := rfl
theorem cw93 : wd (mn 93 3) = some (.code (mname 93) (mcode 93) (mmax 93) (mret 93)) := rfl
theorem cw94 : wd (mn 94 3) = some (.code (mname 94) (mcode 94) (mmax 94) (mret 94)) := rfl
theorem cw95 : wd (mn 95 3) = some (.code (mname 95) (mcode 95) (mmax 95) (mret 95)) := rfl
theorem cw96 : wd (mn 96 3) = some (.code (mname 96) (mcode 96) (mmax 96) (mret 96)) := rfl
theorem cw97 : wd (mn 97 3) = some (.code (mname 97) (mcode 97) (mmax 97) (mret 97)) := rfl
theorem cw98 : wd (mn 98 3) = some (.code (mname 98) (mcode 98) (mmax 98) (mret 98)) := rfl
theorem cw99 : wd (mn 99 3) = some (.code (mname 99) (mcode 99) (mmax 99) (mret 99)) := rfl
theorem cw100 : wd (mn 100 3) = some (.code (mname 100) (mcode 100) (mmax 100) (mret 100)) := rfl
theorem cw101 : wd (mn 101 3) = some (.code (mname 101) (mcode 101) (mmax 101) (mret 101)) := rfl
theorem cw102 : wd (mn 102 3) = some (.code (mname 102) (mcode 102) (mmax 102) (mret 102)) := rfl
theorem cw103 : wd (mn 103 3) = some (.code (mname 103) (mcode 103) (mmax 103) (mret 103)) := rfl
theorem cw104 : wd (mn 104 3) = some (.code (mname 104) (mcode 104) (mmax 104) (mret 104)) := rfl
theorem cw105 : wd (mn 105 3) = some (.code (mname 105) (mcode 105) (mmax 105) (mret 105)) := rfl
theorem cw106 : wd (mn 106 3) = some (.code (mname 106) (mcode 106) (mmax 106) (mret 106)) := rfl
theorem cw107 : wd (mn 107 3) = some (.code (mname 107) (mcode 107) (mmax 107) (mret 107)) := rfl
theorem cw108 : wd (mn 108 3) = some (.code (mname 108) (mcode 108) (mmax 108) (mret 108)) := rfl
theorem cw109 : wd (mn 109 3) = some (.code (mname 109) (mcode 109) (mmax 109) (mret 109)) := rfl
theorem cw110 : wd (mn 110 3) = some (.code (mname 110) (mcode 110) (mmax 110) (mret 110)) := rfl
theorem cw111 : wd (mn 111 3) = some (.code (mname 111) (mcode 111) (mmax 111) (mret 111)) := rfl
theorem cw112 : wd (mn 112 3) = some (.code (mname 112) (mcode 112) (mmax 112) (mret 112)) := rfl
theorem cw113 : wd (mn 113 3) = some (.code (mname 113) (mcode 113) (mmax 113) (mret 113)) := rfl
theorem cw114 : wd (mn 114 3) = some (.code (mname 114) (mcode 114) (mmax 114) (mret 114)) := rfl
theorem cw115 : wd (mn 115 3) = some (.code (mname 115) (mcode 115) (mmax 115) (mret 115)) := rfl
theorem cw116 : wd (mn 116 3) = some (.code (mname 116) (mcode 116) (mmax 116) (mret 116)) := rfl
theorem cw117 : wd (mn 117 3) = some (.code (mname 117) (mcode 117) (mmax 117) (mret 117)) := rfl
theorem cw118 : wd (mn 118 3) = some (.code (mname 118) (mcode 118) (mmax 118) (mret 118)) := rfl
theorem cw119 : wd (mn 119 3) = some (.code (mname 119) (mcode 119) (mmax 119) (mret 119)) := rfl
theorem cw120 : wd (mn 120 3) = some (.code (mname 120) (mcode 120) (mmax 120) (mret 120)) := rfl
theorem cw121 : wd (mn 121 3) = some (.code (mname 121) (mcode 121) (mmax 121) (mret 121)) := rfl
theorem cw122 : wd (mn 122 3) = some (.code (mname 122) (mcode 122) (mmax 122) (mret 122)) := rfl
theorem cw123 : wd (mn 123 3) = some (.code (mname 123) (mcode 123) (mmax 123) (mret 123)) := rfl
theorem cw124 : wd (mn 124 3) = some (.code (mname 124) (mcode 124) (mmax 124) (mret 124)) := rfl
theorem cw125 : wd (mn 125 3) = some (.code (mname 125) (mcode 125) (mmax 125) (mret 125)) := rfl
theorem cw126 : wd (mn 126 3) = some (.code (mname 126) (mcode 126) (mmax 126) (mret 126)) := rfl
theorem cw127 : wd (mn 127 3) = some (.code (mname 127) (mcode 127) (mmax 127) (mret 127)) := rfl
theorem cw128 : wd (mn 128 3) = some (.code (mname 128) (mcode 128) (mmax 128) (mret 128)) := rfl
theorem cw129 : wd (mn 129 3) = some (.code (mname 129) (mcode 129) (mmax 129) (mret 129)) := rfl
theorem cw130 : wd (mn 130 3) = some (.code (mname 130) (mcode 130) (mmax 130) (mret 130)) := rfl
theorem cw131 : wd (mn 131 3) = some (.code (mname 131) (mcode 131) (mmax 131) (mret 131)) := rfl
theorem cw132 : wd (mn 132 3) = some (.code (mname 132) (mcode 132) (mmax 132) (mret 132)) := rfl
theorem cw133 : wd (mn 133 3) = some (.code (mname 133) (mcode 133) (mmax 133) (mret 133)) := rfl
theorem cw134 : wd (mn 134 3) = some (.code (mname 134) (mcode 134) (mmax 134) (mret 134)) := rfl
theorem cw135 : wd (mn 135 3) = some (.code (mname 135) (mcode 135) (mmax 135) (mret 135)) := rfl
theorem cw136 : wd (mn 136 3) = some (.code (mname 136) (mcode 136) (mmax 136) (mret 136)) := rfl
theorem cw137 : wd (mn 137 3) = some (.code (mname 137) (mcode 137) (mmax 137) (mret 137)) := rfl
theorem cw138 : wd (mn 138 3) = some (.code (mname 138) (mcode 138) (mmax 138) (mret 138)) := rfl
theorem cw139 : wd (mn 139 3) = some (.code (mname 139) (mcode 139) (mmax 139) (mret 139)) := rfl
theorem cw140 : wd (mn 140 3) = some (.code (mname 140) (mcode 140) (mmax 140) (mret 140)) := rfl
theorem cw141 : wd (mn 141 3) = some (.code (mname 141) (mcode 141) (mmax 141) (mret 141)) := rfl
theorem cw142 : wd (mn 142 3) = some (.code (mname 142) (mcode 142) (mmax 142) (mret 142)) := rfl
theorem cw143 : wd (mn 143 3) = some (.code (mname 143) (mcode 143) (mmax 143) (mret 143)) := rfl
theorem cw144 : wd (mn 144 3) = some (.code (mname 144) (mcode 144) (mmax 144) (mret 144)) := rfl
theorem cw145 : wd (mn 145 3) = some (.code (mname 145) (mcode 145) (mmax 145) (mret 145)) := rfl
theorem cw146 : wd (mn 146 3) = some (.code (mname 146) (mcode 146) (mmax 146) (mret 146)) := rfl
theorem cw147 : wd (mn 147 3) = some (.code (mname 147) (mcode 147) (mmax 147) (mret 147)) := rfl
theorem cw148 : wd (mn 148 3) = some (.code (mname 148) (mcode 148) (mmax 148) (mret 148)) := rfl
theorem cw149 : wd (mn 149 3) = some (.code (mname 149) (mcode 149) (mmax 149) (mret 149)) := rfl
theorem cw150 : wd (mn 150 3) = some (.code (mname 150) (mcode 150) (mmax 150) (mret 150)) := rfl
theorem cw151 : wd (mn 151 3) = some (.code (mname 151) (mcode 151) (mmax 151) (mret 151)) := rfl
theorem cw152 : wd (mn 152 3) = some (.code (mname 152) (mcode 152) (mmax 152) (mret 152)) := rfl
theorem cw153 : wd (mn 153 3) = some (.code (mname 153) (mcode 153) (mmax 153) (mret 153)) := rfl
theorem cw154 : wd (mn 154 3) = some (.code (mname 154) (mcode 154) (mmax 154) (mret 154)) := rfl
theorem cw155 : wd (mn 155 3) = some (.code (mname 155) (mcode 155) (mmax 155) (mret 155)) := rfl
theorem cw156 : wd (mn 156 3) = some (.code (mname 156) (mcode 156) (mmax 156) (mret 156)) := rfl
theorem cw157 : wd (mn 157 3) = some (.code (mname 157) (mcode 157) (mmax 157) (mret 157)) := rfl
theorem cw158 : wd (mn 158 3) = some (.code (mname 158) (mcode 158) (mmax 158) (mret 158)) := rfl
theorem cw159 : wd (mn 159 3) = some (.code (mname 159) (mcode 159) (mmax 159) (mret 159)) := rfl
theorem cw160 : wd (mn 160 3) = some (.code (mname 160) (mcode 160) (mmax 160) (mret 160)) := rfl
theorem cw161 : wd (mn 161 3) = some (.code (mname 161) (mcode 161) (mmax 161) (mret 161)) := rfl
theorem cw162 : wd (mn 162 3) = some (.code (mname 162) (mcode 162) (mmax 162) (mret 162)) := rfl
theorem cw163 : wd (mn 163 3) = some (.code (mname 163) (mcode 163) (mmax 163) (mret 163)) := rfl
theorem cw164 : wd (mn 164 3) = some (.code (mname 164) (mcode 164) (mmax 164) (mret 164)) := rfl
theorem cw165 : wd (mn 165 3) = some (.code (mname 165) (mcode 165) (mmax 165) (mret 165)) := rfl
theorem cw166 : wd (mn 166 3) = some (.code (mname 166) (mcode 166) (mmax 166) (mret 166)) := rfl
theorem cw167 : wd (mn 167 3) = some (.code (mname 167) (mcode 167) (mmax 167) (mret 167)) := rfl
theorem cw168 : wd (mn 168 3) = some (.code (mname 168) (mcode 168) (mmax 168) (mret 168)) := rfl
theorem cw169 : wd (mn 169 3) = some (.code (mname 169) (mcode 169) (mmax 169) (mret 169)) := rfl
theorem cw170 : wd (mn 170 3) = some (.code (mname 170) (mcode 170) (mmax 170) (mret 170)) := rfl
theorem cw171 : wd (mn 171 3) = some (.code (mname 171) (mcode 171) (mmax 171) (mret 171)) := rfl
theorem cw172 : wd (mn 172 3) = some (.code (mname 172) (mcode 172) (mmax 172) (mret 172)) := rfl
theorem cw173 : wd (mn 173 3) = some (.code (mname 173) (mcode 173) (mmax 173) (mret 173)) := rfl
theorem cw174 : wd (mn 174 3) = some (.code (mname 174) (mcode 174) (mmax 174) (mret 174)) := rfl
theorem cw175 : wd (mn 175 3) = some (.code (mname 175) (mcode 175) (mmax 175) (mret 175)) := rfl
theorem cw176 : wd (mn 176 3) = some (.code (mname 176) (mcode 176) (mmax 176) (mret 176)) := rfl
theorem cw177 : wd (mn 177 3) = some (.code (mname 177) (mcode 177) (mmax 177) (mret 177)) := rfl
theorem cw178 : wd (mn 178 3) = some (.code (mname 178) (mcode 178) (mmax 178) (mret 178)) := rfl
theorem cw179 : wd (mn 179 3) = some (.code (mname 179) (mcode 179) (mmax 179) (mret 179)) := rfl
theorem cw180 : wd (mn 180 3) = some (.code (mname 180) (mcode 180) (mmax 180) (mret 180)) := rfl
theorem cw181 : wd (mn 181 3) = some (.code (mname 181) (mcode 181) (mmax 181) (mret 181)) := rfl
theorem cw182 : wd (mn 182 3) = some (.code (mname 182) (mcode 182) (mmax 182) (mret 182)) := rfl
theorem cw183 : wd (mn 183 3) = some (.code (mname 183) (mcode 183) (mmax 183) (mret 183)) := rfl
theorem cw184 : wd (mn 184 3) = some (.code (mname 184) (mcode 184) (mmax 184) (mret 184)) := rfl
theorem cw185 : wd (mn 185 3) = some (.code (mname 185) (mcode 185) (mmax 185) (mret 185)) := rfl
theorem cw186 : wd (mn 186 3) = some (.code (mname 186) (mcode 186) (mmax 186) (mret 186)) := rfl
theorem cw187 : wd (mn 187 3) = some (.code (mname 187) (mcode 187) (mmax 187) (mret 187)) := rfl
theorem cw188 : wd (mn 188 3) = some (.code (mname 188) (mcode 188) (mmax 188) (mret 188)) := rfl
theorem cw189 : wd (mn 189 3) = some (.code (mname 189) (mcode 189) (mmax 189) (mret 189)) := rfl
theorem cw190 : wd (mn 190 3) = some (.code (mname 190) (mcode 190) (mmax 190) (mret 190)) := rfl
theorem cw191 : wd (mn 191 3) = some (.code (mname 191) (mcode 191) (mmax 191) (mret 191)) := rfl
theorem cw192 : wd (mn 192 3) = some (.code (mname 192) (mcode 192) (mmax 192) (mret 192)) := rfl
theorem cw193 : wd (mn 193 3) = some (.code (mname 193) (mcode 193) (mmax 193) (mret 193)) := rfl
theorem cw194 : wd (mn 194 3) = some (.code (mname 194) (mcode 194) (mmax 194) (mret 194)) := rfl
theorem cw195 : wd (mn 195 3) = some (.code (mname 195) (mcode 195) (mmax 195) (mret 195)) := rfl
theorem cw196 : wd (mn 196 3) = some (.code (mname 196) (mcode 196) (mmax 196) (mret 196)) := rfl
theorem cw197 : wd (mn 197 3) = some (.code (mname 197) (mcode 197) (mmax 197) (mret 197)) := rfl
theorem cw198 : wd (mn 198 3) = some (.code (mname 198) (mcode 198) (mmax 198) (mret 198)) := rfl
theorem cw199 : wd (mn 199 3) = some (.code (mname 199) (mcode 199) (mmax 199) (mret 199)) := rfl
theorem cw200 : wd (mn 200 3) = some (.code (mname 200) (mcode 200) (mmax 200) (mret 200)) := rfl
theorem cw201 : wd (mn 201 3) = some (.code (mname 201) (mcode 201) (mmax 201) (mret 201)) := rfl
theorem cw202 : wd (mn 202 3) = some (.code (mname 202) (mcode 202) (mmax 202) (mret 202)) := rfl
theorem cw203 : wd (mn 203 3) = some (.code (mname 203) (mcode 203) (mmax 203) (mret 203)) := rfl
theorem cw204 : wd (mn 204 3) = some (.code (mname 204) (mcode 204) (mmax 204) (mret 204)) := rfl
theorem cw205 : wd (mn 205 3) = some (.code (mname 205) (mcode 205) (mmax 205) (mret 205)) := rfl
theorem cw206 : wd (mn 206 3) = some (.code (mname 206) (mcode 206) (mmax 206) (mret 206)) := rfl
theorem cw207 : wd (mn 207 3) = some (.code (mname 207) (mcode 207) (mmax 207) (mret 207)) := rfl
theorem cw208 : wd (mn 208 3) = some (.code (mname 208) (mcode 208) (mmax 208) (mret 208)) := rfl
theorem cw209 : wd (mn 209 3) = some (.code (mname 209) (mcode 209) (mmax 209) (mret 209)) := rfl
theorem cw210 : wd (mn 210 3) = some (.code (mname 210) (mcode 210) (mmax 210) (mret 210)) := rfl
theorem cw211 : wd (mn 211 3) = some (.code (mname 211) (mcode 211) (mmax 211) (mret 211)) := rfl
theorem cw212 : wd (mn 212 3) = some (.code (mname 212) (mcode 212) (mmax 212) (mret 212)) := rfl
theorem cw213 : wd (mn 213 3) = some (.code (mname 213) (mcode 213) (mmax 213) (mret 213)) := rfl
theorem cw214 : wd (mn 214 3) = some (.code (mname 214) (mcode 214) (mmax 214) (mret 214)) := rfl
theorem cw215 : wd (mn 215 3) = some (.code (mname 215) (mcode 215) (mmax 215) (mret 215)) := rfl
theorem cw216 : wd (mn 216 3) = some (.code (mname 216) (mcode 216) (mmax 216) (mret 216)) := rfl
theorem cw217 : wd (mn 217 3) = some (.code (mname 217) (mcode 217) (mmax 217) (mret 217)) := rfl
theorem cw218 : wd (mn 218 3) = some (.code (mname 218) (mcode 218) (mmax 218) (mret 218)) := rfl
theorem cw219 : wd (mn 219 3) = some (.code (mname 219) (mcode 219) (mmax 219) (mret 219)) := rfl
theorem cw220 : wd (mn 220 3) = some (.code (mname 220) (mcode 220) (mmax 220) (mret 220)) := rfl
theorem cw221 : wd (mn 221 3) = some (.code (mname 221) (mcode 221) (mmax 221) (mret 221)) := rfl
theorem cw222 : wd (mn 222 3) = some (.code (mname 222) (mcode 222) (mmax 222) (mret 222)) := rfl
theorem cw223 : wd (mn 223 3) = some (.code (mname 223) (mcode 223) (mmax 223) (mret 223)) := rfl
theorem cw224 : wd (mn 224 3) = some (.code (mname 224) (mcode 224) (mmax 224) (mret 224)) := rfl
theorem cw225 : wd (mn 225 3) = some (.code (mname 225) (mcode 225) (mmax 225) (mret 225)) := rfl
theorem cw226 : wd (mn 226 3) = some (.code (mname 226) (mcode 226) (mmax 226) (mret 226)) := rfl
theorem cw227 : wd (mn 227 3) = some (.code (mname 227) (mcode 227) (mmax 227) (mret 227)) := rfl
theorem cw228 : wd (mn 228 3) = some (.code (mname 228) (mcode 228) (mmax 228) (mret 228)) := rfl
theorem cw229 : wd (mn 229 3) = some (.code (mname 229) (mcode 229) (mmax 229) (mret 229)) := rfl
theorem cw230 : wd (mn 230 3) = some (.code (mname 230) (mcode 230) (mmax 230) (mret 230)) := rfl
theorem cw231 : wd (mn 231 3) = some (.code (mname 231) (mcode 231) (mmax 231) (mret 231)) := rfl
theorem cw232 : wd (mn 232 3) = some (.code (mname 232) (mcode 232) (mmax 232) (mret 232)) := rfl
theorem cw233 : wd (mn 233 3) = some (.code (mname 233) (mcode 233) (mmax 233) (mret 233)) := rfl
theorem cw234 : wd (mn 234 3) = some (.code (mname 234) (mcode 234) (mmax 234) (mret 234)) := rfl
theorem cw235 : wd (mn 235 3) = some (.code (mname 235) (mcode 235) (mmax 235) (mret 235)) := rfl
theorem cw236 : wd (mn 236 3) = some (.code (mname 236) (mcode 236) (mmax 236) (mret 236)) := rfl
theorem cw237 : wd (mn 237 3) = some (.code (mname 237) (mcode 237) (mmax 237) (mret 237)) := rfl
theorem cw238 : wd (mn 238 3) = some (.code (mname 238) (mcode 238) (mmax 238) (mret 238)) := rfl
theorem cw239 : wd (mn 239 3) = some (.code (mname 239) (mcode 239) (mmax 239) (mret 239)) := rfl
theorem cw240 : wd (mn 240 3) = some (.code (mname 240) (mcode 240) (mmax 240) (mret 240)) := rfl
theorem cw241 : wd (mn 241 3) = some (.code (mname 241) (mcode 241) (mmax 241) (mret 241)) := rfl
theorem cw242 : wd (mn 242 3) = some (.code (mname 242) (mcode 242) (mmax 242) (mret 242)) := rfl
theorem cw243 : wd (mn 243 3) = some (.code (mname 243) (mcode 243) (mmax 243) (mret 243)) := rfl
theorem cw244 : wd (mn 244 3) = some (.code (mname 244) (mcode 244) (mmax 244) (mret 244)) := rfl
theorem cw245 : wd (mn 245 3) = some (.code (mname 245) (mcode 245) (mmax 245) (mret 245)) := rfl
theorem cw246 : wd (mn 246 3) = some (.code (mname 246) (mcode 246) (mmax 246) (mret 246)) := rfl
theorem cw247 : wd (mn 247 3) = some (.code (mname 247) (mcode 247) (mmax 247) (mret 247)) := rfl
theorem cw248 : wd (mn 248 3) = some (.code (mname 248) (mcode 248) (mmax 248) (mret 248)) := rfl
theorem cw249 : wd (mn 249 3) = some (.code (mname 249) (mcode 249) (mmax 249) (mret 249)) := rfl
theorem cw250 : wd (mn 250 3) = some (.code (mname 250) (mcode 250) (mmax 250) (mret 250)) := rfl
theorem cw251 : wd (mn 251 3) = some (.code (mname 251) (mcode 251) (mmax 251) (mret 251)) := rfl
theorem cw252 : wd (mn 252 3) = some (.code (mname 252) (mcode 252) (mmax 252) (mret 252)) := rfl
theorem cw253 : wd (mn 253 3) = some (.code (mname 253) (mcode 253) (mmax 253) (mret 253)) := rfl
theorem cw254 : wd (mn 254 3) = some (.code (mname 254) (mcode 254) (mmax 254) (mret 254)) := rfl
theorem cw255 : wd (mn 255 3) = some (.code (mname 255) (mcode 255) (mmax 255) (mret 255)) := rfl
theorem cw256 : wd (mn 256 3) = some (.code (mname 256) (mcode 256) (mmax 256) (mret 256)) := rfl
theorem cw257 : wd (mn 257 3) = some (.code (mname 257) (mcode 257) (mmax 257) (mret 257)) := rfl
theorem cw258 : wd (mn 258 3) = some (.code (mname 258) (mcode 258) (mmax 258) (mret 258)) := rfl
theorem cw259 : wd (mn 259 3) = some (.code (mname 259) (mcode 259) (mmax 259) (mret 259)) := rfl
theorem cw260 : wd (mn 260 3) = some (.code (mname 260) (mcode 260) (mmax 260) (mret 260)) := rfl
theorem cw261 : wd (mn 261 3) = some (.code (mname 261) (mcode 261) (mmax 261) (mret 261)) := rfl
theorem cw262 : wd (mn 262 3) = some (.code (mname 262) (mcode 262) (mmax 262) (mret 262)) := rfl
theorem cw263 : wd (mn 263 3) = some (.code (mname 263) (mcode 263) (mmax 263) (mret 263)) := rfl
theorem cw_all : ∀ M, M < 264 → wd (mn M 3) = some (.code (mname M) (mcode M) (mmax M) (mret M)) := fun M h => match M, h with
  | 0, _ => cw0
  | 1, _ => cw1
  | 2, _ => cw2
  | 3, _ => cw3
  | 4, _ => cw4
  | 5, _ => cw5
  | 6, _ => cw6
  | 7, _ => cw7
  | 8, _ => cw8
  | 9, _ => cw9
  | 10, _ => cw10
  | 11, _ => cw11
  | 12, _ => cw12
  | 13, _ => cw13
  | 14, _ => cw14
  | 15, _ => cw15
  | 16, _ => cw16
  | 17, _ => cw17
  | 18, _ => cw18
  | 19, _ => cw19
  | 20, _ => cw20
  | 21, _ => cw21
  | 22, _ => cw22
  | 23, _ => cw23
  | 24, _ => cw24
  | 25, _ => cw25
  | 26, _ => cw26
  | 27, _ => cw27
  | 28, _ => cw28
  | 29, _ => cw29
  | 30, _ => cw30
  | 31, _ => cw31
  | 32, _ => cw32
  | 33, _ => cw33
  | 34, _ => cw34
  | 35, _ => cw35
  | 36, _ => cw36
  | 37, _ => cw37
  | 38, _ => cw38
  | 39, _ => cw39
  | 40, _ => cw40
  | 41, _ => cw41
  | 42, _ => cw42
  | 43, _ => cw43
  | 44, _ => cw44
  | 45, _ => cw45
  | 46, _ => cw46
  | 47, _ => cw47
  | 48, _ => cw48
  | 49, _ => cw49
  | 50, _ => cw50
  | 51, _ => cw51
  | 52, _ => cw52
  | 53, _ => cw53
  | 54, _ => cw54
  | 55, _ => cw55
  | 56, _ => cw56
  | 57, _ => cw57
  | 58, _ => cw58
  | 59, _ => cw59
  | 60, _ => cw60
  | 61, _ => cw61
  | 62, _ => cw62
  | 63, _ => cw63
  | 64, _ => cw64
  | 65, _ => cw65
  | 66, _ => cw66
  | 67, _ => cw67
  | 68, _ => cw68
  | 69, _ => cw69
  | 70, _ => cw70
  | 71, _ => cw71
  | 72, _ => cw72
  | 73, _ => cw73
  | 74, _ => cw74
  | 75, _ => cw75
  | 76, _ => cw76
  | 77, _ => cw77
  | 78, _ => cw78
  | 79, _ => cw79
  | 80, _ => cw80
  | 81, _ => cw81
  | 82, _ => cw82
  | 83, _ => cw83
  | 84, _ => cw84
  | 85, _ => cw85
  | 86, _ => cw86
  | 87, _ => cw87
  | 88, _ => cw88
  | 89, _ => cw89
  | 90, _ => cw90
  | 91, _ => cw91
  | 92, _ => cw92
  | 93, _ => cw93
  | 94, _ => cw94
  | 95, _ => cw95
  | 96, _ => cw96
  | 97, _ => cw97
  | 98, _ => cw98
  | 99, _ => cw99
  | 100, _ => cw100
  | 101, _ => cw101
  | 102, _ => cw102
  | 103, _ => cw103
  | 104, _ => cw104
  | 105, _ => cw105
  | 106, _ => cw106
  | 107, _ => cw107
  | 108, _ => cw108
  | 109, _ => cw109
  | 110, _ => cw110
  | 111, _ => cw111
  | 112, _ => cw112
  | 113, _ => cw113
  | 114, _ => cw114
  | 115, _ => cw115
  | 116, _ => cw116
  | 117, _ => cw117
  | 118, _ => cw118
  | 119, _ => cw119
  | 120, _ => cw120
  | 121, _ => cw121
  | 122, _ => cw122
  | 123, _ => cw123
  | 124, _ => cw124
  | 125, _ => cw125
  | 126, _ => cw126
  | 127, _ => cw127
  | 128, _ => cw128
  | 129, _ => cw129
  | 130, _ => cw130
  | 131, _ => cw131
  | 132, _ => cw132
  | 133, _ => cw133
  | 134, _ => cw134
  | 135, _ => cw135
  | 136, _ => cw136
  | 137, _ => cw137
  | 138, _ => cw138
  | 139, _ => cw139
  | 140, _ => cw140
  | 141, _ => cw141
  | 142, _ => cw142
  | 143, _ => cw143
  | 144, _ => cw144
  | 145, _ => cw145
  | 146, _ => cw146
  | 147, _ => cw147
  | 148, _ => cw148
  | 149, _ => cw149
  | 150, _ => cw150
  | 151, _ => cw151
  | 152, _ => cw152
  | 153, _ => cw153
  | 154, _ => cw154
  | 155, _ => cw155
  | 156, _ => cw156
  | 157, _ => cw157
  | 158, _ => cw158
  | 159, _ => cw159
  | 160, _ => cw160
  | 161, _ => cw161
  | 162, _ => cw162
  | 163, _ => cw163
  | 164, _ => cw164
  | 165, _ => cw165
  | 166, _ => cw166
  | 167, _ => cw167
  | 168, _ => cw168
  | 169, _ => cw169
  | 170, _ => cw170
  | 171, _ => cw171
  | 172, _ => cw172
  | 173, _ => cw173
  | 174, _ => cw174
  | 175, _ => cw175
  | 176, _ => cw176
  | 177, _ => cw177
  | 178, _ => cw178
  | 179, _ => cw179
  | 180, _ => cw180
  | 181, _ => cw181
  | 182, _ => cw182
  | 183, _ => cw183
  | 184, _ => cw184
  | 185, _ => cw185
  | 186, _ => cw186
  | 187, _ => cw187
  | 188, _ => cw188
  | 189, _ => cw189
  | 190, _ => cw190
  | 191, _ => cw191
  | 192, _ => cw192
  | 193, _ => cw193
  | 194, _ => cw194
  | 195, _ => cw195
  | 196, _ => cw196
  | 197, _ => cw197
  | 198, _ => cw198
  | 199, _ => cw199
  | 200, _ => cw200
  | 201, _ => cw201
  | 202, _ => cw202
  | 203, _ => cw203
  | 204, _ => cw204
  | 205, _ => cw205
  | 206, _ => cw206
  | 207, _ => cw207
  | 208, _ => cw208
  | 209, _ => cw209
  | 210, _ => cw210
  | 211, _ => cw211
  | 212, _ => cw212
  | 213, _ => cw213
  | 214, _ => cw214
  | 215, _ => cw215
  | 216, _ => cw216
  | 217, _ => cw217
  | 218, _ => cw218
  | 219, _ => cw219
  | 220, _ => cw220
  | 221, _ => cw221
  | 222, _ => cw222
  | 223, _ => cw223
  | 224, _ => cw224
  | 225, _ => cw225
  | 226, _ => cw226
  | 227, _ => cw227
  | 228, _ => cw228
  | 229, _ => cw229
  | 230, _ => cw230
  | 231, _ => cw231
  | 232, _ => cw232
  | 233, _ => cw233
  | 234, _ => cw234
  | 235, _ => cw235
  | 236, _ => cw236
  | 237, _ => cw237
  | 238, _ => cw238
  | 239, _ => cw239
  | 240, _ => cw240
  | 241, _ => cw241
  | 242, _ => cw242
  | 243, _ => cw243
  | 244, _ => cw244
  | 245, _ => cw245
  | 246, _ => cw246
  | 247, _ => cw247
  | 248, _ => cw248
  | 249, _ => cw249
  | 250, _ => cw250
  | 251, _ => cw251
  | 252, _ => cw252
  | 253, _ => cw253
  | 254, _ => cw254
  | 255, _ => cw255
  | 256, _ => cw256
  | 257, _ => cw257
  | 258, _ => cw258
  | 259, _ => cw259
  | 260, _ => cw260
  | 261, _ => cw261
  | 262, _ => cw262
  | 263, _ => cw263
  | n + 264, h => absurd h (by omega)
