/-! ===== the constructors store in no row but of words ===== -/
theorem n_A : (mj_goN 3000 100 J_201 19 zA 0 0).isSome = true := ckz_S nc_A
theorem n_B : (mj_goN 3000 21 J_152 22 zB 0 0).isSome = true := ckz_S nc_B
theorem n_D : (mj_goN 3000 100 J_201 63 zD 63 45941).isSome = true := ckz_S nc_D
theorem n_E : (mj_goN 3000 2000 lawI 3 zE 97 65511).isSome = true := ckz_S nc_E
theorem n_F0 : (mj_goN 3000 21 J_225 62 zF0 0 0).isSome = true := ckz_S nc_F0
theorem n_F1 : (mj_goN 3000 21 J_225 60 zF1 15 3659).isSome = true := ckz_S nc_F1
theorem n_F2 : (mj_goN 3000 21 J_225 60 zF2 30 9971).isSome = true := ckz_S nc_F2
theorem n_F3 : (mj_goN 3000 21 J_225 62 zF3 45 58771).isSome = true := ckz_S nc_F3
theorem n_F4 : (mj_goN 3000 21 J_225 60 zF4 59 109475).isSome = true := ckz_S nc_F4
theorem n_F5 : (mj_goN 3000 21 J_225 60 zF5 74 118037).isSome = true := ckz_S nc_F5
theorem n_F6 : (mj_goN 3000 21 J_225 4 zF6 89 148082).isSome = true := ckz_S nc_F6
