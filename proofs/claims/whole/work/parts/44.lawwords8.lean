theorem zt237 : GoodIn lw_tbl (([.code yX9_init cX9_init 1 none] : List Cond)) := goodIn_r _ [1007] (by decide +kernel) (by decide +kernel)
theorem zt238 : GoodIn lw_tbl (wsX9_init_r1) := goodIn_of _ (by decide +kernel)
theorem zt239 : GoodIn lw_tbl (wsX9_init_r2) := goodIn_r _ [1034, 1035, 1036, 1037, 1039, 1040, 1041, 1042, 1043, 1044, 1045, 1046, 1048, 1049, 1050, 1009, 1053, 1054, 1055, 1056, 1057, 1060, 1061, 1062] (by decide +kernel) (by decide +kernel)
theorem zt240 : GoodIn lw_tbl (wsX9_init_r3) := goodIn_r _ [1063, 1067, 1068, 1069] (by decide +kernel) (by decide +kernel)
theorem zW_lw_tbl_wsX9_init : GoodIn lw_tbl wsX9_init := (zg_cons zt237 (goodIn_app (goodIn_app zt238 (goodIn_app zt239 zt240)) zt11))
theorem zl_X9_init : GoodIn lw_tbl wsX9_init := zW_lw_tbl_wsX9_init
