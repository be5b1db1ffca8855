theorem zt237 : GoodIn lw_tbl (([.code yX9_init cX9_init 1 none] : List Cond)) := goodIn_of _ (by decide +kernel)
theorem zt238 : GoodIn lw_tbl (wsX9_init_r1) := goodIn_of _ (by decide +kernel)
theorem zt239 : GoodIn lw_tbl (wsX9_init_r2) := goodIn_of _ (by decide +kernel)
theorem zt240 : GoodIn lw_tbl (wsX9_init_r3) := goodIn_of _ (by decide +kernel)
theorem zW_lw_tbl_wsX9_init : GoodIn lw_tbl wsX9_init := (zg_cons zt237 (goodIn_app (goodIn_app zt238 (goodIn_app zt239 zt240)) zt11))
theorem zl_X9_init : GoodIn lw_tbl wsX9_init := zW_lw_tbl_wsX9_init
