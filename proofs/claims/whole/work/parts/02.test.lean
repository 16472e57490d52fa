theorem tt_good : lw_tbl.all goodWord = true := by decide +kernel
