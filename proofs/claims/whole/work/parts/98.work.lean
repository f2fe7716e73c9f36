theorem lw_pict : lw_Pict 4000 := w_pict 4000 (by omega)
theorem lw_work : lw_Work 4000 := w_work 4000 (by omega) lw_pict (w_pictF 4000 (by omega))
