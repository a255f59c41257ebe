def f_L_law_1910 (xs : Nat → Int32) (L : Nat) (k18 : Int32 → GW → Option Unit) (x3 : Int32) (w : GW) : Option Unit := (k18 (x3 + (6 : Int32)) w)
def b_L_law_18 (xs : Nat → Int32) (L : Nat) (k18 : Int32 → GW → Option Unit) (x3 : Int32) (w : GW) : Option Unit := (if ((Int32.ofNat L) - (6 : Int32)) < x3 then (some ()) else (if gin x3 L then (if ((xs x3.toNatClampNeg) &&& (63 : Int32)) = (0 : Int32) then ((F_X10_status (gsub w e_shXM_shX_0)).bind fun q4 => ((F_X11_status (gsub w e_shXM_shM_138)).bind fun q5 => (if q4 = q5 then (f_L_law_1910 xs L k18 x3 w) else none))) else (if ((xs x3.toNatClampNeg) &&& (63 : Int32)) = (1 : Int32) then ((F_X10_top (gsub w e_shXM_shX_0)).bind fun q8 => ((F_X11_top (gsub w e_shXM_shM_138)).bind fun q9 => (if (lg_cmp q8 q9) = 0 then (f_L_law_1910 xs L k18 x3 w) else none))) else (if ((xs x3.toNatClampNeg) &&& (63 : Int32)) = (2 : Int32) then ((F_X10_bottom (gsub w e_shXM_shX_0)).bind fun q12 => ((F_X11_bottom (gsub w e_shXM_shM_138)).bind fun q13 => (if (lg_cmp q12 q13) = 0 then (f_L_law_1910 xs L k18 x3 w) else none))) else (if ((xs x3.toNatClampNeg) &&& (63 : Int32)) = (3 : Int32) then (if gin (x3 + (1 : Int32)) L then (if gin (x3 + (2 : Int32)) L then (if gin (x3 + (3 : Int32)) L then ((F_X10_tray (xs (x3 + (1 : Int32)).toNatClampNeg) (xs (x3 + (2 : Int32)).toNatClampNeg) (xs (x3 + (3 : Int32)).toNatClampNeg) (gsub w e_shXM_shX_0)).bind fun q19 => ((F_X11_tray (xs (x3 + (1 : Int32)).toNatClampNeg) (xs (x3 + (2 : Int32)).toNatClampNeg) (xs (x3 + (3 : Int32)).toNatClampNeg) (gsub (gput w e_shXM_shX_0 q19.2) e_shXM_shM_138)).bind fun q20 => (if q19.1 = q20.1 then (f_L_law_1910 xs L k18 x3 (gput (gput w e_shXM_shX_0 q19.2) e_shXM_shM_138 q20.2)) else none))) else none) else none) else none) else (if ((xs x3.toNatClampNeg) &&& (63 : Int32)) = (4 : Int32) then (if gin (x3 + (1 : Int32)) L then (if gin (x3 + (2 : Int32)) L then (if gin (x3 + (3 : Int32)) L then (if gin (x3 + (4 : Int32)) L then ((F_X10_write (xs (x3 + (1 : Int32)).toNatClampNeg) (xs (x3 + (2 : Int32)).toNatClampNeg) (((xs (x3 + (3 : Int32)).toNatClampNeg).toInt64 <<< ((32 : Int32).toInt64 &&& 63)) ||| ((xs (x3 + (4 : Int32)).toNatClampNeg).toInt64 &&& (4294967295 : Int64))) (gsub w e_shXM_shX_0)).bind fun q27 => ((F_X11_write (xs (x3 + (1 : Int32)).toNatClampNeg) (xs (x3 + (2 : Int32)).toNatClampNeg) (((xs (x3 + (3 : Int32)).toNatClampNeg).toInt64 <<< ((32 : Int32).toInt64 &&& 63)) ||| ((xs (x3 + (4 : Int32)).toNatClampNeg).toInt64 &&& (4294967295 : Int64))) (gsub (gput w e_shXM_shX_0 q27.2) e_shXM_shM_138)).bind fun q28 => (if q27.1 = q28.1 then (f_L_law_1910 xs L k18 x3 (gput (gput w e_shXM_shX_0 q27.2) e_shXM_shM_138 q28.2)) else none))) else none) else none) else none) else none) else (if ((xs x3.toNatClampNeg) &&& (63 : Int32)) = (5 : Int32) then (if gin (x3 + (1 : Int32)) L then (if gin (x3 + (2 : Int32)) L then ((F_X10_read (xs (x3 + (1 : Int32)).toNatClampNeg) (xs (x3 + (2 : Int32)).toNatClampNeg) (gsub w e_shXM_shX_0)).bind fun q33 => ((F_X11_read (xs (x3 + (1 : Int32)).toNatClampNeg) (xs (x3 + (2 : Int32)).toNatClampNeg) (gsub (gput w e_shXM_shX_0 q33.2) e_shXM_shM_138)).bind fun q34 => (if (lg_cmp q33.1 q34.1) = 0 then (f_L_law_1910 xs L k18 x3 (gput (gput w e_shXM_shX_0 q33.2) e_shXM_shM_138 q34.2)) else none))) else none) else none) else (if ((xs x3.toNatClampNeg) &&& (63 : Int32)) = (6 : Int32) then (if gin (x3 + (1 : Int32)) L then (if gin (x3 + (2 : Int32)) L then (if gin (x3 + (3 : Int32)) L then (if gin (x3 + (4 : Int32)) L then (if gin (x3 + (5 : Int32)) L then ((F_X10_pour (xs (x3 + (1 : Int32)).toNatClampNeg) (xs (x3 + (2 : Int32)).toNatClampNeg) (xs (x3 + (3 : Int32)).toNatClampNeg) (xs (x3 + (4 : Int32)).toNatClampNeg) (xs (x3 + (5 : Int32)).toNatClampNeg) (gsub w e_shXM_shX_0)).bind fun q42 => ((F_X11_pour (xs (x3 + (1 : Int32)).toNatClampNeg) (xs (x3 + (2 : Int32)).toNatClampNeg) (xs (x3 + (3 : Int32)).toNatClampNeg) (xs (x3 + (4 : Int32)).toNatClampNeg) (xs (x3 + (5 : Int32)).toNatClampNeg) (gsub (gput w e_shXM_shX_0 q42.2) e_shXM_shM_138)).bind fun q43 => (if q42.1 = q43.1 then (f_L_law_1910 xs L k18 x3 (gput (gput w e_shXM_shX_0 q42.2) e_shXM_shM_138 q43.2)) else none))) else none) else none) else none) else none) else none) else (if ((xs x3.toNatClampNeg) &&& (63 : Int32)) = (7 : Int32) then (if gin (x3 + (1 : Int32)) L then (if gin (x3 + (2 : Int32)) L then (if gin (x3 + (3 : Int32)) L then (if gin (x3 + (4 : Int32)) L then (if gin (x3 + (5 : Int32)) L then ((F_X10_feed (xs (x3 + (1 : Int32)).toNatClampNeg) (xs (x3 + (2 : Int32)).toNatClampNeg) (xs (x3 + (3 : Int32)).toNatClampNeg) (xs (x3 + (4 : Int32)).toNatClampNeg) (xs (x3 + (5 : Int32)).toNatClampNeg) (gsub w e_shXM_shX_0)).bind fun q51 => ((F_X11_feed (xs (x3 + (1 : Int32)).toNatClampNeg) (xs (x3 + (2 : Int32)).toNatClampNeg) (xs (x3 + (3 : Int32)).toNatClampNeg) (xs (x3 + (4 : Int32)).toNatClampNeg) (xs (x3 + (5 : Int32)).toNatClampNeg) (gsub (gput w e_shXM_shX_0 q51.2) e_shXM_shM_138)).bind fun q52 => (if q51.1 = q52.1 then (f_L_law_1910 xs L k18 x3 (gput (gput w e_shXM_shX_0 q51.2) e_shXM_shM_138 q52.2)) else none))) else none) else none) else none) else none) else none) else (if ((xs x3.toNatClampNeg) &&& (63 : Int32)) = (8 : Int32) then (if gin (x3 + (1 : Int32)) L then ((F_X10_bank (xs (x3 + (1 : Int32)).toNatClampNeg) (gsub w e_shXM_shX_0)).bind fun q56 => ((F_X11_bank (xs (x3 + (1 : Int32)).toNatClampNeg) (gsub (gput w e_shXM_shX_0 q56.2) e_shXM_shM_138)).bind fun q57 => (if q56.1 = q57.1 then (f_L_law_1910 xs L k18 x3 (gput (gput w e_shXM_shX_0 q56.2) e_shXM_shM_138 q57.2)) else none))) else none) else (if ((xs x3.toNatClampNeg) &&& (63 : Int32)) = (9 : Int32) then (if gin (x3 + (1 : Int32)) L then ((F_X10_decades (xs (x3 + (1 : Int32)).toNatClampNeg) (gsub w e_shXM_shX_0)).bind fun q61 => ((F_X11_decades (xs (x3 + (1 : Int32)).toNatClampNeg) (gsub (gput w e_shXM_shX_0 q61.2) e_shXM_shM_138)).bind fun q62 => (if q61.1 = q62.1 then (f_L_law_1910 xs L k18 x3 (gput (gput w e_shXM_shX_0 q61.2) e_shXM_shM_138 q62.2)) else none))) else none) else (if ((xs x3.toNatClampNeg) &&& (63 : Int32)) = (10 : Int32) then (if gin (x3 + (1 : Int32)) L then ((F_X10_fault (gsub w e_shXM_shX_0) (xs (x3 + (1 : Int32)).toNatClampNeg)).bind fun q66 => ((F_X11_fault (gsub w e_shXM_shM_138) (xs (x3 + (1 : Int32)).toNatClampNeg)).bind fun q67 => (if q66 = q67 then (f_L_law_1910 xs L k18 x3 w) else none))) else none) else (if ((xs x3.toNatClampNeg) &&& (63 : Int32)) = (11 : Int32) then (if gin (x3 + (1 : Int32)) L then ((F_X10_told (xs (x3 + (1 : Int32)).toNatClampNeg) (gsub w e_shXM_shX_0)).bind fun q71 => ((F_X11_told (xs (x3 + (1 : Int32)).toNatClampNeg) (gsub (gput w e_shXM_shX_0 q71.2) e_shXM_shM_138)).bind fun q72 => (if q71.1 = q72.1 then (f_L_law_1910 xs L k18 x3 (gput (gput w e_shXM_shX_0 q71.2) e_shXM_shM_138 q72.2)) else none))) else none) else (if ((xs x3.toNatClampNeg) &&& (63 : Int32)) = (12 : Int32) then (if gin (x3 + (1 : Int32)) L then (if gin (x3 + (2 : Int32)) L then ((F_X10_corner (xs (x3 + (1 : Int32)).toNatClampNeg) (xs (x3 + (2 : Int32)).toNatClampNeg) (gsub w e_shXM_shX_0)).bind fun q77 => ((F_X11_corner (xs (x3 + (1 : Int32)).toNatClampNeg) (xs (x3 + (2 : Int32)).toNatClampNeg) (gsub (gput w e_shXM_shX_0 q77.2) e_shXM_shM_138)).bind fun q78 => (if q77.1 = q78.1 then (f_L_law_1910 xs L k18 x3 (gput (gput w e_shXM_shX_0 q77.2) e_shXM_shM_138 q78.2)) else none))) else none) else none) else (if ((xs x3.toNatClampNeg) &&& (63 : Int32)) = (13 : Int32) then (if gin (x3 + (1 : Int32)) L then (if gin (x3 + (2 : Int32)) L then ((F_X10_rank (xs (x3 + (1 : Int32)).toNatClampNeg) (xs (x3 + (2 : Int32)).toNatClampNeg) (gsub w e_shXM_shX_0)).bind fun q83 => ((F_X11_rank (xs (x3 + (1 : Int32)).toNatClampNeg) (xs (x3 + (2 : Int32)).toNatClampNeg) (gsub (gput w e_shXM_shX_0 q83.2) e_shXM_shM_138)).bind fun q84 => (if q83.1 = q84.1 then (f_L_law_1910 xs L k18 x3 (gput (gput w e_shXM_shX_0 q83.2) e_shXM_shM_138 q84.2)) else none))) else none) else none) else (if ((xs x3.toNatClampNeg) &&& (63 : Int32)) = (14 : Int32) then (if gin (x3 + (1 : Int32)) L then (if gin (x3 + (2 : Int32)) L then ((F_X10_clerk (xs (x3 + (1 : Int32)).toNatClampNeg) (xs (x3 + (2 : Int32)).toNatClampNeg) (gsub w e_shXM_shX_0)).bind fun q89 => ((F_X11_clerk (xs (x3 + (1 : Int32)).toNatClampNeg) (xs (x3 + (2 : Int32)).toNatClampNeg) (gsub (gput w e_shXM_shX_0 q89.2) e_shXM_shM_138)).bind fun q90 => (if q89.1 = q90.1 then (f_L_law_1910 xs L k18 x3 (gput (gput w e_shXM_shX_0 q89.2) e_shXM_shM_138 q90.2)) else none))) else none) else none) else (if ((xs x3.toNatClampNeg) &&& (63 : Int32)) = (15 : Int32) then (if gin (x3 + (1 : Int32)) L then ((F_X10_rankOf (xs (x3 + (1 : Int32)).toNatClampNeg) (gsub w e_shXM_shX_0)).bind fun q94 => ((F_X11_rankOf (xs (x3 + (1 : Int32)).toNatClampNeg) (gsub (gput w e_shXM_shX_0 q94.2) e_shXM_shM_138)).bind fun q95 => (if q94.1 = q95.1 then (f_L_law_1910 xs L k18 x3 (gput (gput w e_shXM_shX_0 q94.2) e_shXM_shM_138 q95.2)) else none))) else none) else (if ((xs x3.toNatClampNeg) &&& (63 : Int32)) = (16 : Int32) then (if gin (x3 + (1 : Int32)) L then (if gin (x3 + (2 : Int32)) L then ((F_X10_client (xs (x3 + (1 : Int32)).toNatClampNeg) (xs (x3 + (2 : Int32)).toNatClampNeg) (gsub w e_shXM_shX_0)).bind fun q100 => ((F_X11_client (xs (x3 + (1 : Int32)).toNatClampNeg) (xs (x3 + (2 : Int32)).toNatClampNeg) (gsub (gput w e_shXM_shX_0 q100.2) e_shXM_shM_138)).bind fun q101 => (if q100.1 = q101.1 then (f_L_law_1910 xs L k18 x3 (gput (gput w e_shXM_shX_0 q100.2) e_shXM_shM_138 q101.2)) else none))) else none) else none) else (if ((xs x3.toNatClampNeg) &&& (63 : Int32)) = (17 : Int32) then (if gin (x3 + (1 : Int32)) L then ((F_X10_year (xs (x3 + (1 : Int32)).toNatClampNeg) (gsub w e_shXM_shX_0)).bind fun q105 => ((F_X11_year (xs (x3 + (1 : Int32)).toNatClampNeg) (gsub (gput w e_shXM_shX_0 q105.2) e_shXM_shM_138)).bind fun q106 => (if q105.1 = q106.1 then (f_L_law_1910 xs L k18 x3 (gput (gput w e_shXM_shX_0 q105.2) e_shXM_shM_138 q106.2)) else none))) else none) else (if ((xs x3.toNatClampNeg) &&& (63 : Int32)) = (18 : Int32) then (if gin (x3 + (1 : Int32)) L then (if gin (x3 + (2 : Int32)) L then ((F_X10_move (xs (x3 + (1 : Int32)).toNatClampNeg) (xs (x3 + (2 : Int32)).toNatClampNeg) (gsub w e_shXM_shX_0)).bind fun q111 => ((F_X11_move (xs (x3 + (1 : Int32)).toNatClampNeg) (xs (x3 + (2 : Int32)).toNatClampNeg) (gsub (gput w e_shXM_shX_0 q111.2) e_shXM_shM_138)).bind fun q112 => (if q111.1 = q112.1 then (f_L_law_1910 xs L k18 x3 (gput (gput w e_shXM_shX_0 q111.2) e_shXM_shM_138 q112.2)) else none))) else none) else none) else (if ((xs x3.toNatClampNeg) &&& (63 : Int32)) = (19 : Int32) then (if gin (x3 + (1 : Int32)) L then (if gin (x3 + (2 : Int32)) L then ((F_X10_swap (xs (x3 + (1 : Int32)).toNatClampNeg) (xs (x3 + (2 : Int32)).toNatClampNeg) (gsub w e_shXM_shX_0)).bind fun q117 => ((F_X11_swap (xs (x3 + (1 : Int32)).toNatClampNeg) (xs (x3 + (2 : Int32)).toNatClampNeg) (gsub (gput w e_shXM_shX_0 q117.2) e_shXM_shM_138)).bind fun q118 => (if q117.1 = q118.1 then (f_L_law_1910 xs L k18 x3 (gput (gput w e_shXM_shX_0 q117.2) e_shXM_shM_138 q118.2)) else none))) else none) else none) else (if ((xs x3.toNatClampNeg) &&& (63 : Int32)) = (20 : Int32) then (if gin (x3 + (1 : Int32)) L then (if gin (x3 + (2 : Int32)) L then ((F_X10_fan (xs (x3 + (1 : Int32)).toNatClampNeg) (xs (x3 + (2 : Int32)).toNatClampNeg) (gsub w e_shXM_shX_0)).bind fun q123 => ((F_X11_fan (xs (x3 + (1 : Int32)).toNatClampNeg) (xs (x3 + (2 : Int32)).toNatClampNeg) (gsub (gput w e_shXM_shX_0 q123.2) e_shXM_shM_138)).bind fun q124 => (if q123.1 = q124.1 then (f_L_law_1910 xs L k18 x3 (gput (gput w e_shXM_shX_0 q123.2) e_shXM_shM_138 q124.2)) else none))) else none) else none) else (if ((xs x3.toNatClampNeg) &&& (63 : Int32)) = (21 : Int32) then (if gin (x3 + (1 : Int32)) L then ((F_X10_dust (xs (x3 + (1 : Int32)).toNatClampNeg) (gsub w e_shXM_shX_0)).bind fun q128 => ((F_X11_dust (xs (x3 + (1 : Int32)).toNatClampNeg) (gsub (gput w e_shXM_shX_0 q128.2) e_shXM_shM_138)).bind fun q129 => (if q128.1 = q129.1 then (f_L_law_1910 xs L k18 x3 (gput (gput w e_shXM_shX_0 q128.2) e_shXM_shM_138 q129.2)) else none))) else none) else (if ((xs x3.toNatClampNeg) &&& (63 : Int32)) = (22 : Int32) then (if gin (x3 + (1 : Int32)) L then ((F_X10_look (xs (x3 + (1 : Int32)).toNatClampNeg) (gsub w e_shXM_shX_0)).bind fun q133 => ((F_X11_look (xs (x3 + (1 : Int32)).toNatClampNeg) (gsub (gput w e_shXM_shX_0 q133.2) e_shXM_shM_138)).bind fun q134 => (if q133.1 = q134.1 then (f_L_law_1910 xs L k18 x3 (gput (gput w e_shXM_shX_0 q133.2) e_shXM_shM_138 q134.2)) else none))) else none) else (if ((xs x3.toNatClampNeg) &&& (63 : Int32)) = (23 : Int32) then ((F_X10_run (gsub w e_shXM_shX_0)).bind fun q137 => ((F_X11_run (gsub (gput w e_shXM_shX_0 q137.2) e_shXM_shM_138)).bind fun q138 => (if q137.1 = q138.1 then (f_L_law_1910 xs L k18 x3 (gput (gput w e_shXM_shX_0 q137.2) e_shXM_shM_138 q138.2)) else none))) else (if ((xs x3.toNatClampNeg) &&& (63 : Int32)) = (24 : Int32) then (if gin (x3 + (1 : Int32)) L then ((F_X10_hire (xs (x3 + (1 : Int32)).toNatClampNeg) (gsub w e_shXM_shX_0)).bind fun q142 => ((F_X11_hire (xs (x3 + (1 : Int32)).toNatClampNeg) (gsub (gput w e_shXM_shX_0 q142.2) e_shXM_shM_138)).bind fun q143 => (if q142.1 = q143.1 then (f_L_law_1910 xs L k18 x3 (gput (gput w e_shXM_shX_0 q142.2) e_shXM_shM_138 q143.2)) else none))) else none) else (if ((xs x3.toNatClampNeg) &&& (63 : Int32)) = (25 : Int32) then (if gin (x3 + (1 : Int32)) L then (if gin (x3 + (2 : Int32)) L then ((F_X10_open (xs (x3 + (1 : Int32)).toNatClampNeg) (xs (x3 + (2 : Int32)).toNatClampNeg) (gsub w e_shXM_shX_0)).bind fun q148 => ((F_X11_open (xs (x3 + (1 : Int32)).toNatClampNeg) (xs (x3 + (2 : Int32)).toNatClampNeg) (gsub (gput w e_shXM_shX_0 q148.2) e_shXM_shM_138)).bind fun q149 => (if q148.1 = q149.1 then (f_L_law_1910 xs L k18 x3 (gput (gput w e_shXM_shX_0 q148.2) e_shXM_shM_138 q149.2)) else none))) else none) else none) else (if ((xs x3.toNatClampNeg) &&& (63 : Int32)) = (26 : Int32) then (if gin (x3 + (1 : Int32)) L then (if gin (x3 + (2 : Int32)) L then ((F_X10_calm (xs (x3 + (1 : Int32)).toNatClampNeg) (xs (x3 + (2 : Int32)).toNatClampNeg) (gsub w e_shXM_shX_0)).bind fun q154 => ((F_X11_calm (xs (x3 + (1 : Int32)).toNatClampNeg) (xs (x3 + (2 : Int32)).toNatClampNeg) (gsub (gput w e_shXM_shX_0 q154.2) e_shXM_shM_138)).bind fun q155 => (if q154.1 = q155.1 then (f_L_law_1910 xs L k18 x3 (gput (gput w e_shXM_shX_0 q154.2) e_shXM_shM_138 q155.2)) else none))) else none) else none) else (if ((xs x3.toNatClampNeg) &&& (63 : Int32)) = (27 : Int32) then (if gin (x3 + (1 : Int32)) L then (if gin (x3 + (2 : Int32)) L then ((F_X10_rule (xs (x3 + (1 : Int32)).toNatClampNeg) (xs (x3 + (2 : Int32)).toNatClampNeg) (gsub w e_shXM_shX_0)).bind fun q160 => ((F_X11_rule (xs (x3 + (1 : Int32)).toNatClampNeg) (xs (x3 + (2 : Int32)).toNatClampNeg) (gsub (gput w e_shXM_shX_0 q160.2) e_shXM_shM_138)).bind fun q161 => (if q160.1 = q161.1 then (f_L_law_1910 xs L k18 x3 (gput (gput w e_shXM_shX_0 q160.2) e_shXM_shM_138 q161.2)) else none))) else none) else none) else (if ((xs x3.toNatClampNeg) &&& (63 : Int32)) = (28 : Int32) then (if gin (x3 + (1 : Int32)) L then (if gin (x3 + (2 : Int32)) L then ((F_X10_greyIn (xs (x3 + (1 : Int32)).toNatClampNeg) (xs (x3 + (2 : Int32)).toNatClampNeg) (gsub w e_shXM_shX_0)).bind fun q166 => ((F_X11_greyIn (xs (x3 + (1 : Int32)).toNatClampNeg) (xs (x3 + (2 : Int32)).toNatClampNeg) (gsub (gput w e_shXM_shX_0 q166.2) e_shXM_shM_138)).bind fun q167 => (if q166.1 = q167.1 then (f_L_law_1910 xs L k18 x3 (gput (gput w e_shXM_shX_0 q166.2) e_shXM_shM_138 q167.2)) else none))) else none) else none) else (if ((xs x3.toNatClampNeg) &&& (63 : Int32)) = (29 : Int32) then (if gin (x3 + (1 : Int32)) L then (if gin (x3 + (2 : Int32)) L then ((F_X10_rankIn (xs (x3 + (1 : Int32)).toNatClampNeg) (xs (x3 + (2 : Int32)).toNatClampNeg) (gsub w e_shXM_shX_0)).bind fun q172 => ((F_X11_rankIn (xs (x3 + (1 : Int32)).toNatClampNeg) (xs (x3 + (2 : Int32)).toNatClampNeg) (gsub (gput w e_shXM_shX_0 q172.2) e_shXM_shM_138)).bind fun q173 => (if q172.1 = q173.1 then (f_L_law_1910 xs L k18 x3 (gput (gput w e_shXM_shX_0 q172.2) e_shXM_shM_138 q173.2)) else none))) else none) else none) else (if ((xs x3.toNatClampNeg) &&& (63 : Int32)) = (30 : Int32) then ((F_X10_unpaidIn (gsub w e_shXM_shX_0)).bind fun q176 => ((F_X11_unpaidIn (gsub (gput w e_shXM_shX_0 q176.2) e_shXM_shM_138)).bind fun q177 => (if q176.1 = q177.1 then (f_L_law_1910 xs L k18 x3 (gput (gput w e_shXM_shX_0 q176.2) e_shXM_shM_138 q177.2)) else none))) else (if ((xs x3.toNatClampNeg) &&& (63 : Int32)) = (31 : Int32) then (if gin (x3 + (1 : Int32)) L then ((F_X10_cashIn (xs (x3 + (1 : Int32)).toNatClampNeg) (gsub w e_shXM_shX_0)).bind fun q181 => ((F_X11_cashIn (xs (x3 + (1 : Int32)).toNatClampNeg) (gsub (gput w e_shXM_shX_0 q181.2) e_shXM_shM_138)).bind fun q182 => (if q181.1 = q182.1 then (f_L_law_1910 xs L k18 x3 (gput (gput w e_shXM_shX_0 q181.2) e_shXM_shM_138 q182.2)) else none))) else none) else (if ((xs x3.toNatClampNeg) &&& (63 : Int32)) = (32 : Int32) then (if gin (x3 + (1 : Int32)) L then ((F_X10_seating (xs (x3 + (1 : Int32)).toNatClampNeg) (gsub w e_shXM_shX_0)).bind fun q186 => ((F_X11_seating (xs (x3 + (1 : Int32)).toNatClampNeg) (gsub (gput w e_shXM_shX_0 q186.2) e_shXM_shM_138)).bind fun q187 => (if q186.1 = q187.1 then (f_L_law_1910 xs L k18 x3 (gput (gput w e_shXM_shX_0 q186.2) e_shXM_shM_138 q187.2)) else none))) else none) else (if ((xs x3.toNatClampNeg) &&& (63 : Int32)) = (33 : Int32) then (if gin (x3 + (1 : Int32)) L then (if gin (x3 + (2 : Int32)) L then ((F_X10_seatOf (xs (x3 + (1 : Int32)).toNatClampNeg) (xs (x3 + (2 : Int32)).toNatClampNeg) (gsub w e_shXM_shX_0)).bind fun q192 => ((F_X11_seatOf (xs (x3 + (1 : Int32)).toNatClampNeg) (xs (x3 + (2 : Int32)).toNatClampNeg) (gsub (gput w e_shXM_shX_0 q192.2) e_shXM_shM_138)).bind fun q193 => (if q192.1 = q193.1 then (f_L_law_1910 xs L k18 x3 (gput (gput w e_shXM_shX_0 q192.2) e_shXM_shM_138 q193.2)) else none))) else none) else none) else (if ((xs x3.toNatClampNeg) &&& (63 : Int32)) = (34 : Int32) then (if gin (x3 + (1 : Int32)) L then ((F_X10_liked (xs (x3 + (1 : Int32)).toNatClampNeg) (gsub w e_shXM_shX_0)).bind fun q197 => ((F_X11_liked (xs (x3 + (1 : Int32)).toNatClampNeg) (gsub (gput w e_shXM_shX_0 q197.2) e_shXM_shM_138)).bind fun q198 => (if q197.1 = q198.1 then (f_L_law_1910 xs L k18 x3 (gput (gput w e_shXM_shX_0 q197.2) e_shXM_shM_138 q198.2)) else none))) else none) else (if ((xs x3.toNatClampNeg) &&& (63 : Int32)) = (35 : Int32) then (if gin (x3 + (1 : Int32)) L then (if gin (x3 + (2 : Int32)) L then (if gin (x3 + (3 : Int32)) L then ((F_X10_isLiked (xs (x3 + (1 : Int32)).toNatClampNeg) (xs (x3 + (2 : Int32)).toNatClampNeg) (xs (x3 + (3 : Int32)).toNatClampNeg) (gsub w e_shXM_shX_0)).bind fun q204 => ((F_X11_isLiked (xs (x3 + (1 : Int32)).toNatClampNeg) (xs (x3 + (2 : Int32)).toNatClampNeg) (xs (x3 + (3 : Int32)).toNatClampNeg) (gsub (gput w e_shXM_shX_0 q204.2) e_shXM_shM_138)).bind fun q205 => (if q204.1 = q205.1 then (f_L_law_1910 xs L k18 x3 (gput (gput w e_shXM_shX_0 q204.2) e_shXM_shM_138 q205.2)) else none))) else none) else none) else none) else (if ((xs x3.toNatClampNeg) &&& (63 : Int32)) = (36 : Int32) then (if gin (x3 + (1 : Int32)) L then (if gin (x3 + (2 : Int32)) L then ((F_X10_soon (xs (x3 + (1 : Int32)).toNatClampNeg) (xs (x3 + (2 : Int32)).toNatClampNeg) (gsub w e_shXM_shX_0)).bind fun q210 => ((F_X11_soon (xs (x3 + (1 : Int32)).toNatClampNeg) (xs (x3 + (2 : Int32)).toNatClampNeg) (gsub (gput w e_shXM_shX_0 q210.2) e_shXM_shM_138)).bind fun q211 => (if q210.1 = q211.1 then (f_L_law_1910 xs L k18 x3 (gput (gput w e_shXM_shX_0 q210.2) e_shXM_shM_138 q211.2)) else none))) else none) else none) else (if ((xs x3.toNatClampNeg) &&& (63 : Int32)) = (37 : Int32) then (if gin (x3 + (1 : Int32)) L then (if gin (x3 + (2 : Int32)) L then ((F_X10_soonAt (xs (x3 + (1 : Int32)).toNatClampNeg) (xs (x3 + (2 : Int32)).toNatClampNeg) (gsub w e_shXM_shX_0)).bind fun q216 => ((F_X11_soonAt (xs (x3 + (1 : Int32)).toNatClampNeg) (xs (x3 + (2 : Int32)).toNatClampNeg) (gsub (gput w e_shXM_shX_0 q216.2) e_shXM_shM_138)).bind fun q217 => (if q216.1 = q217.1 then (f_L_law_1910 xs L k18 x3 (gput (gput w e_shXM_shX_0 q216.2) e_shXM_shM_138 q217.2)) else none))) else none) else none) else (if ((xs x3.toNatClampNeg) &&& (63 : Int32)) = (38 : Int32) then (if gin (x3 + (1 : Int32)) L then (if gin (x3 + (2 : Int32)) L then (if gin (x3 + (3 : Int32)) L then ((F_X10_worth (xs (x3 + (1 : Int32)).toNatClampNeg) (xs (x3 + (2 : Int32)).toNatClampNeg) (xs (x3 + (3 : Int32)).toNatClampNeg) (gsub w e_shXM_shX_0)).bind fun q223 => ((F_X11_worth (xs (x3 + (1 : Int32)).toNatClampNeg) (xs (x3 + (2 : Int32)).toNatClampNeg) (xs (x3 + (3 : Int32)).toNatClampNeg) (gsub (gput w e_shXM_shX_0 q223.2) e_shXM_shM_138)).bind fun q224 => (if q223.1 = q224.1 then (f_L_law_1910 xs L k18 x3 (gput (gput w e_shXM_shX_0 q223.2) e_shXM_shM_138 q224.2)) else none))) else none) else none) else none) else (if ((xs x3.toNatClampNeg) &&& (63 : Int32)) = (39 : Int32) then (if gin (x3 + (1 : Int32)) L then (if gin (x3 + (2 : Int32)) L then ((F_X10_leastFan (xs (x3 + (1 : Int32)).toNatClampNeg) (xs (x3 + (2 : Int32)).toNatClampNeg) (gsub w e_shXM_shX_0)).bind fun q229 => ((F_X11_leastFan (xs (x3 + (1 : Int32)).toNatClampNeg) (xs (x3 + (2 : Int32)).toNatClampNeg) (gsub (gput w e_shXM_shX_0 q229.2) e_shXM_shM_138)).bind fun q230 => (if q229.1 = q230.1 then (f_L_law_1910 xs L k18 x3 (gput (gput w e_shXM_shX_0 q229.2) e_shXM_shM_138 q230.2)) else none))) else none) else none) else (if ((xs x3.toNatClampNeg) &&& (63 : Int32)) = (40 : Int32) then (if gin (x3 + (1 : Int32)) L then (if gin (x3 + (2 : Int32)) L then ((F_X10_fits (xs (x3 + (1 : Int32)).toNatClampNeg) (xs (x3 + (2 : Int32)).toNatClampNeg) (gsub w e_shXM_shX_0)).bind fun q235 => ((F_X11_fits (xs (x3 + (1 : Int32)).toNatClampNeg) (xs (x3 + (2 : Int32)).toNatClampNeg) (gsub (gput w e_shXM_shX_0 q235.2) e_shXM_shM_138)).bind fun q236 => (if q235.1 = q236.1 then (f_L_law_1910 xs L k18 x3 (gput (gput w e_shXM_shX_0 q235.2) e_shXM_shM_138 q236.2)) else none))) else none) else none) else (if ((xs x3.toNatClampNeg) &&& (63 : Int32)) = (41 : Int32) then (if gin (x3 + (1 : Int32)) L then (if gin (x3 + (2 : Int32)) L then (if gin (x3 + (3 : Int32)) L then ((F_X10_fitsAt (xs (x3 + (1 : Int32)).toNatClampNeg) (xs (x3 + (2 : Int32)).toNatClampNeg) (xs (x3 + (3 : Int32)).toNatClampNeg) (gsub w e_shXM_shX_0)).bind fun q242 => ((F_X11_fitsAt (xs (x3 + (1 : Int32)).toNatClampNeg) (xs (x3 + (2 : Int32)).toNatClampNeg) (xs (x3 + (3 : Int32)).toNatClampNeg) (gsub (gput w e_shXM_shX_0 q242.2) e_shXM_shM_138)).bind fun q243 => (if q242.1 = q243.1 then (f_L_law_1910 xs L k18 x3 (gput (gput w e_shXM_shX_0 q242.2) e_shXM_shM_138 q243.2)) else none))) else none) else none) else none) else (if ((xs x3.toNatClampNeg) &&& (63 : Int32)) = (42 : Int32) then (if gin (x3 + (1 : Int32)) L then (if gin (x3 + (2 : Int32)) L then ((F_X10_ask (xs (x3 + (1 : Int32)).toNatClampNeg) (xs (x3 + (2 : Int32)).toNatClampNeg) (gsub w e_shXM_shX_0)).bind fun q248 => ((F_X11_ask (xs (x3 + (1 : Int32)).toNatClampNeg) (xs (x3 + (2 : Int32)).toNatClampNeg) (gsub (gput w e_shXM_shX_0 q248.2) e_shXM_shM_138)).bind fun q249 => (if q248.1 = q249.1 then (f_L_law_1910 xs L k18 x3 (gput (gput w e_shXM_shX_0 q248.2) e_shXM_shM_138 q249.2)) else none))) else none) else none) else (if ((xs x3.toNatClampNeg) &&& (63 : Int32)) = (43 : Int32) then ((F_X10_comes (gsub w e_shXM_shX_0)).bind fun q252 => ((F_X11_comes (gsub (gput w e_shXM_shX_0 q252.2) e_shXM_shM_138)).bind fun q253 => (if q252.1 = q253.1 then (f_L_law_1910 xs L k18 x3 (gput (gput w e_shXM_shX_0 q252.2) e_shXM_shM_138 q253.2)) else none))) else (if ((xs x3.toNatClampNeg) &&& (63 : Int32)) = (44 : Int32) then ((F_X10_comesFor (gsub w e_shXM_shX_0)).bind fun q256 => ((F_X11_comesFor (gsub (gput w e_shXM_shX_0 q256.2) e_shXM_shM_138)).bind fun q257 => (if q256.1 = q257.1 then (f_L_law_1910 xs L k18 x3 (gput (gput w e_shXM_shX_0 q256.2) e_shXM_shM_138 q257.2)) else none))) else (if ((xs x3.toNatClampNeg) &&& (63 : Int32)) = (45 : Int32) then ((F_X10_calms (gsub w e_shXM_shX_0)).bind fun q260 => ((F_X11_calms (gsub (gput w e_shXM_shX_0 q260.2) e_shXM_shM_138)).bind fun q261 => (if q260.1 = q261.1 then (f_L_law_1910 xs L k18 x3 (gput (gput w e_shXM_shX_0 q260.2) e_shXM_shM_138 q261.2)) else none))) else (if ((xs x3.toNatClampNeg) &&& (63 : Int32)) = (46 : Int32) then ((F_X10_calmSet (gsub w e_shXM_shX_0)).bind fun q264 => ((F_X11_calmSet (gsub (gput w e_shXM_shX_0 q264.2) e_shXM_shM_138)).bind fun q265 => (if q264.1 = q265.1 then (f_L_law_1910 xs L k18 x3 (gput (gput w e_shXM_shX_0 q264.2) e_shXM_shM_138 q265.2)) else none))) else (if ((xs x3.toNatClampNeg) &&& (63 : Int32)) = (47 : Int32) then (if gin (x3 + (1 : Int32)) L then (if gin (x3 + (2 : Int32)) L then ((F_X10_game (xs (x3 + (1 : Int32)).toNatClampNeg) (xs (x3 + (2 : Int32)).toNatClampNeg) (gsub w e_shXM_shX_0)).bind fun q270 => ((F_X11_game (xs (x3 + (1 : Int32)).toNatClampNeg) (xs (x3 + (2 : Int32)).toNatClampNeg) (gsub (gput w e_shXM_shX_0 q270.2) e_shXM_shM_138)).bind fun q271 => (if q270.1 = q271.1 then (f_L_law_1910 xs L k18 x3 (gput (gput w e_shXM_shX_0 q270.2) e_shXM_shM_138 q271.2)) else none))) else none) else none) else (if ((xs x3.toNatClampNeg) &&& (63 : Int32)) = (48 : Int32) then (if gin (x3 + (1 : Int32)) L then (if gin (x3 + (2 : Int32)) L then ((F_X10_who (xs (x3 + (1 : Int32)).toNatClampNeg) (xs (x3 + (2 : Int32)).toNatClampNeg) (gsub w e_shXM_shX_0)).bind fun q276 => ((F_X11_who (xs (x3 + (1 : Int32)).toNatClampNeg) (xs (x3 + (2 : Int32)).toNatClampNeg) (gsub (gput w e_shXM_shX_0 q276.2) e_shXM_shM_138)).bind fun q277 => (if q276.1 = q277.1 then (f_L_law_1910 xs L k18 x3 (gput (gput w e_shXM_shX_0 q276.2) e_shXM_shM_138 q277.2)) else none))) else none) else none) else (if ((xs x3.toNatClampNeg) &&& (63 : Int32)) = (49 : Int32) then (if gin (x3 + (1 : Int32)) L then ((F_X10_shams (xs (x3 + (1 : Int32)).toNatClampNeg) (gsub w e_shXM_shX_0)).bind fun q281 => ((F_X11_shams (xs (x3 + (1 : Int32)).toNatClampNeg) (gsub (gput w e_shXM_shX_0 q281.2) e_shXM_shM_138)).bind fun q282 => (if q281.1 = q282.1 then (f_L_law_1910 xs L k18 x3 (gput (gput w e_shXM_shX_0 q281.2) e_shXM_shM_138 q282.2)) else none))) else none) else (if ((xs x3.toNatClampNeg) &&& (63 : Int32)) = (50 : Int32) then (if gin (x3 + (1 : Int32)) L then ((F_X10_share (xs (x3 + (1 : Int32)).toNatClampNeg) (gsub w e_shXM_shX_0)).bind fun q286 => ((F_X11_share (xs (x3 + (1 : Int32)).toNatClampNeg) (gsub (gput w e_shXM_shX_0 q286.2) e_shXM_shM_138)).bind fun q287 => (if q286.1 = q287.1 then (f_L_law_1910 xs L k18 x3 (gput (gput w e_shXM_shX_0 q286.2) e_shXM_shM_138 q287.2)) else none))) else none) else (if ((xs x3.toNatClampNeg) &&& (63 : Int32)) = (51 : Int32) then (if gin (x3 + (1 : Int32)) L then ((F_X10_copyGrey (xs (x3 + (1 : Int32)).toNatClampNeg) (gsub w e_shXM_shX_0)).bind fun q291 => ((F_X11_copyGrey (xs (x3 + (1 : Int32)).toNatClampNeg) (gsub (gput w e_shXM_shX_0 q291.2) e_shXM_shM_138)).bind fun q292 => (if q291.1 = q292.1 then (f_L_law_1910 xs L k18 x3 (gput (gput w e_shXM_shX_0 q291.2) e_shXM_shM_138 q292.2)) else none))) else none) else (if ((xs x3.toNatClampNeg) &&& (63 : Int32)) = (52 : Int32) then (if gin (x3 + (1 : Int32)) L then ((F_X10_live (xs (x3 + (1 : Int32)).toNatClampNeg) (gsub w e_shXM_shX_0)).bind fun q296 => ((F_X11_live (xs (x3 + (1 : Int32)).toNatClampNeg) (gsub (gput w e_shXM_shX_0 q296.2) e_shXM_shM_138)).bind fun q297 => (if q296.1 = q297.1 then (f_L_law_1910 xs L k18 x3 (gput (gput w e_shXM_shX_0 q296.2) e_shXM_shM_138 q297.2)) else none))) else none) else (if ((xs x3.toNatClampNeg) &&& (63 : Int32)) = (53 : Int32) then (if gin (x3 + (1 : Int32)) L then ((F_X10_lived (xs (x3 + (1 : Int32)).toNatClampNeg) (gsub w e_shXM_shX_0)).bind fun q301 => ((F_X11_lived (xs (x3 + (1 : Int32)).toNatClampNeg) (gsub (gput w e_shXM_shX_0 q301.2) e_shXM_shM_138)).bind fun q302 => (if q301.1 = q302.1 then (f_L_law_1910 xs L k18 x3 (gput (gput w e_shXM_shX_0 q301.2) e_shXM_shM_138 q302.2)) else none))) else none) else (if ((xs x3.toNatClampNeg) &&& (63 : Int32)) = (54 : Int32) then (if gin (x3 + (1 : Int32)) L then (if gin (x3 + (2 : Int32)) L then ((F_X10_mean (xs (x3 + (1 : Int32)).toNatClampNeg) (xs (x3 + (2 : Int32)).toNatClampNeg) (gsub w e_shXM_shX_0)).bind fun q307 => ((F_X11_mean (xs (x3 + (1 : Int32)).toNatClampNeg) (xs (x3 + (2 : Int32)).toNatClampNeg) (gsub (gput w e_shXM_shX_0 q307.2) e_shXM_shM_138)).bind fun q308 => (if q307.1 = q308.1 then (f_L_law_1910 xs L k18 x3 (gput (gput w e_shXM_shX_0 q307.2) e_shXM_shM_138 q308.2)) else none))) else none) else none) else (if ((xs x3.toNatClampNeg) &&& (63 : Int32)) = (55 : Int32) then ((F_X10_mark (gsub w e_shXM_shX_0)).bind fun q311 => ((F_X11_mark (gsub (gput w e_shXM_shX_0 q311.2) e_shXM_shM_138)).bind fun q312 => (if q311.1 = q312.1 then (f_L_law_1910 xs L k18 x3 (gput (gput w e_shXM_shX_0 q311.2) e_shXM_shM_138 q312.2)) else none))) else (if ((xs x3.toNatClampNeg) &&& (63 : Int32)) = (56 : Int32) then ((F_X10_undo (gsub w e_shXM_shX_0)).bind fun q315 => ((F_X11_undo (gsub (gput w e_shXM_shX_0 q315.2) e_shXM_shM_138)).bind fun q316 => (if q315.1 = q316.1 then (f_L_law_1910 xs L k18 x3 (gput (gput w e_shXM_shX_0 q315.2) e_shXM_shM_138 q316.2)) else none))) else (f_L_law_1910 xs L k18 x3 w)))))))))))))))))))))))))))))))))))))))))))))))))))))))))) else none))
def f_L_law_18 (xs : Nat → Int32) (L : Nat) : Nat → Int32 → GW → Option Unit
  | 0, _, _ => none
  | n + 1, x3, w => b_L_law_18 xs L (f_L_law_18 xs L n) x3 w
set_option maxHeartbeats 4000000 in
set_option maxRecDepth 100000 in
theorem L_L_law_1910 {p : Program} {l : Launch} {e : Env} {s : State} {m : MethodId} {below : List Frame} {meth : Method} {c : Code} {D : va_G} {cA ad : Nat → Nat} {q : Unit} (C : gC p c code meth m s #[Value.ref (ad 6000)] 4 ret RL D cA ad shXM) {xs : Nat → Int32} {L : Nat} (hX : va_X (ad 6000) L xs s s.heap) (hb : ad 6000 < s.heap.size ∧ ¬ gA ad shXM.length (ad 6000)) (hnew : ∀ i, i < shXM.length → s.heap.size ≤ ad i) {k18 : Int32 → GW → Option Unit} (hk18 : ∀ (x3 : Int32) (w : GW), k18 x3 w = some q → gW p l e room_1 s m #[Value.ref (ad 6000)] below meth c D cA ad shXM 4 600000 7302250 (lw_Z below #[Value.ref (ad 6000)] s) 18 [(0, .ref 6000), (1, .ref 0), (2, .ref 138), (3, .int x3)] [] w) (x3 : Int32) (w : GW) (hf : f_L_law_1910 xs L k18 x3 w = some q) : gW p l e room_1 s m #[Value.ref (ad 6000)] below meth c D cA ad shXM 4 600000 7302250 (lw_Z below #[Value.ref (ad 6000)] s) 1910 [(0, .ref 6000), (1, .ref 0), (2, .ref 138), (3, .int x3)] [] w := by
  unfold f_L_law_1910 at hf
  refine g_iinc C (gdec dt_L_law 1308 rfl) (kk := 3) rfl (v := (x3 + (6 : Int32))) rfl (by decide) (lo2 := [(3, .int (x3 + (6 : Int32))), (0, .ref 6000), (1, .ref 0), (2, .ref 138)]) rfl ?_
  refine g_goto C (tgt := 18) (gdec dt_L_law 1309 rfl) (by decide) ?_
  refine g_sub [1, 2, 3, 0] (lo2 := [(0, .ref 6000), (1, .ref 0), (2, .ref 138), (3, .int (x3 + (6 : Int32)))]) rfl ?_
  exact hk18 (x3 + (6 : Int32)) w hf
set_option maxHeartbeats 4000000 in
set_option maxRecDepth 100000 in
theorem Lb_L_law_18 {p : Program} {l : Launch} {e : Env} {s : State} {m : MethodId} {below : List Frame} {meth : Method} {c : Code} {D : va_G} {cA ad : Nat → Nat} {q : Unit} (C : gC p c code meth m s #[Value.ref (ad 6000)] 4 ret RL D cA ad shXM) {xs : Nat → Int32} {L : Nat} (hX : va_X (ad 6000) L xs s s.heap) (hb : ad 6000 < s.heap.size ∧ ¬ gA ad shXM.length (ad 6000)) (hnew : ∀ i, i < shXM.length → s.heap.size ≤ ad i) {k18 : Int32 → GW → Option Unit} (hk18 : ∀ (x3 : Int32) (w : GW), k18 x3 w = some q → gW p l e room_1 s m #[Value.ref (ad 6000)] below meth c D cA ad shXM 4 600000 7302250 (lw_Z below #[Value.ref (ad 6000)] s) 18 [(0, .ref 6000), (1, .ref 0), (2, .ref 138), (3, .int x3)] [] w) (x3 : Int32) (w : GW) (hf : b_L_law_18 xs L k18 x3 w = some q) : gW p l e room_1 s m #[Value.ref (ad 6000)] below meth c D cA ad shXM 4 600000 7302250 (lw_Z below #[Value.ref (ad 6000)] s) 18 [(0, .ref 6000), (1, .ref 0), (2, .ref 138), (3, .int x3)] [] w := by
  unfold b_L_law_18 at hf
  refine g_iload_n C (gdec dt_L_law 10 rfl) (i := 3) rfl rfl ?_
  refine g_aload_n C (gdec dt_L_law 11 rfl) (i := 0) rfl rfl ?_
  refine g_slen0 C hX hb (gdec dt_L_law 12 rfl) ?_
  refine g_bipush C (gdec dt_L_law 13 rfl) bc_6 ?_
  refine g_isub C (gdec dt_L_law 14 rfl) ?_
  refine g_icmp_gt C (tgt := 1916) (gdec dt_L_law 15 rfl) (by decide) (fun hc1 => ?_) (fun hc1 => ?_)
  · have hf := (if_pos hc1).symm.trans hf
    refine g_iconst C (gdec dt_L_law 1310 rfl) ic_1 ?_
    exact g_lawret C hnew (gdec dt_L_law 1311 rfl)
  · have hf := (if_neg hc1).symm.trans hf
    refine g_aload_n C (gdec dt_L_law 16 rfl) (i := 0) rfl rfl ?_
    refine g_iload_n C (gdec dt_L_law 17 rfl) (i := 3) rfl rfl ?_
    obtain ⟨hg2, hf⟩ := gif hf
    refine g_sld0 C hX hb hg2 (gdec dt_L_law 18 rfl) ?_
    refine g_bipush C (gdec dt_L_law 19 rfl) bc_63 ?_
    refine g_iand C (gdec dt_L_law 20 rfl) ?_
    by_cases hc3 : ((xs x3.toNatClampNeg) &&& (63 : Int32)) = (0 : Int32)
    · have hf := (if_pos hc3).symm.trans hf
      refine g_tableIn C (tgt := 276) (off := 243) (gdec dt_L_law 21 rfl) (by rw [hc3]; decide) (by rw [hc3]; decide) (by rw [hc3]; decide) (by decide) ?_
      refine g_aload_n C (gdec dt_L_law 22 rfl) (i := 1) rfl rfl ?_
      obtain ⟨q4, hq4, hf⟩ := Option.bind_eq_some_iff.mp hf
      refine g_invVs e_shXM_shX_0 [] [] C (c_X10_status l D cA _ (gInj_sub em_e_shXM_shX_0 (gCi C)) (gsub w e_shXM_shX_0)  q4 hq4) em_e_shXM_shX_0 (by decide) rfl kT_X10_status kl_L_13 kim_X10_status kse_X10_status rfl rfl (i := 0) rfl rfl ⟨by decide, by decide⟩ ⟨Nat.le_refl _, Nat.le_refl _⟩ (Nat.le_of_ble_eq_true rfl) (gdec dt_L_law 23 rfl) rfl (st2 := [.int q4]) (w2 := w) rfl (gput_sub _ _) ?_
      refine g_aload_n C (gdec dt_L_law 24 rfl) (i := 2) rfl rfl ?_
      obtain ⟨q5, hq5, hf⟩ := Option.bind_eq_some_iff.mp hf
      refine g_invVs e_shXM_shM_138 [] [.int q4] C (c_X11_status l D cA _ (gInj_sub em_e_shXM_shM_138 (gCi C)) (gsub w e_shXM_shM_138)  q5 hq5) em_e_shXM_shM_138 (by decide) rfl kT_X11_status kl_L_17 kim_X11_status kse_X11_status rfl rfl (i := 138) rfl rfl ⟨by decide, by decide⟩ ⟨Nat.le_refl _, Nat.le_refl _⟩ (Nat.le_of_ble_eq_true rfl) (gdec dt_L_law 25 rfl) rfl (st2 := [.int q5, .int q4]) (w2 := w) rfl (gput_sub _ _) ?_
      refine g_icmp_eq C (tgt := 1910) (gdec dt_L_law 26 rfl) (by decide) (fun hc6 => ?_) (fun hc6 => ?_)
      · have hf := (if_pos hc6).symm.trans hf
        refine g_sub [0, 1, 2, 3] (lo2 := [(0, .ref 6000), (1, .ref 0), (2, .ref 138), (3, .int x3)]) rfl ?_
        exact L_L_law_1910 C hX hb hnew hk18 x3 w hf
      · have hf := (if_neg hc6).symm.trans hf
        refine g_iconst C (gdec dt_L_law 27 rfl) ic_0 ?_
        cases hf
    replace hf := (if_neg hc3).symm.trans hf
    by_cases hc7 : ((xs x3.toNatClampNeg) &&& (63 : Int32)) = (1 : Int32)
    · have hf := (if_pos hc7).symm.trans hf
      refine g_tableIn C (tgt := 289) (off := 256) (gdec dt_L_law 21 rfl) (by rw [hc7]; decide) (by rw [hc7]; decide) (by rw [hc7]; decide) (by decide) ?_
      refine g_aload_n C (gdec dt_L_law 29 rfl) (i := 1) rfl rfl ?_
      obtain ⟨q8, hq8, hf⟩ := Option.bind_eq_some_iff.mp hf
      refine g_invVs e_shXM_shX_0 [] [] C (c_X10_top l D cA _ (gInj_sub em_e_shXM_shX_0 (gCi C)) (gsub w e_shXM_shX_0)  q8 hq8) em_e_shXM_shX_0 (by decide) rfl kT_X10_top kl_L_18 kim_X10_top kse_X10_top rfl rfl (i := 0) rfl rfl ⟨by decide, by decide⟩ ⟨Nat.le_refl _, Nat.le_refl _⟩ (Nat.le_of_ble_eq_true rfl) (gdec dt_L_law 30 rfl) rfl (st2 := [.long q8]) (w2 := w) rfl (gput_sub _ _) ?_
      refine g_aload_n C (gdec dt_L_law 31 rfl) (i := 2) rfl rfl ?_
      obtain ⟨q9, hq9, hf⟩ := Option.bind_eq_some_iff.mp hf
      refine g_invVs e_shXM_shM_138 [] [.long q8] C (c_X11_top l D cA _ (gInj_sub em_e_shXM_shM_138 (gCi C)) (gsub w e_shXM_shM_138)  q9 hq9) em_e_shXM_shM_138 (by decide) rfl kT_X11_top kl_L_22 kim_X11_top kse_X11_top rfl rfl (i := 138) rfl rfl ⟨by decide, by decide⟩ ⟨Nat.le_refl _, Nat.le_refl _⟩ (Nat.le_of_ble_eq_true rfl) (gdec dt_L_law 32 rfl) rfl (st2 := [.long q9, .long q8]) (w2 := w) rfl (gput_sub _ _) ?_
      refine g_lcmp C (gdec dt_L_law 33 rfl) ?_
      refine g_if_eq C (tgt := 1910) (gdec dt_L_law 34 rfl) (by decide) (fun hc10 => ?_) (fun hc10 => ?_)
      · have hf := (if_pos hc10).symm.trans hf
        refine g_sub [0, 1, 2, 3] (lo2 := [(0, .ref 6000), (1, .ref 0), (2, .ref 138), (3, .int x3)]) rfl ?_
        exact L_L_law_1910 C hX hb hnew hk18 x3 w hf
      · have hf := (if_neg hc10).symm.trans hf
        refine g_iconst C (gdec dt_L_law 35 rfl) ic_0 ?_
        cases hf
    replace hf := (if_neg hc7).symm.trans hf
    by_cases hc11 : ((xs x3.toNatClampNeg) &&& (63 : Int32)) = (2 : Int32)
    · have hf := (if_pos hc11).symm.trans hf
      refine g_tableIn C (tgt := 303) (off := 270) (gdec dt_L_law 21 rfl) (by rw [hc11]; decide) (by rw [hc11]; decide) (by rw [hc11]; decide) (by decide) ?_
      refine g_aload_n C (gdec dt_L_law 37 rfl) (i := 1) rfl rfl ?_
      obtain ⟨q12, hq12, hf⟩ := Option.bind_eq_some_iff.mp hf
      refine g_invVs e_shXM_shX_0 [] [] C (c_X10_bottom l D cA _ (gInj_sub em_e_shXM_shX_0 (gCi C)) (gsub w e_shXM_shX_0)  q12 hq12) em_e_shXM_shX_0 (by decide) rfl kT_X10_bottom kl_L_23 kim_X10_bottom kse_X10_bottom rfl rfl (i := 0) rfl rfl ⟨by decide, by decide⟩ ⟨Nat.le_refl _, Nat.le_refl _⟩ (Nat.le_of_ble_eq_true rfl) (gdec dt_L_law 38 rfl) rfl (st2 := [.long q12]) (w2 := w) rfl (gput_sub _ _) ?_
      refine g_aload_n C (gdec dt_L_law 39 rfl) (i := 2) rfl rfl ?_
      obtain ⟨q13, hq13, hf⟩ := Option.bind_eq_some_iff.mp hf
      refine g_invVs e_shXM_shM_138 [] [.long q12] C (c_X11_bottom l D cA _ (gInj_sub em_e_shXM_shM_138 (gCi C)) (gsub w e_shXM_shM_138)  q13 hq13) em_e_shXM_shM_138 (by decide) rfl kT_X11_bottom kl_L_26 kim_X11_bottom kse_X11_bottom rfl rfl (i := 138) rfl rfl ⟨by decide, by decide⟩ ⟨Nat.le_refl _, Nat.le_refl _⟩ (Nat.le_of_ble_eq_true rfl) (gdec dt_L_law 40 rfl) rfl (st2 := [.long q13, .long q12]) (w2 := w) rfl (gput_sub _ _) ?_
      refine g_lcmp C (gdec dt_L_law 41 rfl) ?_
      refine g_if_eq C (tgt := 1910) (gdec dt_L_law 42 rfl) (by decide) (fun hc14 => ?_) (fun hc14 => ?_)
      · have hf := (if_pos hc14).symm.trans hf
        refine g_sub [0, 1, 2, 3] (lo2 := [(0, .ref 6000), (1, .ref 0), (2, .ref 138), (3, .int x3)]) rfl ?_
        exact L_L_law_1910 C hX hb hnew hk18 x3 w hf
      · have hf := (if_neg hc14).symm.trans hf
        refine g_iconst C (gdec dt_L_law 43 rfl) ic_0 ?_
        cases hf
    replace hf := (if_neg hc11).symm.trans hf
    by_cases hc15 : ((xs x3.toNatClampNeg) &&& (63 : Int32)) = (3 : Int32)
    · have hf := (if_pos hc15).symm.trans hf
      refine g_tableIn C (tgt := 317) (off := 284) (gdec dt_L_law 21 rfl) (by rw [hc15]; decide) (by rw [hc15]; decide) (by rw [hc15]; decide) (by decide) ?_
      refine g_aload_n C (gdec dt_L_law 45 rfl) (i := 1) rfl rfl ?_
      refine g_aload_n C (gdec dt_L_law 46 rfl) (i := 0) rfl rfl ?_
      refine g_iload_n C (gdec dt_L_law 47 rfl) (i := 3) rfl rfl ?_
      refine g_iconst C (gdec dt_L_law 48 rfl) ic_1 ?_
      refine g_iadd C (gdec dt_L_law 49 rfl) ?_
      obtain ⟨hg16, hf⟩ := gif hf
      refine g_sld0 C hX hb hg16 (gdec dt_L_law 50 rfl) ?_
      refine g_aload_n C (gdec dt_L_law 51 rfl) (i := 0) rfl rfl ?_
      refine g_iload_n C (gdec dt_L_law 52 rfl) (i := 3) rfl rfl ?_
      refine g_iconst C (gdec dt_L_law 53 rfl) ic_2 ?_
      refine g_iadd C (gdec dt_L_law 54 rfl) ?_
      obtain ⟨hg17, hf⟩ := gif hf
      refine g_sld0 C hX hb hg17 (gdec dt_L_law 55 rfl) ?_
      refine g_aload_n C (gdec dt_L_law 56 rfl) (i := 0) rfl rfl ?_
      refine g_iload_n C (gdec dt_L_law 57 rfl) (i := 3) rfl rfl ?_
      refine g_iconst C (gdec dt_L_law 58 rfl) ic_3 ?_
      refine g_iadd C (gdec dt_L_law 59 rfl) ?_
      obtain ⟨hg18, hf⟩ := gif hf
      refine g_sld0 C hX hb hg18 (gdec dt_L_law 60 rfl) ?_
      obtain ⟨q19, hq19, hf⟩ := Option.bind_eq_some_iff.mp hf
      refine g_invVs e_shXM_shX_0 [.int (xs (x3 + (1 : Int32)).toNatClampNeg), .int (xs (x3 + (2 : Int32)).toNatClampNeg), .int (xs (x3 + (3 : Int32)).toNatClampNeg)] [] C (c_X10_tray l D cA _ (gInj_sub em_e_shXM_shX_0 (gCi C)) (gsub w e_shXM_shX_0) (xs (x3 + (1 : Int32)).toNatClampNeg) (xs (x3 + (2 : Int32)).toNatClampNeg) (xs (x3 + (3 : Int32)).toNatClampNeg) q19 hq19) em_e_shXM_shX_0 (by decide) rfl kT_X10_tray kl_L_27 kim_X10_tray kse_X10_tray rfl rfl (i := 0) rfl rfl ⟨by decide, by decide⟩ ⟨Nat.le_refl _, Nat.le_refl _⟩ (Nat.le_of_ble_eq_true rfl) (gdec dt_L_law 61 rfl) rfl (st2 := [.int q19.1]) (w2 := (gput w e_shXM_shX_0 q19.2)) rfl rfl ?_
      refine g_aload_n C (gdec dt_L_law 62 rfl) (i := 2) rfl rfl ?_
      refine g_aload_n C (gdec dt_L_law 63 rfl) (i := 0) rfl rfl ?_
      refine g_iload_n C (gdec dt_L_law 64 rfl) (i := 3) rfl rfl ?_
      refine g_iconst C (gdec dt_L_law 65 rfl) ic_1 ?_
      refine g_iadd C (gdec dt_L_law 66 rfl) ?_
      refine g_sld0 C hX hb hg16 (gdec dt_L_law 67 rfl) ?_
      refine g_aload_n C (gdec dt_L_law 68 rfl) (i := 0) rfl rfl ?_
      refine g_iload_n C (gdec dt_L_law 69 rfl) (i := 3) rfl rfl ?_
      refine g_iconst C (gdec dt_L_law 70 rfl) ic_2 ?_
      refine g_iadd C (gdec dt_L_law 71 rfl) ?_
      refine g_sld0 C hX hb hg17 (gdec dt_L_law 72 rfl) ?_
      refine g_aload_n C (gdec dt_L_law 73 rfl) (i := 0) rfl rfl ?_
      refine g_iload_n C (gdec dt_L_law 74 rfl) (i := 3) rfl rfl ?_
      refine g_iconst C (gdec dt_L_law 75 rfl) ic_3 ?_
      refine g_iadd C (gdec dt_L_law 76 rfl) ?_
      refine g_sld0 C hX hb hg18 (gdec dt_L_law 77 rfl) ?_
      obtain ⟨q20, hq20, hf⟩ := Option.bind_eq_some_iff.mp hf
      refine g_invVs e_shXM_shM_138 [.int (xs (x3 + (1 : Int32)).toNatClampNeg), .int (xs (x3 + (2 : Int32)).toNatClampNeg), .int (xs (x3 + (3 : Int32)).toNatClampNeg)] [.int q19.1] C (c_X11_tray l D cA _ (gInj_sub em_e_shXM_shM_138 (gCi C)) (gsub (gput w e_shXM_shX_0 q19.2) e_shXM_shM_138) (xs (x3 + (1 : Int32)).toNatClampNeg) (xs (x3 + (2 : Int32)).toNatClampNeg) (xs (x3 + (3 : Int32)).toNatClampNeg) q20 hq20) em_e_shXM_shM_138 (by decide) rfl kT_X11_tray kl_L_31 kim_X11_tray kse_X11_tray rfl rfl (i := 138) rfl rfl ⟨by decide, by decide⟩ ⟨Nat.le_refl _, Nat.le_refl _⟩ (Nat.le_of_ble_eq_true rfl) (gdec dt_L_law 78 rfl) rfl (st2 := [.int q20.1, .int q19.1]) (w2 := (gput (gput w e_shXM_shX_0 q19.2) e_shXM_shM_138 q20.2)) rfl rfl ?_
      refine g_icmp_eq C (tgt := 1910) (gdec dt_L_law 79 rfl) (by decide) (fun hc21 => ?_) (fun hc21 => ?_)
      · have hf := (if_pos hc21).symm.trans hf
        refine g_sub [0, 1, 2, 3] (lo2 := [(0, .ref 6000), (1, .ref 0), (2, .ref 138), (3, .int x3)]) rfl ?_
        exact L_L_law_1910 C hX hb hnew hk18 x3 (gput (gput w e_shXM_shX_0 q19.2) e_shXM_shM_138 q20.2) hf
      · have hf := (if_neg hc21).symm.trans hf
        refine g_iconst C (gdec dt_L_law 80 rfl) ic_0 ?_
        cases hf
    replace hf := (if_neg hc15).symm.trans hf
    by_cases hc22 : ((xs x3.toNatClampNeg) &&& (63 : Int32)) = (4 : Int32)
    · have hf := (if_pos hc22).symm.trans hf
      refine g_tableIn C (tgt := 360) (off := 327) (gdec dt_L_law 21 rfl) (by rw [hc22]; decide) (by rw [hc22]; decide) (by rw [hc22]; decide) (by decide) ?_
      refine g_aload_n C (gdec dt_L_law 82 rfl) (i := 1) rfl rfl ?_
      refine g_aload_n C (gdec dt_L_law 83 rfl) (i := 0) rfl rfl ?_
      refine g_iload_n C (gdec dt_L_law 84 rfl) (i := 3) rfl rfl ?_
      refine g_iconst C (gdec dt_L_law 85 rfl) ic_1 ?_
      refine g_iadd C (gdec dt_L_law 86 rfl) ?_
      obtain ⟨hg23, hf⟩ := gif hf
      refine g_sld0 C hX hb hg23 (gdec dt_L_law 87 rfl) ?_
      refine g_aload_n C (gdec dt_L_law 88 rfl) (i := 0) rfl rfl ?_
      refine g_iload_n C (gdec dt_L_law 89 rfl) (i := 3) rfl rfl ?_
      refine g_iconst C (gdec dt_L_law 90 rfl) ic_2 ?_
      refine g_iadd C (gdec dt_L_law 91 rfl) ?_
      obtain ⟨hg24, hf⟩ := gif hf
      refine g_sld0 C hX hb hg24 (gdec dt_L_law 92 rfl) ?_
      refine g_aload_n C (gdec dt_L_law 93 rfl) (i := 0) rfl rfl ?_
      refine g_iload_n C (gdec dt_L_law 94 rfl) (i := 3) rfl rfl ?_
      refine g_iconst C (gdec dt_L_law 95 rfl) ic_3 ?_
      refine g_iadd C (gdec dt_L_law 96 rfl) ?_
      obtain ⟨hg25, hf⟩ := gif hf
      refine g_sld0 C hX hb hg25 (gdec dt_L_law 97 rfl) ?_
      refine g_i2l C (gdec dt_L_law 98 rfl) ?_
      refine g_bipush C (gdec dt_L_law 99 rfl) bc_32 ?_
      refine g_lshl C (gdec dt_L_law 100 rfl) ?_
      refine g_aload_n C (gdec dt_L_law 101 rfl) (i := 0) rfl rfl ?_
      refine g_iload_n C (gdec dt_L_law 102 rfl) (i := 3) rfl rfl ?_
      refine g_iconst C (gdec dt_L_law 103 rfl) ic_4 ?_
      refine g_iadd C (gdec dt_L_law 104 rfl) ?_
      obtain ⟨hg26, hf⟩ := gif hf
      refine g_sld0 C hX hb hg26 (gdec dt_L_law 105 rfl) ?_
      refine g_i2l C (gdec dt_L_law 106 rfl) ?_
      refine g_ldc2 C kl2_L_32 (gdec dt_L_law 107 rfl) ?_
      refine g_land C (gdec dt_L_law 108 rfl) ?_
      refine g_lor C (gdec dt_L_law 109 rfl) ?_
      obtain ⟨q27, hq27, hf⟩ := Option.bind_eq_some_iff.mp hf
      refine g_invVs e_shXM_shX_0 [.int (xs (x3 + (1 : Int32)).toNatClampNeg), .int (xs (x3 + (2 : Int32)).toNatClampNeg), .long (((xs (x3 + (3 : Int32)).toNatClampNeg).toInt64 <<< ((32 : Int32).toInt64 &&& 63)) ||| ((xs (x3 + (4 : Int32)).toNatClampNeg).toInt64 &&& (4294967295 : Int64)))] [] C (c_X10_write l D cA _ (gInj_sub em_e_shXM_shX_0 (gCi C)) (gsub w e_shXM_shX_0) (xs (x3 + (1 : Int32)).toNatClampNeg) (xs (x3 + (2 : Int32)).toNatClampNeg) (((xs (x3 + (3 : Int32)).toNatClampNeg).toInt64 <<< ((32 : Int32).toInt64 &&& 63)) ||| ((xs (x3 + (4 : Int32)).toNatClampNeg).toInt64 &&& (4294967295 : Int64))) q27 hq27) em_e_shXM_shX_0 (by decide) rfl kT_X10_write kl_L_34 kim_X10_write kse_X10_write rfl rfl (i := 0) rfl rfl ⟨by decide, by decide⟩ ⟨Nat.le_refl _, Nat.le_refl _⟩ (Nat.le_of_ble_eq_true rfl) (gdec dt_L_law 110 rfl) rfl (st2 := [.int q27.1]) (w2 := (gput w e_shXM_shX_0 q27.2)) rfl rfl ?_
      refine g_aload_n C (gdec dt_L_law 111 rfl) (i := 2) rfl rfl ?_
      refine g_aload_n C (gdec dt_L_law 112 rfl) (i := 0) rfl rfl ?_
      refine g_iload_n C (gdec dt_L_law 113 rfl) (i := 3) rfl rfl ?_
      refine g_iconst C (gdec dt_L_law 114 rfl) ic_1 ?_
      refine g_iadd C (gdec dt_L_law 115 rfl) ?_
      refine g_sld0 C hX hb hg23 (gdec dt_L_law 116 rfl) ?_
      refine g_aload_n C (gdec dt_L_law 117 rfl) (i := 0) rfl rfl ?_
      refine g_iload_n C (gdec dt_L_law 118 rfl) (i := 3) rfl rfl ?_
      refine g_iconst C (gdec dt_L_law 119 rfl) ic_2 ?_
      refine g_iadd C (gdec dt_L_law 120 rfl) ?_
      refine g_sld0 C hX hb hg24 (gdec dt_L_law 121 rfl) ?_
      refine g_aload_n C (gdec dt_L_law 122 rfl) (i := 0) rfl rfl ?_
      refine g_iload_n C (gdec dt_L_law 123 rfl) (i := 3) rfl rfl ?_
      refine g_iconst C (gdec dt_L_law 124 rfl) ic_3 ?_
      refine g_iadd C (gdec dt_L_law 125 rfl) ?_
      refine g_sld0 C hX hb hg25 (gdec dt_L_law 126 rfl) ?_
      refine g_i2l C (gdec dt_L_law 127 rfl) ?_
      refine g_bipush C (gdec dt_L_law 128 rfl) bc_32 ?_
      refine g_lshl C (gdec dt_L_law 129 rfl) ?_
      refine g_aload_n C (gdec dt_L_law 130 rfl) (i := 0) rfl rfl ?_
      refine g_iload_n C (gdec dt_L_law 131 rfl) (i := 3) rfl rfl ?_
      refine g_iconst C (gdec dt_L_law 132 rfl) ic_4 ?_
      refine g_iadd C (gdec dt_L_law 133 rfl) ?_
      refine g_sld0 C hX hb hg26 (gdec dt_L_law 134 rfl) ?_
      refine g_i2l C (gdec dt_L_law 135 rfl) ?_
      refine g_ldc2 C kl2_L_32 (gdec dt_L_law 136 rfl) ?_
      refine g_land C (gdec dt_L_law 137 rfl) ?_
      refine g_lor C (gdec dt_L_law 138 rfl) ?_
      obtain ⟨q28, hq28, hf⟩ := Option.bind_eq_some_iff.mp hf
      refine g_invVs e_shXM_shM_138 [.int (xs (x3 + (1 : Int32)).toNatClampNeg), .int (xs (x3 + (2 : Int32)).toNatClampNeg), .long (((xs (x3 + (3 : Int32)).toNatClampNeg).toInt64 <<< ((32 : Int32).toInt64 &&& 63)) ||| ((xs (x3 + (4 : Int32)).toNatClampNeg).toInt64 &&& (4294967295 : Int64)))] [.int q27.1] C (c_X11_write l D cA _ (gInj_sub em_e_shXM_shM_138 (gCi C)) (gsub (gput w e_shXM_shX_0 q27.2) e_shXM_shM_138) (xs (x3 + (1 : Int32)).toNatClampNeg) (xs (x3 + (2 : Int32)).toNatClampNeg) (((xs (x3 + (3 : Int32)).toNatClampNeg).toInt64 <<< ((32 : Int32).toInt64 &&& 63)) ||| ((xs (x3 + (4 : Int32)).toNatClampNeg).toInt64 &&& (4294967295 : Int64))) q28 hq28) em_e_shXM_shM_138 (by decide) rfl kT_X11_write kl_L_38 kim_X11_write kse_X11_write rfl rfl (i := 138) rfl rfl ⟨by decide, by decide⟩ ⟨Nat.le_refl _, Nat.le_refl _⟩ (Nat.le_of_ble_eq_true rfl) (gdec dt_L_law 139 rfl) rfl (st2 := [.int q28.1, .int q27.1]) (w2 := (gput (gput w e_shXM_shX_0 q27.2) e_shXM_shM_138 q28.2)) rfl rfl ?_
      refine g_icmp_eq C (tgt := 1910) (gdec dt_L_law 140 rfl) (by decide) (fun hc29 => ?_) (fun hc29 => ?_)
      · have hf := (if_pos hc29).symm.trans hf
        refine g_sub [0, 1, 2, 3] (lo2 := [(0, .ref 6000), (1, .ref 0), (2, .ref 138), (3, .int x3)]) rfl ?_
        exact L_L_law_1910 C hX hb hnew hk18 x3 (gput (gput w e_shXM_shX_0 q27.2) e_shXM_shM_138 q28.2) hf
      · have hf := (if_neg hc29).symm.trans hf
        refine g_iconst C (gdec dt_L_law 141 rfl) ic_0 ?_
        cases hf
    replace hf := (if_neg hc22).symm.trans hf
    by_cases hc30 : ((xs x3.toNatClampNeg) &&& (63 : Int32)) = (5 : Int32)
    · have hf := (if_pos hc30).symm.trans hf
      refine g_tableIn C (tgt := 433) (off := 400) (gdec dt_L_law 21 rfl) (by rw [hc30]; decide) (by rw [hc30]; decide) (by rw [hc30]; decide) (by decide) ?_
      refine g_aload_n C (gdec dt_L_law 143 rfl) (i := 1) rfl rfl ?_
      refine g_aload_n C (gdec dt_L_law 144 rfl) (i := 0) rfl rfl ?_
      refine g_iload_n C (gdec dt_L_law 145 rfl) (i := 3) rfl rfl ?_
      refine g_iconst C (gdec dt_L_law 146 rfl) ic_1 ?_
      refine g_iadd C (gdec dt_L_law 147 rfl) ?_
      obtain ⟨hg31, hf⟩ := gif hf
      refine g_sld0 C hX hb hg31 (gdec dt_L_law 148 rfl) ?_
      refine g_aload_n C (gdec dt_L_law 149 rfl) (i := 0) rfl rfl ?_
      refine g_iload_n C (gdec dt_L_law 150 rfl) (i := 3) rfl rfl ?_
      refine g_iconst C (gdec dt_L_law 151 rfl) ic_2 ?_
      refine g_iadd C (gdec dt_L_law 152 rfl) ?_
      obtain ⟨hg32, hf⟩ := gif hf
      refine g_sld0 C hX hb hg32 (gdec dt_L_law 153 rfl) ?_
      obtain ⟨q33, hq33, hf⟩ := Option.bind_eq_some_iff.mp hf
      refine g_invVs e_shXM_shX_0 [.int (xs (x3 + (1 : Int32)).toNatClampNeg), .int (xs (x3 + (2 : Int32)).toNatClampNeg)] [] C (c_X10_read l D cA _ (gInj_sub em_e_shXM_shX_0 (gCi C)) (gsub w e_shXM_shX_0) (xs (x3 + (1 : Int32)).toNatClampNeg) (xs (x3 + (2 : Int32)).toNatClampNeg) q33 hq33) em_e_shXM_shX_0 (by decide) rfl kT_X10_read kl_L_39 kim_X10_read kse_X10_read rfl rfl (i := 0) rfl rfl ⟨by decide, by decide⟩ ⟨Nat.le_refl _, Nat.le_refl _⟩ (Nat.le_of_ble_eq_true rfl) (gdec dt_L_law 154 rfl) rfl (st2 := [.long q33.1]) (w2 := (gput w e_shXM_shX_0 q33.2)) rfl rfl ?_
      refine g_aload_n C (gdec dt_L_law 155 rfl) (i := 2) rfl rfl ?_
      refine g_aload_n C (gdec dt_L_law 156 rfl) (i := 0) rfl rfl ?_
      refine g_iload_n C (gdec dt_L_law 157 rfl) (i := 3) rfl rfl ?_
      refine g_iconst C (gdec dt_L_law 158 rfl) ic_1 ?_
      refine g_iadd C (gdec dt_L_law 159 rfl) ?_
      refine g_sld0 C hX hb hg31 (gdec dt_L_law 160 rfl) ?_
      refine g_aload_n C (gdec dt_L_law 161 rfl) (i := 0) rfl rfl ?_
      refine g_iload_n C (gdec dt_L_law 162 rfl) (i := 3) rfl rfl ?_
      refine g_iconst C (gdec dt_L_law 163 rfl) ic_2 ?_
      refine g_iadd C (gdec dt_L_law 164 rfl) ?_
      refine g_sld0 C hX hb hg32 (gdec dt_L_law 165 rfl) ?_
      obtain ⟨q34, hq34, hf⟩ := Option.bind_eq_some_iff.mp hf
      refine g_invVs e_shXM_shM_138 [.int (xs (x3 + (1 : Int32)).toNatClampNeg), .int (xs (x3 + (2 : Int32)).toNatClampNeg)] [.long q33.1] C (c_X11_read l D cA _ (gInj_sub em_e_shXM_shM_138 (gCi C)) (gsub (gput w e_shXM_shX_0 q33.2) e_shXM_shM_138) (xs (x3 + (1 : Int32)).toNatClampNeg) (xs (x3 + (2 : Int32)).toNatClampNeg) q34 hq34) em_e_shXM_shM_138 (by decide) rfl kT_X11_read kl_L_43 kim_X11_read kse_X11_read rfl rfl (i := 138) rfl rfl ⟨by decide, by decide⟩ ⟨Nat.le_refl _, Nat.le_refl _⟩ (Nat.le_of_ble_eq_true rfl) (gdec dt_L_law 166 rfl) rfl (st2 := [.long q34.1, .long q33.1]) (w2 := (gput (gput w e_shXM_shX_0 q33.2) e_shXM_shM_138 q34.2)) rfl rfl ?_
      refine g_lcmp C (gdec dt_L_law 167 rfl) ?_
      refine g_if_eq C (tgt := 1910) (gdec dt_L_law 168 rfl) (by decide) (fun hc35 => ?_) (fun hc35 => ?_)
      · have hf := (if_pos hc35).symm.trans hf
        refine g_sub [0, 1, 2, 3] (lo2 := [(0, .ref 6000), (1, .ref 0), (2, .ref 138), (3, .int x3)]) rfl ?_
        exact L_L_law_1910 C hX hb hnew hk18 x3 (gput (gput w e_shXM_shX_0 q33.2) e_shXM_shM_138 q34.2) hf
      · have hf := (if_neg hc35).symm.trans hf
        refine g_iconst C (gdec dt_L_law 169 rfl) ic_0 ?_
        cases hf
    replace hf := (if_neg hc30).symm.trans hf
    by_cases hc36 : ((xs x3.toNatClampNeg) &&& (63 : Int32)) = (6 : Int32)
    · have hf := (if_pos hc36).symm.trans hf
      refine g_tableIn C (tgt := 467) (off := 434) (gdec dt_L_law 21 rfl) (by rw [hc36]; decide) (by rw [hc36]; decide) (by rw [hc36]; decide) (by decide) ?_
      refine g_aload_n C (gdec dt_L_law 171 rfl) (i := 1) rfl rfl ?_
      refine g_aload_n C (gdec dt_L_law 172 rfl) (i := 0) rfl rfl ?_
      refine g_iload_n C (gdec dt_L_law 173 rfl) (i := 3) rfl rfl ?_
      refine g_iconst C (gdec dt_L_law 174 rfl) ic_1 ?_
      refine g_iadd C (gdec dt_L_law 175 rfl) ?_
      obtain ⟨hg37, hf⟩ := gif hf
      refine g_sld0 C hX hb hg37 (gdec dt_L_law 176 rfl) ?_
      refine g_aload_n C (gdec dt_L_law 177 rfl) (i := 0) rfl rfl ?_
      refine g_iload_n C (gdec dt_L_law 178 rfl) (i := 3) rfl rfl ?_
      refine g_iconst C (gdec dt_L_law 179 rfl) ic_2 ?_
      refine g_iadd C (gdec dt_L_law 180 rfl) ?_
      obtain ⟨hg38, hf⟩ := gif hf
      refine g_sld0 C hX hb hg38 (gdec dt_L_law 181 rfl) ?_
      refine g_aload_n C (gdec dt_L_law 182 rfl) (i := 0) rfl rfl ?_
      refine g_iload_n C (gdec dt_L_law 183 rfl) (i := 3) rfl rfl ?_
      refine g_iconst C (gdec dt_L_law 184 rfl) ic_3 ?_
      refine g_iadd C (gdec dt_L_law 185 rfl) ?_
      obtain ⟨hg39, hf⟩ := gif hf
      refine g_sld0 C hX hb hg39 (gdec dt_L_law 186 rfl) ?_
      refine g_aload_n C (gdec dt_L_law 187 rfl) (i := 0) rfl rfl ?_
      refine g_iload_n C (gdec dt_L_law 188 rfl) (i := 3) rfl rfl ?_
      refine g_iconst C (gdec dt_L_law 189 rfl) ic_4 ?_
      refine g_iadd C (gdec dt_L_law 190 rfl) ?_
      obtain ⟨hg40, hf⟩ := gif hf
      refine g_sld0 C hX hb hg40 (gdec dt_L_law 191 rfl) ?_
      refine g_aload_n C (gdec dt_L_law 192 rfl) (i := 0) rfl rfl ?_
      refine g_iload_n C (gdec dt_L_law 193 rfl) (i := 3) rfl rfl ?_
      refine g_iconst C (gdec dt_L_law 194 rfl) ic_5 ?_
      refine g_iadd C (gdec dt_L_law 195 rfl) ?_
      obtain ⟨hg41, hf⟩ := gif hf
      refine g_sld0 C hX hb hg41 (gdec dt_L_law 196 rfl) ?_
      obtain ⟨q42, hq42, hf⟩ := Option.bind_eq_some_iff.mp hf
      refine g_invVs e_shXM_shX_0 [.int (xs (x3 + (1 : Int32)).toNatClampNeg), .int (xs (x3 + (2 : Int32)).toNatClampNeg), .int (xs (x3 + (3 : Int32)).toNatClampNeg), .int (xs (x3 + (4 : Int32)).toNatClampNeg), .int (xs (x3 + (5 : Int32)).toNatClampNeg)] [] C (c_X10_pour l D cA _ (gInj_sub em_e_shXM_shX_0 (gCi C)) (gsub w e_shXM_shX_0) (xs (x3 + (1 : Int32)).toNatClampNeg) (xs (x3 + (2 : Int32)).toNatClampNeg) (xs (x3 + (3 : Int32)).toNatClampNeg) (xs (x3 + (4 : Int32)).toNatClampNeg) (xs (x3 + (5 : Int32)).toNatClampNeg) q42 hq42) em_e_shXM_shX_0 (by decide) rfl kT_X10_pour kl_L_44 kim_X10_pour kse_X10_pour rfl rfl (i := 0) rfl rfl ⟨by decide, by decide⟩ ⟨Nat.le_refl _, Nat.le_refl _⟩ (Nat.le_of_ble_eq_true rfl) (gdec dt_L_law 197 rfl) rfl (st2 := [.int q42.1]) (w2 := (gput w e_shXM_shX_0 q42.2)) rfl rfl ?_
      refine g_aload_n C (gdec dt_L_law 198 rfl) (i := 2) rfl rfl ?_
      refine g_aload_n C (gdec dt_L_law 199 rfl) (i := 0) rfl rfl ?_
      refine g_iload_n C (gdec dt_L_law 200 rfl) (i := 3) rfl rfl ?_
      refine g_iconst C (gdec dt_L_law 201 rfl) ic_1 ?_
      refine g_iadd C (gdec dt_L_law 202 rfl) ?_
      refine g_sld0 C hX hb hg37 (gdec dt_L_law 203 rfl) ?_
      refine g_aload_n C (gdec dt_L_law 204 rfl) (i := 0) rfl rfl ?_
      refine g_iload_n C (gdec dt_L_law 205 rfl) (i := 3) rfl rfl ?_
      refine g_iconst C (gdec dt_L_law 206 rfl) ic_2 ?_
      refine g_iadd C (gdec dt_L_law 207 rfl) ?_
      refine g_sld0 C hX hb hg38 (gdec dt_L_law 208 rfl) ?_
      refine g_aload_n C (gdec dt_L_law 209 rfl) (i := 0) rfl rfl ?_
      refine g_iload_n C (gdec dt_L_law 210 rfl) (i := 3) rfl rfl ?_
      refine g_iconst C (gdec dt_L_law 211 rfl) ic_3 ?_
      refine g_iadd C (gdec dt_L_law 212 rfl) ?_
      refine g_sld0 C hX hb hg39 (gdec dt_L_law 213 rfl) ?_
      refine g_aload_n C (gdec dt_L_law 214 rfl) (i := 0) rfl rfl ?_
      refine g_iload_n C (gdec dt_L_law 215 rfl) (i := 3) rfl rfl ?_
      refine g_iconst C (gdec dt_L_law 216 rfl) ic_4 ?_
      refine g_iadd C (gdec dt_L_law 217 rfl) ?_
      refine g_sld0 C hX hb hg40 (gdec dt_L_law 218 rfl) ?_
      refine g_aload_n C (gdec dt_L_law 219 rfl) (i := 0) rfl rfl ?_
      refine g_iload_n C (gdec dt_L_law 220 rfl) (i := 3) rfl rfl ?_
      refine g_iconst C (gdec dt_L_law 221 rfl) ic_5 ?_
      refine g_iadd C (gdec dt_L_law 222 rfl) ?_
      refine g_sld0 C hX hb hg41 (gdec dt_L_law 223 rfl) ?_
      obtain ⟨q43, hq43, hf⟩ := Option.bind_eq_some_iff.mp hf
      refine g_invVs e_shXM_shM_138 [.int (xs (x3 + (1 : Int32)).toNatClampNeg), .int (xs (x3 + (2 : Int32)).toNatClampNeg), .int (xs (x3 + (3 : Int32)).toNatClampNeg), .int (xs (x3 + (4 : Int32)).toNatClampNeg), .int (xs (x3 + (5 : Int32)).toNatClampNeg)] [.int q42.1] C (c_X11_pour l D cA _ (gInj_sub em_e_shXM_shM_138 (gCi C)) (gsub (gput w e_shXM_shX_0 q42.2) e_shXM_shM_138) (xs (x3 + (1 : Int32)).toNatClampNeg) (xs (x3 + (2 : Int32)).toNatClampNeg) (xs (x3 + (3 : Int32)).toNatClampNeg) (xs (x3 + (4 : Int32)).toNatClampNeg) (xs (x3 + (5 : Int32)).toNatClampNeg) q43 hq43) em_e_shXM_shM_138 (by decide) rfl kT_X11_pour kl_L_48 kim_X11_pour kse_X11_pour rfl rfl (i := 138) rfl rfl ⟨by decide, by decide⟩ ⟨Nat.le_refl _, Nat.le_refl _⟩ (Nat.le_of_ble_eq_true rfl) (gdec dt_L_law 224 rfl) rfl (st2 := [.int q43.1, .int q42.1]) (w2 := (gput (gput w e_shXM_shX_0 q42.2) e_shXM_shM_138 q43.2)) rfl rfl ?_
      refine g_icmp_eq C (tgt := 1910) (gdec dt_L_law 225 rfl) (by decide) (fun hc44 => ?_) (fun hc44 => ?_)
      · have hf := (if_pos hc44).symm.trans hf
        refine g_sub [0, 1, 2, 3] (lo2 := [(0, .ref 6000), (1, .ref 0), (2, .ref 138), (3, .int x3)]) rfl ?_
        exact L_L_law_1910 C hX hb hnew hk18 x3 (gput (gput w e_shXM_shX_0 q42.2) e_shXM_shM_138 q43.2) hf
      · have hf := (if_neg hc44).symm.trans hf
        refine g_iconst C (gdec dt_L_law 226 rfl) ic_0 ?_
        cases hf
    replace hf := (if_neg hc36).symm.trans hf
    by_cases hc45 : ((xs x3.toNatClampNeg) &&& (63 : Int32)) = (7 : Int32)
    · have hf := (if_pos hc45).symm.trans hf
      refine g_tableIn C (tgt := 530) (off := 497) (gdec dt_L_law 21 rfl) (by rw [hc45]; decide) (by rw [hc45]; decide) (by rw [hc45]; decide) (by decide) ?_
      refine g_aload_n C (gdec dt_L_law 228 rfl) (i := 1) rfl rfl ?_
      refine g_aload_n C (gdec dt_L_law 229 rfl) (i := 0) rfl rfl ?_
      refine g_iload_n C (gdec dt_L_law 230 rfl) (i := 3) rfl rfl ?_
      refine g_iconst C (gdec dt_L_law 231 rfl) ic_1 ?_
      refine g_iadd C (gdec dt_L_law 232 rfl) ?_
      obtain ⟨hg46, hf⟩ := gif hf
      refine g_sld0 C hX hb hg46 (gdec dt_L_law 233 rfl) ?_
      refine g_aload_n C (gdec dt_L_law 234 rfl) (i := 0) rfl rfl ?_
      refine g_iload_n C (gdec dt_L_law 235 rfl) (i := 3) rfl rfl ?_
      refine g_iconst C (gdec dt_L_law 236 rfl) ic_2 ?_
      refine g_iadd C (gdec dt_L_law 237 rfl) ?_
      obtain ⟨hg47, hf⟩ := gif hf
      refine g_sld0 C hX hb hg47 (gdec dt_L_law 238 rfl) ?_
      refine g_aload_n C (gdec dt_L_law 239 rfl) (i := 0) rfl rfl ?_
      refine g_iload_n C (gdec dt_L_law 240 rfl) (i := 3) rfl rfl ?_
      refine g_iconst C (gdec dt_L_law 241 rfl) ic_3 ?_
      refine g_iadd C (gdec dt_L_law 242 rfl) ?_
      obtain ⟨hg48, hf⟩ := gif hf
      refine g_sld0 C hX hb hg48 (gdec dt_L_law 243 rfl) ?_
      refine g_aload_n C (gdec dt_L_law 244 rfl) (i := 0) rfl rfl ?_
      refine g_iload_n C (gdec dt_L_law 245 rfl) (i := 3) rfl rfl ?_
      refine g_iconst C (gdec dt_L_law 246 rfl) ic_4 ?_
      refine g_iadd C (gdec dt_L_law 247 rfl) ?_
      obtain ⟨hg49, hf⟩ := gif hf
      refine g_sld0 C hX hb hg49 (gdec dt_L_law 248 rfl) ?_
      refine g_aload_n C (gdec dt_L_law 249 rfl) (i := 0) rfl rfl ?_
      refine g_iload_n C (gdec dt_L_law 250 rfl) (i := 3) rfl rfl ?_
      refine g_iconst C (gdec dt_L_law 251 rfl) ic_5 ?_
      refine g_iadd C (gdec dt_L_law 252 rfl) ?_
      obtain ⟨hg50, hf⟩ := gif hf
      refine g_sld0 C hX hb hg50 (gdec dt_L_law 253 rfl) ?_
      obtain ⟨q51, hq51, hf⟩ := Option.bind_eq_some_iff.mp hf
      refine g_invVs e_shXM_shX_0 [.int (xs (x3 + (1 : Int32)).toNatClampNeg), .int (xs (x3 + (2 : Int32)).toNatClampNeg), .int (xs (x3 + (3 : Int32)).toNatClampNeg), .int (xs (x3 + (4 : Int32)).toNatClampNeg), .int (xs (x3 + (5 : Int32)).toNatClampNeg)] [] C (c_X10_feed l D cA _ (gInj_sub em_e_shXM_shX_0 (gCi C)) (gsub w e_shXM_shX_0) (xs (x3 + (1 : Int32)).toNatClampNeg) (xs (x3 + (2 : Int32)).toNatClampNeg) (xs (x3 + (3 : Int32)).toNatClampNeg) (xs (x3 + (4 : Int32)).toNatClampNeg) (xs (x3 + (5 : Int32)).toNatClampNeg) q51 hq51) em_e_shXM_shX_0 (by decide) rfl kT_X10_feed kl_L_49 kim_X10_feed kse_X10_feed rfl rfl (i := 0) rfl rfl ⟨by decide, by decide⟩ ⟨Nat.le_refl _, Nat.le_refl _⟩ (Nat.le_of_ble_eq_true rfl) (gdec dt_L_law 254 rfl) rfl (st2 := [.int q51.1]) (w2 := (gput w e_shXM_shX_0 q51.2)) rfl rfl ?_
      refine g_aload_n C (gdec dt_L_law 255 rfl) (i := 2) rfl rfl ?_
      refine g_aload_n C (gdec dt_L_law 256 rfl) (i := 0) rfl rfl ?_
      refine g_iload_n C (gdec dt_L_law 257 rfl) (i := 3) rfl rfl ?_
      refine g_iconst C (gdec dt_L_law 258 rfl) ic_1 ?_
      refine g_iadd C (gdec dt_L_law 259 rfl) ?_
      refine g_sld0 C hX hb hg46 (gdec dt_L_law 260 rfl) ?_
      refine g_aload_n C (gdec dt_L_law 261 rfl) (i := 0) rfl rfl ?_
      refine g_iload_n C (gdec dt_L_law 262 rfl) (i := 3) rfl rfl ?_
      refine g_iconst C (gdec dt_L_law 263 rfl) ic_2 ?_
      refine g_iadd C (gdec dt_L_law 264 rfl) ?_
      refine g_sld0 C hX hb hg47 (gdec dt_L_law 265 rfl) ?_
      refine g_aload_n C (gdec dt_L_law 266 rfl) (i := 0) rfl rfl ?_
      refine g_iload_n C (gdec dt_L_law 267 rfl) (i := 3) rfl rfl ?_
      refine g_iconst C (gdec dt_L_law 268 rfl) ic_3 ?_
      refine g_iadd C (gdec dt_L_law 269 rfl) ?_
      refine g_sld0 C hX hb hg48 (gdec dt_L_law 270 rfl) ?_
      refine g_aload_n C (gdec dt_L_law 271 rfl) (i := 0) rfl rfl ?_
      refine g_iload_n C (gdec dt_L_law 272 rfl) (i := 3) rfl rfl ?_
      refine g_iconst C (gdec dt_L_law 273 rfl) ic_4 ?_
      refine g_iadd C (gdec dt_L_law 274 rfl) ?_
      refine g_sld0 C hX hb hg49 (gdec dt_L_law 275 rfl) ?_
      refine g_aload_n C (gdec dt_L_law 276 rfl) (i := 0) rfl rfl ?_
      refine g_iload_n C (gdec dt_L_law 277 rfl) (i := 3) rfl rfl ?_
      refine g_iconst C (gdec dt_L_law 278 rfl) ic_5 ?_
      refine g_iadd C (gdec dt_L_law 279 rfl) ?_
      refine g_sld0 C hX hb hg50 (gdec dt_L_law 280 rfl) ?_
      obtain ⟨q52, hq52, hf⟩ := Option.bind_eq_some_iff.mp hf
      refine g_invVs e_shXM_shM_138 [.int (xs (x3 + (1 : Int32)).toNatClampNeg), .int (xs (x3 + (2 : Int32)).toNatClampNeg), .int (xs (x3 + (3 : Int32)).toNatClampNeg), .int (xs (x3 + (4 : Int32)).toNatClampNeg), .int (xs (x3 + (5 : Int32)).toNatClampNeg)] [.int q51.1] C (c_X11_feed l D cA _ (gInj_sub em_e_shXM_shM_138 (gCi C)) (gsub (gput w e_shXM_shX_0 q51.2) e_shXM_shM_138) (xs (x3 + (1 : Int32)).toNatClampNeg) (xs (x3 + (2 : Int32)).toNatClampNeg) (xs (x3 + (3 : Int32)).toNatClampNeg) (xs (x3 + (4 : Int32)).toNatClampNeg) (xs (x3 + (5 : Int32)).toNatClampNeg) q52 hq52) em_e_shXM_shM_138 (by decide) rfl kT_X11_feed kl_L_53 kim_X11_feed kse_X11_feed rfl rfl (i := 138) rfl rfl ⟨by decide, by decide⟩ ⟨Nat.le_refl _, Nat.le_refl _⟩ (Nat.le_of_ble_eq_true rfl) (gdec dt_L_law 281 rfl) rfl (st2 := [.int q52.1, .int q51.1]) (w2 := (gput (gput w e_shXM_shX_0 q51.2) e_shXM_shM_138 q52.2)) rfl rfl ?_
      refine g_icmp_eq C (tgt := 1910) (gdec dt_L_law 282 rfl) (by decide) (fun hc53 => ?_) (fun hc53 => ?_)
      · have hf := (if_pos hc53).symm.trans hf
        refine g_sub [0, 1, 2, 3] (lo2 := [(0, .ref 6000), (1, .ref 0), (2, .ref 138), (3, .int x3)]) rfl ?_
        exact L_L_law_1910 C hX hb hnew hk18 x3 (gput (gput w e_shXM_shX_0 q51.2) e_shXM_shM_138 q52.2) hf
      · have hf := (if_neg hc53).symm.trans hf
        refine g_iconst C (gdec dt_L_law 283 rfl) ic_0 ?_
        cases hf
    replace hf := (if_neg hc45).symm.trans hf
    by_cases hc54 : ((xs x3.toNatClampNeg) &&& (63 : Int32)) = (8 : Int32)
    · have hf := (if_pos hc54).symm.trans hf
      refine g_tableIn C (tgt := 593) (off := 560) (gdec dt_L_law 21 rfl) (by rw [hc54]; decide) (by rw [hc54]; decide) (by rw [hc54]; decide) (by decide) ?_
      refine g_aload_n C (gdec dt_L_law 285 rfl) (i := 1) rfl rfl ?_
      refine g_aload_n C (gdec dt_L_law 286 rfl) (i := 0) rfl rfl ?_
      refine g_iload_n C (gdec dt_L_law 287 rfl) (i := 3) rfl rfl ?_
      refine g_iconst C (gdec dt_L_law 288 rfl) ic_1 ?_
      refine g_iadd C (gdec dt_L_law 289 rfl) ?_
      obtain ⟨hg55, hf⟩ := gif hf
      refine g_sld0 C hX hb hg55 (gdec dt_L_law 290 rfl) ?_
      obtain ⟨q56, hq56, hf⟩ := Option.bind_eq_some_iff.mp hf
      refine g_invVs e_shXM_shX_0 [.int (xs (x3 + (1 : Int32)).toNatClampNeg)] [] C (c_X10_bank l D cA _ (gInj_sub em_e_shXM_shX_0 (gCi C)) (gsub w e_shXM_shX_0) (xs (x3 + (1 : Int32)).toNatClampNeg) q56 hq56) em_e_shXM_shX_0 (by decide) rfl kT_X10_bank kl_L_54 kim_X10_bank kse_X10_bank rfl rfl (i := 0) rfl rfl ⟨by decide, by decide⟩ ⟨Nat.le_refl _, Nat.le_refl _⟩ (Nat.le_of_ble_eq_true rfl) (gdec dt_L_law 291 rfl) rfl (st2 := [.int q56.1]) (w2 := (gput w e_shXM_shX_0 q56.2)) rfl rfl ?_
      refine g_aload_n C (gdec dt_L_law 292 rfl) (i := 2) rfl rfl ?_
      refine g_aload_n C (gdec dt_L_law 293 rfl) (i := 0) rfl rfl ?_
      refine g_iload_n C (gdec dt_L_law 294 rfl) (i := 3) rfl rfl ?_
      refine g_iconst C (gdec dt_L_law 295 rfl) ic_1 ?_
      refine g_iadd C (gdec dt_L_law 296 rfl) ?_
      refine g_sld0 C hX hb hg55 (gdec dt_L_law 297 rfl) ?_
      obtain ⟨q57, hq57, hf⟩ := Option.bind_eq_some_iff.mp hf
      refine g_invVs e_shXM_shM_138 [.int (xs (x3 + (1 : Int32)).toNatClampNeg)] [.int q56.1] C (c_X11_bank l D cA _ (gInj_sub em_e_shXM_shM_138 (gCi C)) (gsub (gput w e_shXM_shX_0 q56.2) e_shXM_shM_138) (xs (x3 + (1 : Int32)).toNatClampNeg) q57 hq57) em_e_shXM_shM_138 (by decide) rfl kT_X11_bank kl_L_58 kim_X11_bank kse_X11_bank rfl rfl (i := 138) rfl rfl ⟨by decide, by decide⟩ ⟨Nat.le_refl _, Nat.le_refl _⟩ (Nat.le_of_ble_eq_true rfl) (gdec dt_L_law 298 rfl) rfl (st2 := [.int q57.1, .int q56.1]) (w2 := (gput (gput w e_shXM_shX_0 q56.2) e_shXM_shM_138 q57.2)) rfl rfl ?_
      refine g_icmp_eq C (tgt := 1910) (gdec dt_L_law 299 rfl) (by decide) (fun hc58 => ?_) (fun hc58 => ?_)
      · have hf := (if_pos hc58).symm.trans hf
        refine g_sub [0, 1, 2, 3] (lo2 := [(0, .ref 6000), (1, .ref 0), (2, .ref 138), (3, .int x3)]) rfl ?_
        exact L_L_law_1910 C hX hb hnew hk18 x3 (gput (gput w e_shXM_shX_0 q56.2) e_shXM_shM_138 q57.2) hf
      · have hf := (if_neg hc58).symm.trans hf
        refine g_iconst C (gdec dt_L_law 300 rfl) ic_0 ?_
        cases hf
    replace hf := (if_neg hc54).symm.trans hf
    by_cases hc59 : ((xs x3.toNatClampNeg) &&& (63 : Int32)) = (9 : Int32)
    · have hf := (if_pos hc59).symm.trans hf
      refine g_tableIn C (tgt := 616) (off := 583) (gdec dt_L_law 21 rfl) (by rw [hc59]; decide) (by rw [hc59]; decide) (by rw [hc59]; decide) (by decide) ?_
      refine g_aload_n C (gdec dt_L_law 302 rfl) (i := 1) rfl rfl ?_
      refine g_aload_n C (gdec dt_L_law 303 rfl) (i := 0) rfl rfl ?_
      refine g_iload_n C (gdec dt_L_law 304 rfl) (i := 3) rfl rfl ?_
      refine g_iconst C (gdec dt_L_law 305 rfl) ic_1 ?_
      refine g_iadd C (gdec dt_L_law 306 rfl) ?_
      obtain ⟨hg60, hf⟩ := gif hf
      refine g_sld0 C hX hb hg60 (gdec dt_L_law 307 rfl) ?_
      obtain ⟨q61, hq61, hf⟩ := Option.bind_eq_some_iff.mp hf
      refine g_invVs e_shXM_shX_0 [.int (xs (x3 + (1 : Int32)).toNatClampNeg)] [] C (c_X10_decades l D cA _ (gInj_sub em_e_shXM_shX_0 (gCi C)) (gsub w e_shXM_shX_0) (xs (x3 + (1 : Int32)).toNatClampNeg) q61 hq61) em_e_shXM_shX_0 (by decide) rfl kT_X10_decades kl_L_59 kim_X10_decades kse_X10_decades rfl rfl (i := 0) rfl rfl ⟨by decide, by decide⟩ ⟨Nat.le_refl _, Nat.le_refl _⟩ (Nat.le_of_ble_eq_true rfl) (gdec dt_L_law 308 rfl) rfl (st2 := [.int q61.1]) (w2 := (gput w e_shXM_shX_0 q61.2)) rfl rfl ?_
      refine g_aload_n C (gdec dt_L_law 309 rfl) (i := 2) rfl rfl ?_
      refine g_aload_n C (gdec dt_L_law 310 rfl) (i := 0) rfl rfl ?_
      refine g_iload_n C (gdec dt_L_law 311 rfl) (i := 3) rfl rfl ?_
      refine g_iconst C (gdec dt_L_law 312 rfl) ic_1 ?_
      refine g_iadd C (gdec dt_L_law 313 rfl) ?_
      refine g_sld0 C hX hb hg60 (gdec dt_L_law 314 rfl) ?_
      obtain ⟨q62, hq62, hf⟩ := Option.bind_eq_some_iff.mp hf
      refine g_invVs e_shXM_shM_138 [.int (xs (x3 + (1 : Int32)).toNatClampNeg)] [.int q61.1] C (c_X11_decades l D cA _ (gInj_sub em_e_shXM_shM_138 (gCi C)) (gsub (gput w e_shXM_shX_0 q61.2) e_shXM_shM_138) (xs (x3 + (1 : Int32)).toNatClampNeg) q62 hq62) em_e_shXM_shM_138 (by decide) rfl kT_X11_decades kl_L_62 kim_X11_decades kse_X11_decades rfl rfl (i := 138) rfl rfl ⟨by decide, by decide⟩ ⟨Nat.le_refl _, Nat.le_refl _⟩ (Nat.le_of_ble_eq_true rfl) (gdec dt_L_law 315 rfl) rfl (st2 := [.int q62.1, .int q61.1]) (w2 := (gput (gput w e_shXM_shX_0 q61.2) e_shXM_shM_138 q62.2)) rfl rfl ?_
      refine g_icmp_eq C (tgt := 1910) (gdec dt_L_law 316 rfl) (by decide) (fun hc63 => ?_) (fun hc63 => ?_)
      · have hf := (if_pos hc63).symm.trans hf
        refine g_sub [0, 1, 2, 3] (lo2 := [(0, .ref 6000), (1, .ref 0), (2, .ref 138), (3, .int x3)]) rfl ?_
        exact L_L_law_1910 C hX hb hnew hk18 x3 (gput (gput w e_shXM_shX_0 q61.2) e_shXM_shM_138 q62.2) hf
      · have hf := (if_neg hc63).symm.trans hf
        refine g_iconst C (gdec dt_L_law 317 rfl) ic_0 ?_
        cases hf
    replace hf := (if_neg hc59).symm.trans hf
    by_cases hc64 : ((xs x3.toNatClampNeg) &&& (63 : Int32)) = (10 : Int32)
    · have hf := (if_pos hc64).symm.trans hf
      refine g_tableIn C (tgt := 639) (off := 606) (gdec dt_L_law 21 rfl) (by rw [hc64]; decide) (by rw [hc64]; decide) (by rw [hc64]; decide) (by decide) ?_
      refine g_aload_n C (gdec dt_L_law 319 rfl) (i := 1) rfl rfl ?_
      refine g_aload_n C (gdec dt_L_law 320 rfl) (i := 0) rfl rfl ?_
      refine g_iload_n C (gdec dt_L_law 321 rfl) (i := 3) rfl rfl ?_
      refine g_iconst C (gdec dt_L_law 322 rfl) ic_1 ?_
      refine g_iadd C (gdec dt_L_law 323 rfl) ?_
      obtain ⟨hg65, hf⟩ := gif hf
      refine g_sld0 C hX hb hg65 (gdec dt_L_law 324 rfl) ?_
      obtain ⟨q66, hq66, hf⟩ := Option.bind_eq_some_iff.mp hf
      refine g_invVs e_shXM_shX_0 [.int (xs (x3 + (1 : Int32)).toNatClampNeg)] [] C (c_X10_fault l D cA _ (gInj_sub em_e_shXM_shX_0 (gCi C)) (gsub w e_shXM_shX_0) (xs (x3 + (1 : Int32)).toNatClampNeg) q66 hq66) em_e_shXM_shX_0 (by decide) rfl kT_X10_fault kl_L_63 kim_X10_fault kse_X10_fault rfl rfl (i := 0) rfl rfl ⟨by decide, by decide⟩ ⟨Nat.le_refl _, Nat.le_refl _⟩ (Nat.le_of_ble_eq_true rfl) (gdec dt_L_law 325 rfl) rfl (st2 := [.int q66]) (w2 := w) rfl (gput_sub _ _) ?_
      refine g_aload_n C (gdec dt_L_law 326 rfl) (i := 2) rfl rfl ?_
      refine g_aload_n C (gdec dt_L_law 327 rfl) (i := 0) rfl rfl ?_
      refine g_iload_n C (gdec dt_L_law 328 rfl) (i := 3) rfl rfl ?_
      refine g_iconst C (gdec dt_L_law 329 rfl) ic_1 ?_
      refine g_iadd C (gdec dt_L_law 330 rfl) ?_
      refine g_sld0 C hX hb hg65 (gdec dt_L_law 331 rfl) ?_
      obtain ⟨q67, hq67, hf⟩ := Option.bind_eq_some_iff.mp hf
      refine g_invVs e_shXM_shM_138 [.int (xs (x3 + (1 : Int32)).toNatClampNeg)] [.int q66] C (c_X11_fault l D cA _ (gInj_sub em_e_shXM_shM_138 (gCi C)) (gsub w e_shXM_shM_138) (xs (x3 + (1 : Int32)).toNatClampNeg) q67 hq67) em_e_shXM_shM_138 (by decide) rfl kT_X11_fault kl_L_66 kim_X11_fault kse_X11_fault rfl rfl (i := 138) rfl rfl ⟨by decide, by decide⟩ ⟨Nat.le_refl _, Nat.le_refl _⟩ (Nat.le_of_ble_eq_true rfl) (gdec dt_L_law 332 rfl) rfl (st2 := [.int q67, .int q66]) (w2 := w) rfl (gput_sub _ _) ?_
      refine g_icmp_eq C (tgt := 1910) (gdec dt_L_law 333 rfl) (by decide) (fun hc68 => ?_) (fun hc68 => ?_)
      · have hf := (if_pos hc68).symm.trans hf
        refine g_sub [0, 1, 2, 3] (lo2 := [(0, .ref 6000), (1, .ref 0), (2, .ref 138), (3, .int x3)]) rfl ?_
        exact L_L_law_1910 C hX hb hnew hk18 x3 w hf
      · have hf := (if_neg hc68).symm.trans hf
        refine g_iconst C (gdec dt_L_law 334 rfl) ic_0 ?_
        cases hf
    replace hf := (if_neg hc64).symm.trans hf
    by_cases hc69 : ((xs x3.toNatClampNeg) &&& (63 : Int32)) = (11 : Int32)
    · have hf := (if_pos hc69).symm.trans hf
      refine g_tableIn C (tgt := 662) (off := 629) (gdec dt_L_law 21 rfl) (by rw [hc69]; decide) (by rw [hc69]; decide) (by rw [hc69]; decide) (by decide) ?_
      refine g_aload_n C (gdec dt_L_law 336 rfl) (i := 1) rfl rfl ?_
      refine g_aload_n C (gdec dt_L_law 337 rfl) (i := 0) rfl rfl ?_
      refine g_iload_n C (gdec dt_L_law 338 rfl) (i := 3) rfl rfl ?_
      refine g_iconst C (gdec dt_L_law 339 rfl) ic_1 ?_
      refine g_iadd C (gdec dt_L_law 340 rfl) ?_
      obtain ⟨hg70, hf⟩ := gif hf
      refine g_sld0 C hX hb hg70 (gdec dt_L_law 341 rfl) ?_
      obtain ⟨q71, hq71, hf⟩ := Option.bind_eq_some_iff.mp hf
      refine g_invVs e_shXM_shX_0 [.int (xs (x3 + (1 : Int32)).toNatClampNeg)] [] C (c_X10_told l D cA _ (gInj_sub em_e_shXM_shX_0 (gCi C)) (gsub w e_shXM_shX_0) (xs (x3 + (1 : Int32)).toNatClampNeg) q71 hq71) em_e_shXM_shX_0 (by decide) rfl kT_X10_told kl_L_67 kim_X10_told kse_X10_told rfl rfl (i := 0) rfl rfl ⟨by decide, by decide⟩ ⟨Nat.le_refl _, Nat.le_refl _⟩ (Nat.le_of_ble_eq_true rfl) (gdec dt_L_law 342 rfl) rfl (st2 := [.int q71.1]) (w2 := (gput w e_shXM_shX_0 q71.2)) rfl rfl ?_
      refine g_aload_n C (gdec dt_L_law 343 rfl) (i := 2) rfl rfl ?_
      refine g_aload_n C (gdec dt_L_law 344 rfl) (i := 0) rfl rfl ?_
      refine g_iload_n C (gdec dt_L_law 345 rfl) (i := 3) rfl rfl ?_
      refine g_iconst C (gdec dt_L_law 346 rfl) ic_1 ?_
      refine g_iadd C (gdec dt_L_law 347 rfl) ?_
      refine g_sld0 C hX hb hg70 (gdec dt_L_law 348 rfl) ?_
      obtain ⟨q72, hq72, hf⟩ := Option.bind_eq_some_iff.mp hf
      refine g_invVs e_shXM_shM_138 [.int (xs (x3 + (1 : Int32)).toNatClampNeg)] [.int q71.1] C (c_X11_told l D cA _ (gInj_sub em_e_shXM_shM_138 (gCi C)) (gsub (gput w e_shXM_shX_0 q71.2) e_shXM_shM_138) (xs (x3 + (1 : Int32)).toNatClampNeg) q72 hq72) em_e_shXM_shM_138 (by decide) rfl kT_X11_told kl_L_70 kim_X11_told kse_X11_told rfl rfl (i := 138) rfl rfl ⟨by decide, by decide⟩ ⟨Nat.le_refl _, Nat.le_refl _⟩ (Nat.le_of_ble_eq_true rfl) (gdec dt_L_law 349 rfl) rfl (st2 := [.int q72.1, .int q71.1]) (w2 := (gput (gput w e_shXM_shX_0 q71.2) e_shXM_shM_138 q72.2)) rfl rfl ?_
      refine g_icmp_eq C (tgt := 1910) (gdec dt_L_law 350 rfl) (by decide) (fun hc73 => ?_) (fun hc73 => ?_)
      · have hf := (if_pos hc73).symm.trans hf
        refine g_sub [0, 1, 2, 3] (lo2 := [(0, .ref 6000), (1, .ref 0), (2, .ref 138), (3, .int x3)]) rfl ?_
        exact L_L_law_1910 C hX hb hnew hk18 x3 (gput (gput w e_shXM_shX_0 q71.2) e_shXM_shM_138 q72.2) hf
      · have hf := (if_neg hc73).symm.trans hf
        refine g_iconst C (gdec dt_L_law 351 rfl) ic_0 ?_
        cases hf
    replace hf := (if_neg hc69).symm.trans hf
    by_cases hc74 : ((xs x3.toNatClampNeg) &&& (63 : Int32)) = (12 : Int32)
    · have hf := (if_pos hc74).symm.trans hf
      refine g_tableIn C (tgt := 685) (off := 652) (gdec dt_L_law 21 rfl) (by rw [hc74]; decide) (by rw [hc74]; decide) (by rw [hc74]; decide) (by decide) ?_
      refine g_aload_n C (gdec dt_L_law 353 rfl) (i := 1) rfl rfl ?_
      refine g_aload_n C (gdec dt_L_law 354 rfl) (i := 0) rfl rfl ?_
      refine g_iload_n C (gdec dt_L_law 355 rfl) (i := 3) rfl rfl ?_
      refine g_iconst C (gdec dt_L_law 356 rfl) ic_1 ?_
      refine g_iadd C (gdec dt_L_law 357 rfl) ?_
      obtain ⟨hg75, hf⟩ := gif hf
      refine g_sld0 C hX hb hg75 (gdec dt_L_law 358 rfl) ?_
      refine g_aload_n C (gdec dt_L_law 359 rfl) (i := 0) rfl rfl ?_
      refine g_iload_n C (gdec dt_L_law 360 rfl) (i := 3) rfl rfl ?_
      refine g_iconst C (gdec dt_L_law 361 rfl) ic_2 ?_
      refine g_iadd C (gdec dt_L_law 362 rfl) ?_
      obtain ⟨hg76, hf⟩ := gif hf
      refine g_sld0 C hX hb hg76 (gdec dt_L_law 363 rfl) ?_
      obtain ⟨q77, hq77, hf⟩ := Option.bind_eq_some_iff.mp hf
      refine g_invVs e_shXM_shX_0 [.int (xs (x3 + (1 : Int32)).toNatClampNeg), .int (xs (x3 + (2 : Int32)).toNatClampNeg)] [] C (c_X10_corner l D cA _ (gInj_sub em_e_shXM_shX_0 (gCi C)) (gsub w e_shXM_shX_0) (xs (x3 + (1 : Int32)).toNatClampNeg) (xs (x3 + (2 : Int32)).toNatClampNeg) q77 hq77) em_e_shXM_shX_0 (by decide) rfl kT_X10_corner kl_L_71 kim_X10_corner kse_X10_corner rfl rfl (i := 0) rfl rfl ⟨by decide, by decide⟩ ⟨Nat.le_refl _, Nat.le_refl _⟩ (Nat.le_of_ble_eq_true rfl) (gdec dt_L_law 364 rfl) rfl (st2 := [.int q77.1]) (w2 := (gput w e_shXM_shX_0 q77.2)) rfl rfl ?_
      refine g_aload_n C (gdec dt_L_law 365 rfl) (i := 2) rfl rfl ?_
      refine g_aload_n C (gdec dt_L_law 366 rfl) (i := 0) rfl rfl ?_
      refine g_iload_n C (gdec dt_L_law 367 rfl) (i := 3) rfl rfl ?_
      refine g_iconst C (gdec dt_L_law 368 rfl) ic_1 ?_
      refine g_iadd C (gdec dt_L_law 369 rfl) ?_
      refine g_sld0 C hX hb hg75 (gdec dt_L_law 370 rfl) ?_
      refine g_aload_n C (gdec dt_L_law 371 rfl) (i := 0) rfl rfl ?_
      refine g_iload_n C (gdec dt_L_law 372 rfl) (i := 3) rfl rfl ?_
      refine g_iconst C (gdec dt_L_law 373 rfl) ic_2 ?_
      refine g_iadd C (gdec dt_L_law 374 rfl) ?_
      refine g_sld0 C hX hb hg76 (gdec dt_L_law 375 rfl) ?_
      obtain ⟨q78, hq78, hf⟩ := Option.bind_eq_some_iff.mp hf
      refine g_invVs e_shXM_shM_138 [.int (xs (x3 + (1 : Int32)).toNatClampNeg), .int (xs (x3 + (2 : Int32)).toNatClampNeg)] [.int q77.1] C (c_X11_corner l D cA _ (gInj_sub em_e_shXM_shM_138 (gCi C)) (gsub (gput w e_shXM_shX_0 q77.2) e_shXM_shM_138) (xs (x3 + (1 : Int32)).toNatClampNeg) (xs (x3 + (2 : Int32)).toNatClampNeg) q78 hq78) em_e_shXM_shM_138 (by decide) rfl kT_X11_corner kl_L_75 kim_X11_corner kse_X11_corner rfl rfl (i := 138) rfl rfl ⟨by decide, by decide⟩ ⟨Nat.le_refl _, Nat.le_refl _⟩ (Nat.le_of_ble_eq_true rfl) (gdec dt_L_law 376 rfl) rfl (st2 := [.int q78.1, .int q77.1]) (w2 := (gput (gput w e_shXM_shX_0 q77.2) e_shXM_shM_138 q78.2)) rfl rfl ?_
      refine g_icmp_eq C (tgt := 1910) (gdec dt_L_law 377 rfl) (by decide) (fun hc79 => ?_) (fun hc79 => ?_)
      · have hf := (if_pos hc79).symm.trans hf
        refine g_sub [0, 1, 2, 3] (lo2 := [(0, .ref 6000), (1, .ref 0), (2, .ref 138), (3, .int x3)]) rfl ?_
        exact L_L_law_1910 C hX hb hnew hk18 x3 (gput (gput w e_shXM_shX_0 q77.2) e_shXM_shM_138 q78.2) hf
      · have hf := (if_neg hc79).symm.trans hf
        refine g_iconst C (gdec dt_L_law 378 rfl) ic_0 ?_
        cases hf
    replace hf := (if_neg hc74).symm.trans hf
    by_cases hc80 : ((xs x3.toNatClampNeg) &&& (63 : Int32)) = (13 : Int32)
    · have hf := (if_pos hc80).symm.trans hf
      refine g_tableIn C (tgt := 718) (off := 685) (gdec dt_L_law 21 rfl) (by rw [hc80]; decide) (by rw [hc80]; decide) (by rw [hc80]; decide) (by decide) ?_
      refine g_aload_n C (gdec dt_L_law 380 rfl) (i := 1) rfl rfl ?_
      refine g_aload_n C (gdec dt_L_law 381 rfl) (i := 0) rfl rfl ?_
      refine g_iload_n C (gdec dt_L_law 382 rfl) (i := 3) rfl rfl ?_
      refine g_iconst C (gdec dt_L_law 383 rfl) ic_1 ?_
      refine g_iadd C (gdec dt_L_law 384 rfl) ?_
      obtain ⟨hg81, hf⟩ := gif hf
      refine g_sld0 C hX hb hg81 (gdec dt_L_law 385 rfl) ?_
      refine g_aload_n C (gdec dt_L_law 386 rfl) (i := 0) rfl rfl ?_
      refine g_iload_n C (gdec dt_L_law 387 rfl) (i := 3) rfl rfl ?_
      refine g_iconst C (gdec dt_L_law 388 rfl) ic_2 ?_
      refine g_iadd C (gdec dt_L_law 389 rfl) ?_
      obtain ⟨hg82, hf⟩ := gif hf
      refine g_sld0 C hX hb hg82 (gdec dt_L_law 390 rfl) ?_
      obtain ⟨q83, hq83, hf⟩ := Option.bind_eq_some_iff.mp hf
      refine g_invVs e_shXM_shX_0 [.int (xs (x3 + (1 : Int32)).toNatClampNeg), .int (xs (x3 + (2 : Int32)).toNatClampNeg)] [] C (c_X10_rank l D cA _ (gInj_sub em_e_shXM_shX_0 (gCi C)) (gsub w e_shXM_shX_0) (xs (x3 + (1 : Int32)).toNatClampNeg) (xs (x3 + (2 : Int32)).toNatClampNeg) q83 hq83) em_e_shXM_shX_0 (by decide) rfl kT_X10_rank kl_L_76 kim_X10_rank kse_X10_rank rfl rfl (i := 0) rfl rfl ⟨by decide, by decide⟩ ⟨Nat.le_refl _, Nat.le_refl _⟩ (Nat.le_of_ble_eq_true rfl) (gdec dt_L_law 391 rfl) rfl (st2 := [.int q83.1]) (w2 := (gput w e_shXM_shX_0 q83.2)) rfl rfl ?_
      refine g_aload_n C (gdec dt_L_law 392 rfl) (i := 2) rfl rfl ?_
      refine g_aload_n C (gdec dt_L_law 393 rfl) (i := 0) rfl rfl ?_
      refine g_iload_n C (gdec dt_L_law 394 rfl) (i := 3) rfl rfl ?_
      refine g_iconst C (gdec dt_L_law 395 rfl) ic_1 ?_
      refine g_iadd C (gdec dt_L_law 396 rfl) ?_
      refine g_sld0 C hX hb hg81 (gdec dt_L_law 397 rfl) ?_
      refine g_aload_n C (gdec dt_L_law 398 rfl) (i := 0) rfl rfl ?_
      refine g_iload_n C (gdec dt_L_law 399 rfl) (i := 3) rfl rfl ?_
      refine g_iconst C (gdec dt_L_law 400 rfl) ic_2 ?_
      refine g_iadd C (gdec dt_L_law 401 rfl) ?_
      refine g_sld0 C hX hb hg82 (gdec dt_L_law 402 rfl) ?_
      obtain ⟨q84, hq84, hf⟩ := Option.bind_eq_some_iff.mp hf
      refine g_invVs e_shXM_shM_138 [.int (xs (x3 + (1 : Int32)).toNatClampNeg), .int (xs (x3 + (2 : Int32)).toNatClampNeg)] [.int q83.1] C (c_X11_rank l D cA _ (gInj_sub em_e_shXM_shM_138 (gCi C)) (gsub (gput w e_shXM_shX_0 q83.2) e_shXM_shM_138) (xs (x3 + (1 : Int32)).toNatClampNeg) (xs (x3 + (2 : Int32)).toNatClampNeg) q84 hq84) em_e_shXM_shM_138 (by decide) rfl kT_X11_rank kl_L_79 kim_X11_rank kse_X11_rank rfl rfl (i := 138) rfl rfl ⟨by decide, by decide⟩ ⟨Nat.le_refl _, Nat.le_refl _⟩ (Nat.le_of_ble_eq_true rfl) (gdec dt_L_law 403 rfl) rfl (st2 := [.int q84.1, .int q83.1]) (w2 := (gput (gput w e_shXM_shX_0 q83.2) e_shXM_shM_138 q84.2)) rfl rfl ?_
      refine g_icmp_eq C (tgt := 1910) (gdec dt_L_law 404 rfl) (by decide) (fun hc85 => ?_) (fun hc85 => ?_)
      · have hf := (if_pos hc85).symm.trans hf
        refine g_sub [0, 1, 2, 3] (lo2 := [(0, .ref 6000), (1, .ref 0), (2, .ref 138), (3, .int x3)]) rfl ?_
        exact L_L_law_1910 C hX hb hnew hk18 x3 (gput (gput w e_shXM_shX_0 q83.2) e_shXM_shM_138 q84.2) hf
      · have hf := (if_neg hc85).symm.trans hf
        refine g_iconst C (gdec dt_L_law 405 rfl) ic_0 ?_
        cases hf
    replace hf := (if_neg hc80).symm.trans hf
    by_cases hc86 : ((xs x3.toNatClampNeg) &&& (63 : Int32)) = (14 : Int32)
    · have hf := (if_pos hc86).symm.trans hf
      refine g_tableIn C (tgt := 751) (off := 718) (gdec dt_L_law 21 rfl) (by rw [hc86]; decide) (by rw [hc86]; decide) (by rw [hc86]; decide) (by decide) ?_
      refine g_aload_n C (gdec dt_L_law 407 rfl) (i := 1) rfl rfl ?_
      refine g_aload_n C (gdec dt_L_law 408 rfl) (i := 0) rfl rfl ?_
      refine g_iload_n C (gdec dt_L_law 409 rfl) (i := 3) rfl rfl ?_
      refine g_iconst C (gdec dt_L_law 410 rfl) ic_1 ?_
      refine g_iadd C (gdec dt_L_law 411 rfl) ?_
      obtain ⟨hg87, hf⟩ := gif hf
      refine g_sld0 C hX hb hg87 (gdec dt_L_law 412 rfl) ?_
      refine g_aload_n C (gdec dt_L_law 413 rfl) (i := 0) rfl rfl ?_
      refine g_iload_n C (gdec dt_L_law 414 rfl) (i := 3) rfl rfl ?_
      refine g_iconst C (gdec dt_L_law 415 rfl) ic_2 ?_
      refine g_iadd C (gdec dt_L_law 416 rfl) ?_
      obtain ⟨hg88, hf⟩ := gif hf
      refine g_sld0 C hX hb hg88 (gdec dt_L_law 417 rfl) ?_
      obtain ⟨q89, hq89, hf⟩ := Option.bind_eq_some_iff.mp hf
      refine g_invVs e_shXM_shX_0 [.int (xs (x3 + (1 : Int32)).toNatClampNeg), .int (xs (x3 + (2 : Int32)).toNatClampNeg)] [] C (c_X10_clerk l D cA _ (gInj_sub em_e_shXM_shX_0 (gCi C)) (gsub w e_shXM_shX_0) (xs (x3 + (1 : Int32)).toNatClampNeg) (xs (x3 + (2 : Int32)).toNatClampNeg) q89 hq89) em_e_shXM_shX_0 (by decide) rfl kT_X10_clerk kl_L_80 kim_X10_clerk kse_X10_clerk rfl rfl (i := 0) rfl rfl ⟨by decide, by decide⟩ ⟨Nat.le_refl _, Nat.le_refl _⟩ (Nat.le_of_ble_eq_true rfl) (gdec dt_L_law 418 rfl) rfl (st2 := [.int q89.1]) (w2 := (gput w e_shXM_shX_0 q89.2)) rfl rfl ?_
      refine g_aload_n C (gdec dt_L_law 419 rfl) (i := 2) rfl rfl ?_
      refine g_aload_n C (gdec dt_L_law 420 rfl) (i := 0) rfl rfl ?_
      refine g_iload_n C (gdec dt_L_law 421 rfl) (i := 3) rfl rfl ?_
      refine g_iconst C (gdec dt_L_law 422 rfl) ic_1 ?_
      refine g_iadd C (gdec dt_L_law 423 rfl) ?_
      refine g_sld0 C hX hb hg87 (gdec dt_L_law 424 rfl) ?_
      refine g_aload_n C (gdec dt_L_law 425 rfl) (i := 0) rfl rfl ?_
      refine g_iload_n C (gdec dt_L_law 426 rfl) (i := 3) rfl rfl ?_
      refine g_iconst C (gdec dt_L_law 427 rfl) ic_2 ?_
      refine g_iadd C (gdec dt_L_law 428 rfl) ?_
      refine g_sld0 C hX hb hg88 (gdec dt_L_law 429 rfl) ?_
      obtain ⟨q90, hq90, hf⟩ := Option.bind_eq_some_iff.mp hf
      refine g_invVs e_shXM_shM_138 [.int (xs (x3 + (1 : Int32)).toNatClampNeg), .int (xs (x3 + (2 : Int32)).toNatClampNeg)] [.int q89.1] C (c_X11_clerk l D cA _ (gInj_sub em_e_shXM_shM_138 (gCi C)) (gsub (gput w e_shXM_shX_0 q89.2) e_shXM_shM_138) (xs (x3 + (1 : Int32)).toNatClampNeg) (xs (x3 + (2 : Int32)).toNatClampNeg) q90 hq90) em_e_shXM_shM_138 (by decide) rfl kT_X11_clerk kl_L_83 kim_X11_clerk kse_X11_clerk rfl rfl (i := 138) rfl rfl ⟨by decide, by decide⟩ ⟨Nat.le_refl _, Nat.le_refl _⟩ (Nat.le_of_ble_eq_true rfl) (gdec dt_L_law 430 rfl) rfl (st2 := [.int q90.1, .int q89.1]) (w2 := (gput (gput w e_shXM_shX_0 q89.2) e_shXM_shM_138 q90.2)) rfl rfl ?_
      refine g_icmp_eq C (tgt := 1910) (gdec dt_L_law 431 rfl) (by decide) (fun hc91 => ?_) (fun hc91 => ?_)
      · have hf := (if_pos hc91).symm.trans hf
        refine g_sub [0, 1, 2, 3] (lo2 := [(0, .ref 6000), (1, .ref 0), (2, .ref 138), (3, .int x3)]) rfl ?_
        exact L_L_law_1910 C hX hb hnew hk18 x3 (gput (gput w e_shXM_shX_0 q89.2) e_shXM_shM_138 q90.2) hf
      · have hf := (if_neg hc91).symm.trans hf
        refine g_iconst C (gdec dt_L_law 432 rfl) ic_0 ?_
        cases hf
    replace hf := (if_neg hc86).symm.trans hf
    by_cases hc92 : ((xs x3.toNatClampNeg) &&& (63 : Int32)) = (15 : Int32)
    · have hf := (if_pos hc92).symm.trans hf
      refine g_tableIn C (tgt := 784) (off := 751) (gdec dt_L_law 21 rfl) (by rw [hc92]; decide) (by rw [hc92]; decide) (by rw [hc92]; decide) (by decide) ?_
      refine g_aload_n C (gdec dt_L_law 434 rfl) (i := 1) rfl rfl ?_
      refine g_aload_n C (gdec dt_L_law 435 rfl) (i := 0) rfl rfl ?_
      refine g_iload_n C (gdec dt_L_law 436 rfl) (i := 3) rfl rfl ?_
      refine g_iconst C (gdec dt_L_law 437 rfl) ic_1 ?_
      refine g_iadd C (gdec dt_L_law 438 rfl) ?_
      obtain ⟨hg93, hf⟩ := gif hf
      refine g_sld0 C hX hb hg93 (gdec dt_L_law 439 rfl) ?_
      obtain ⟨q94, hq94, hf⟩ := Option.bind_eq_some_iff.mp hf
      refine g_invVs e_shXM_shX_0 [.int (xs (x3 + (1 : Int32)).toNatClampNeg)] [] C (c_X10_rankOf l D cA _ (gInj_sub em_e_shXM_shX_0 (gCi C)) (gsub w e_shXM_shX_0) (xs (x3 + (1 : Int32)).toNatClampNeg) q94 hq94) em_e_shXM_shX_0 (by decide) rfl kT_X10_rankOf kl_L_84 kim_X10_rankOf kse_X10_rankOf rfl rfl (i := 0) rfl rfl ⟨by decide, by decide⟩ ⟨Nat.le_refl _, Nat.le_refl _⟩ (Nat.le_of_ble_eq_true rfl) (gdec dt_L_law 440 rfl) rfl (st2 := [.int q94.1]) (w2 := (gput w e_shXM_shX_0 q94.2)) rfl rfl ?_
      refine g_aload_n C (gdec dt_L_law 441 rfl) (i := 2) rfl rfl ?_
      refine g_aload_n C (gdec dt_L_law 442 rfl) (i := 0) rfl rfl ?_
      refine g_iload_n C (gdec dt_L_law 443 rfl) (i := 3) rfl rfl ?_
      refine g_iconst C (gdec dt_L_law 444 rfl) ic_1 ?_
      refine g_iadd C (gdec dt_L_law 445 rfl) ?_
      refine g_sld0 C hX hb hg93 (gdec dt_L_law 446 rfl) ?_
      obtain ⟨q95, hq95, hf⟩ := Option.bind_eq_some_iff.mp hf
      refine g_invVs e_shXM_shM_138 [.int (xs (x3 + (1 : Int32)).toNatClampNeg)] [.int q94.1] C (c_X11_rankOf l D cA _ (gInj_sub em_e_shXM_shM_138 (gCi C)) (gsub (gput w e_shXM_shX_0 q94.2) e_shXM_shM_138) (xs (x3 + (1 : Int32)).toNatClampNeg) q95 hq95) em_e_shXM_shM_138 (by decide) rfl kT_X11_rankOf kl_L_87 kim_X11_rankOf kse_X11_rankOf rfl rfl (i := 138) rfl rfl ⟨by decide, by decide⟩ ⟨Nat.le_refl _, Nat.le_refl _⟩ (Nat.le_of_ble_eq_true rfl) (gdec dt_L_law 447 rfl) rfl (st2 := [.int q95.1, .int q94.1]) (w2 := (gput (gput w e_shXM_shX_0 q94.2) e_shXM_shM_138 q95.2)) rfl rfl ?_
      refine g_icmp_eq C (tgt := 1910) (gdec dt_L_law 448 rfl) (by decide) (fun hc96 => ?_) (fun hc96 => ?_)
      · have hf := (if_pos hc96).symm.trans hf
        refine g_sub [0, 1, 2, 3] (lo2 := [(0, .ref 6000), (1, .ref 0), (2, .ref 138), (3, .int x3)]) rfl ?_
        exact L_L_law_1910 C hX hb hnew hk18 x3 (gput (gput w e_shXM_shX_0 q94.2) e_shXM_shM_138 q95.2) hf
      · have hf := (if_neg hc96).symm.trans hf
        refine g_iconst C (gdec dt_L_law 449 rfl) ic_0 ?_
        cases hf
    replace hf := (if_neg hc92).symm.trans hf
    by_cases hc97 : ((xs x3.toNatClampNeg) &&& (63 : Int32)) = (16 : Int32)
    · have hf := (if_pos hc97).symm.trans hf
      refine g_tableIn C (tgt := 807) (off := 774) (gdec dt_L_law 21 rfl) (by rw [hc97]; decide) (by rw [hc97]; decide) (by rw [hc97]; decide) (by decide) ?_
      refine g_aload_n C (gdec dt_L_law 451 rfl) (i := 1) rfl rfl ?_
      refine g_aload_n C (gdec dt_L_law 452 rfl) (i := 0) rfl rfl ?_
      refine g_iload_n C (gdec dt_L_law 453 rfl) (i := 3) rfl rfl ?_
      refine g_iconst C (gdec dt_L_law 454 rfl) ic_1 ?_
      refine g_iadd C (gdec dt_L_law 455 rfl) ?_
      obtain ⟨hg98, hf⟩ := gif hf
      refine g_sld0 C hX hb hg98 (gdec dt_L_law 456 rfl) ?_
      refine g_aload_n C (gdec dt_L_law 457 rfl) (i := 0) rfl rfl ?_
      refine g_iload_n C (gdec dt_L_law 458 rfl) (i := 3) rfl rfl ?_
      refine g_iconst C (gdec dt_L_law 459 rfl) ic_2 ?_
      refine g_iadd C (gdec dt_L_law 460 rfl) ?_
      obtain ⟨hg99, hf⟩ := gif hf
      refine g_sld0 C hX hb hg99 (gdec dt_L_law 461 rfl) ?_
      obtain ⟨q100, hq100, hf⟩ := Option.bind_eq_some_iff.mp hf
      refine g_invVs e_shXM_shX_0 [.int (xs (x3 + (1 : Int32)).toNatClampNeg), .int (xs (x3 + (2 : Int32)).toNatClampNeg)] [] C (c_X10_client l D cA _ (gInj_sub em_e_shXM_shX_0 (gCi C)) (gsub w e_shXM_shX_0) (xs (x3 + (1 : Int32)).toNatClampNeg) (xs (x3 + (2 : Int32)).toNatClampNeg) q100 hq100) em_e_shXM_shX_0 (by decide) rfl kT_X10_client kl_L_88 kim_X10_client kse_X10_client rfl rfl (i := 0) rfl rfl ⟨by decide, by decide⟩ ⟨Nat.le_refl _, Nat.le_refl _⟩ (Nat.le_of_ble_eq_true rfl) (gdec dt_L_law 462 rfl) rfl (st2 := [.int q100.1]) (w2 := (gput w e_shXM_shX_0 q100.2)) rfl rfl ?_
      refine g_aload_n C (gdec dt_L_law 463 rfl) (i := 2) rfl rfl ?_
      refine g_aload_n C (gdec dt_L_law 464 rfl) (i := 0) rfl rfl ?_
      refine g_iload_n C (gdec dt_L_law 465 rfl) (i := 3) rfl rfl ?_
      refine g_iconst C (gdec dt_L_law 466 rfl) ic_1 ?_
      refine g_iadd C (gdec dt_L_law 467 rfl) ?_
      refine g_sld0 C hX hb hg98 (gdec dt_L_law 468 rfl) ?_
      refine g_aload_n C (gdec dt_L_law 469 rfl) (i := 0) rfl rfl ?_
      refine g_iload_n C (gdec dt_L_law 470 rfl) (i := 3) rfl rfl ?_
      refine g_iconst C (gdec dt_L_law 471 rfl) ic_2 ?_
      refine g_iadd C (gdec dt_L_law 472 rfl) ?_
      refine g_sld0 C hX hb hg99 (gdec dt_L_law 473 rfl) ?_
      obtain ⟨q101, hq101, hf⟩ := Option.bind_eq_some_iff.mp hf
      refine g_invVs e_shXM_shM_138 [.int (xs (x3 + (1 : Int32)).toNatClampNeg), .int (xs (x3 + (2 : Int32)).toNatClampNeg)] [.int q100.1] C (c_X11_client l D cA _ (gInj_sub em_e_shXM_shM_138 (gCi C)) (gsub (gput w e_shXM_shX_0 q100.2) e_shXM_shM_138) (xs (x3 + (1 : Int32)).toNatClampNeg) (xs (x3 + (2 : Int32)).toNatClampNeg) q101 hq101) em_e_shXM_shM_138 (by decide) rfl kT_X11_client kl_L_91 kim_X11_client kse_X11_client rfl rfl (i := 138) rfl rfl ⟨by decide, by decide⟩ ⟨Nat.le_refl _, Nat.le_refl _⟩ (Nat.le_of_ble_eq_true rfl) (gdec dt_L_law 474 rfl) rfl (st2 := [.int q101.1, .int q100.1]) (w2 := (gput (gput w e_shXM_shX_0 q100.2) e_shXM_shM_138 q101.2)) rfl rfl ?_
      refine g_icmp_eq C (tgt := 1910) (gdec dt_L_law 475 rfl) (by decide) (fun hc102 => ?_) (fun hc102 => ?_)
      · have hf := (if_pos hc102).symm.trans hf
        refine g_sub [0, 1, 2, 3] (lo2 := [(0, .ref 6000), (1, .ref 0), (2, .ref 138), (3, .int x3)]) rfl ?_
        exact L_L_law_1910 C hX hb hnew hk18 x3 (gput (gput w e_shXM_shX_0 q100.2) e_shXM_shM_138 q101.2) hf
      · have hf := (if_neg hc102).symm.trans hf
        refine g_iconst C (gdec dt_L_law 476 rfl) ic_0 ?_
        cases hf
    replace hf := (if_neg hc97).symm.trans hf
    by_cases hc103 : ((xs x3.toNatClampNeg) &&& (63 : Int32)) = (17 : Int32)
    · have hf := (if_pos hc103).symm.trans hf
      refine g_tableIn C (tgt := 840) (off := 807) (gdec dt_L_law 21 rfl) (by rw [hc103]; decide) (by rw [hc103]; decide) (by rw [hc103]; decide) (by decide) ?_
      refine g_aload_n C (gdec dt_L_law 478 rfl) (i := 1) rfl rfl ?_
      refine g_aload_n C (gdec dt_L_law 479 rfl) (i := 0) rfl rfl ?_
      refine g_iload_n C (gdec dt_L_law 480 rfl) (i := 3) rfl rfl ?_
      refine g_iconst C (gdec dt_L_law 481 rfl) ic_1 ?_
      refine g_iadd C (gdec dt_L_law 482 rfl) ?_
      obtain ⟨hg104, hf⟩ := gif hf
      refine g_sld0 C hX hb hg104 (gdec dt_L_law 483 rfl) ?_
      obtain ⟨q105, hq105, hf⟩ := Option.bind_eq_some_iff.mp hf
      refine g_invVs e_shXM_shX_0 [.int (xs (x3 + (1 : Int32)).toNatClampNeg)] [] C (c_X10_year l D cA _ (gInj_sub em_e_shXM_shX_0 (gCi C)) (gsub w e_shXM_shX_0) (xs (x3 + (1 : Int32)).toNatClampNeg) q105 hq105) em_e_shXM_shX_0 (by decide) rfl kT_X10_year kl_L_92 kim_X10_year kse_X10_year rfl rfl (i := 0) rfl rfl ⟨by decide, by decide⟩ ⟨Nat.le_refl _, Nat.le_refl _⟩ (Nat.le_of_ble_eq_true rfl) (gdec dt_L_law 484 rfl) rfl (st2 := [.int q105.1]) (w2 := (gput w e_shXM_shX_0 q105.2)) rfl rfl ?_
      refine g_aload_n C (gdec dt_L_law 485 rfl) (i := 2) rfl rfl ?_
      refine g_aload_n C (gdec dt_L_law 486 rfl) (i := 0) rfl rfl ?_
      refine g_iload_n C (gdec dt_L_law 487 rfl) (i := 3) rfl rfl ?_
      refine g_iconst C (gdec dt_L_law 488 rfl) ic_1 ?_
      refine g_iadd C (gdec dt_L_law 489 rfl) ?_
      refine g_sld0 C hX hb hg104 (gdec dt_L_law 490 rfl) ?_
      obtain ⟨q106, hq106, hf⟩ := Option.bind_eq_some_iff.mp hf
      refine g_invVs e_shXM_shM_138 [.int (xs (x3 + (1 : Int32)).toNatClampNeg)] [.int q105.1] C (c_X11_year l D cA _ (gInj_sub em_e_shXM_shM_138 (gCi C)) (gsub (gput w e_shXM_shX_0 q105.2) e_shXM_shM_138) (xs (x3 + (1 : Int32)).toNatClampNeg) q106 hq106) em_e_shXM_shM_138 (by decide) rfl kT_X11_year kl_L_95 kim_X11_year kse_X11_year rfl rfl (i := 138) rfl rfl ⟨by decide, by decide⟩ ⟨Nat.le_refl _, Nat.le_refl _⟩ (Nat.le_of_ble_eq_true rfl) (gdec dt_L_law 491 rfl) rfl (st2 := [.int q106.1, .int q105.1]) (w2 := (gput (gput w e_shXM_shX_0 q105.2) e_shXM_shM_138 q106.2)) rfl rfl ?_
      refine g_icmp_eq C (tgt := 1910) (gdec dt_L_law 492 rfl) (by decide) (fun hc107 => ?_) (fun hc107 => ?_)
      · have hf := (if_pos hc107).symm.trans hf
        refine g_sub [0, 1, 2, 3] (lo2 := [(0, .ref 6000), (1, .ref 0), (2, .ref 138), (3, .int x3)]) rfl ?_
        exact L_L_law_1910 C hX hb hnew hk18 x3 (gput (gput w e_shXM_shX_0 q105.2) e_shXM_shM_138 q106.2) hf
      · have hf := (if_neg hc107).symm.trans hf
        refine g_iconst C (gdec dt_L_law 493 rfl) ic_0 ?_
        cases hf
    replace hf := (if_neg hc103).symm.trans hf
    by_cases hc108 : ((xs x3.toNatClampNeg) &&& (63 : Int32)) = (18 : Int32)
    · have hf := (if_pos hc108).symm.trans hf
      refine g_tableIn C (tgt := 863) (off := 830) (gdec dt_L_law 21 rfl) (by rw [hc108]; decide) (by rw [hc108]; decide) (by rw [hc108]; decide) (by decide) ?_
      refine g_aload_n C (gdec dt_L_law 495 rfl) (i := 1) rfl rfl ?_
      refine g_aload_n C (gdec dt_L_law 496 rfl) (i := 0) rfl rfl ?_
      refine g_iload_n C (gdec dt_L_law 497 rfl) (i := 3) rfl rfl ?_
      refine g_iconst C (gdec dt_L_law 498 rfl) ic_1 ?_
      refine g_iadd C (gdec dt_L_law 499 rfl) ?_
      obtain ⟨hg109, hf⟩ := gif hf
      refine g_sld0 C hX hb hg109 (gdec dt_L_law 500 rfl) ?_
      refine g_aload_n C (gdec dt_L_law 501 rfl) (i := 0) rfl rfl ?_
      refine g_iload_n C (gdec dt_L_law 502 rfl) (i := 3) rfl rfl ?_
      refine g_iconst C (gdec dt_L_law 503 rfl) ic_2 ?_
      refine g_iadd C (gdec dt_L_law 504 rfl) ?_
      obtain ⟨hg110, hf⟩ := gif hf
      refine g_sld0 C hX hb hg110 (gdec dt_L_law 505 rfl) ?_
      obtain ⟨q111, hq111, hf⟩ := Option.bind_eq_some_iff.mp hf
      refine g_invVs e_shXM_shX_0 [.int (xs (x3 + (1 : Int32)).toNatClampNeg), .int (xs (x3 + (2 : Int32)).toNatClampNeg)] [] C (c_X10_move l D cA _ (gInj_sub em_e_shXM_shX_0 (gCi C)) (gsub w e_shXM_shX_0) (xs (x3 + (1 : Int32)).toNatClampNeg) (xs (x3 + (2 : Int32)).toNatClampNeg) q111 hq111) em_e_shXM_shX_0 (by decide) rfl kT_X10_move kl_L_96 kim_X10_move kse_X10_move rfl rfl (i := 0) rfl rfl ⟨by decide, by decide⟩ ⟨Nat.le_refl _, Nat.le_refl _⟩ (Nat.le_of_ble_eq_true rfl) (gdec dt_L_law 506 rfl) rfl (st2 := [.int q111.1]) (w2 := (gput w e_shXM_shX_0 q111.2)) rfl rfl ?_
      refine g_aload_n C (gdec dt_L_law 507 rfl) (i := 2) rfl rfl ?_
      refine g_aload_n C (gdec dt_L_law 508 rfl) (i := 0) rfl rfl ?_
      refine g_iload_n C (gdec dt_L_law 509 rfl) (i := 3) rfl rfl ?_
      refine g_iconst C (gdec dt_L_law 510 rfl) ic_1 ?_
      refine g_iadd C (gdec dt_L_law 511 rfl) ?_
      refine g_sld0 C hX hb hg109 (gdec dt_L_law 512 rfl) ?_
      refine g_aload_n C (gdec dt_L_law 513 rfl) (i := 0) rfl rfl ?_
      refine g_iload_n C (gdec dt_L_law 514 rfl) (i := 3) rfl rfl ?_
      refine g_iconst C (gdec dt_L_law 515 rfl) ic_2 ?_
      refine g_iadd C (gdec dt_L_law 516 rfl) ?_
      refine g_sld0 C hX hb hg110 (gdec dt_L_law 517 rfl) ?_
      obtain ⟨q112, hq112, hf⟩ := Option.bind_eq_some_iff.mp hf
      refine g_invVs e_shXM_shM_138 [.int (xs (x3 + (1 : Int32)).toNatClampNeg), .int (xs (x3 + (2 : Int32)).toNatClampNeg)] [.int q111.1] C (c_X11_move l D cA _ (gInj_sub em_e_shXM_shM_138 (gCi C)) (gsub (gput w e_shXM_shX_0 q111.2) e_shXM_shM_138) (xs (x3 + (1 : Int32)).toNatClampNeg) (xs (x3 + (2 : Int32)).toNatClampNeg) q112 hq112) em_e_shXM_shM_138 (by decide) rfl kT_X11_move kl_L_99 kim_X11_move kse_X11_move rfl rfl (i := 138) rfl rfl ⟨by decide, by decide⟩ ⟨Nat.le_refl _, Nat.le_refl _⟩ (Nat.le_of_ble_eq_true rfl) (gdec dt_L_law 518 rfl) rfl (st2 := [.int q112.1, .int q111.1]) (w2 := (gput (gput w e_shXM_shX_0 q111.2) e_shXM_shM_138 q112.2)) rfl rfl ?_
      refine g_icmp_eq C (tgt := 1910) (gdec dt_L_law 519 rfl) (by decide) (fun hc113 => ?_) (fun hc113 => ?_)
      · have hf := (if_pos hc113).symm.trans hf
        refine g_sub [0, 1, 2, 3] (lo2 := [(0, .ref 6000), (1, .ref 0), (2, .ref 138), (3, .int x3)]) rfl ?_
        exact L_L_law_1910 C hX hb hnew hk18 x3 (gput (gput w e_shXM_shX_0 q111.2) e_shXM_shM_138 q112.2) hf
      · have hf := (if_neg hc113).symm.trans hf
        refine g_iconst C (gdec dt_L_law 520 rfl) ic_0 ?_
        cases hf
    replace hf := (if_neg hc108).symm.trans hf
    by_cases hc114 : ((xs x3.toNatClampNeg) &&& (63 : Int32)) = (19 : Int32)
    · have hf := (if_pos hc114).symm.trans hf
      refine g_tableIn C (tgt := 896) (off := 863) (gdec dt_L_law 21 rfl) (by rw [hc114]; decide) (by rw [hc114]; decide) (by rw [hc114]; decide) (by decide) ?_
      refine g_aload_n C (gdec dt_L_law 522 rfl) (i := 1) rfl rfl ?_
      refine g_aload_n C (gdec dt_L_law 523 rfl) (i := 0) rfl rfl ?_
      refine g_iload_n C (gdec dt_L_law 524 rfl) (i := 3) rfl rfl ?_
      refine g_iconst C (gdec dt_L_law 525 rfl) ic_1 ?_
      refine g_iadd C (gdec dt_L_law 526 rfl) ?_
      obtain ⟨hg115, hf⟩ := gif hf
      refine g_sld0 C hX hb hg115 (gdec dt_L_law 527 rfl) ?_
      refine g_aload_n C (gdec dt_L_law 528 rfl) (i := 0) rfl rfl ?_
      refine g_iload_n C (gdec dt_L_law 529 rfl) (i := 3) rfl rfl ?_
      refine g_iconst C (gdec dt_L_law 530 rfl) ic_2 ?_
      refine g_iadd C (gdec dt_L_law 531 rfl) ?_
      obtain ⟨hg116, hf⟩ := gif hf
      refine g_sld0 C hX hb hg116 (gdec dt_L_law 532 rfl) ?_
      obtain ⟨q117, hq117, hf⟩ := Option.bind_eq_some_iff.mp hf
      refine g_invVs e_shXM_shX_0 [.int (xs (x3 + (1 : Int32)).toNatClampNeg), .int (xs (x3 + (2 : Int32)).toNatClampNeg)] [] C (c_X10_swap l D cA _ (gInj_sub em_e_shXM_shX_0 (gCi C)) (gsub w e_shXM_shX_0) (xs (x3 + (1 : Int32)).toNatClampNeg) (xs (x3 + (2 : Int32)).toNatClampNeg) q117 hq117) em_e_shXM_shX_0 (by decide) rfl kT_X10_swap kl_L_100 kim_X10_swap kse_X10_swap rfl rfl (i := 0) rfl rfl ⟨by decide, by decide⟩ ⟨Nat.le_refl _, Nat.le_refl _⟩ (Nat.le_of_ble_eq_true rfl) (gdec dt_L_law 533 rfl) rfl (st2 := [.int q117.1]) (w2 := (gput w e_shXM_shX_0 q117.2)) rfl rfl ?_
      refine g_aload_n C (gdec dt_L_law 534 rfl) (i := 2) rfl rfl ?_
      refine g_aload_n C (gdec dt_L_law 535 rfl) (i := 0) rfl rfl ?_
      refine g_iload_n C (gdec dt_L_law 536 rfl) (i := 3) rfl rfl ?_
      refine g_iconst C (gdec dt_L_law 537 rfl) ic_1 ?_
      refine g_iadd C (gdec dt_L_law 538 rfl) ?_
      refine g_sld0 C hX hb hg115 (gdec dt_L_law 539 rfl) ?_
      refine g_aload_n C (gdec dt_L_law 540 rfl) (i := 0) rfl rfl ?_
      refine g_iload_n C (gdec dt_L_law 541 rfl) (i := 3) rfl rfl ?_
      refine g_iconst C (gdec dt_L_law 542 rfl) ic_2 ?_
      refine g_iadd C (gdec dt_L_law 543 rfl) ?_
      refine g_sld0 C hX hb hg116 (gdec dt_L_law 544 rfl) ?_
      obtain ⟨q118, hq118, hf⟩ := Option.bind_eq_some_iff.mp hf
      refine g_invVs e_shXM_shM_138 [.int (xs (x3 + (1 : Int32)).toNatClampNeg), .int (xs (x3 + (2 : Int32)).toNatClampNeg)] [.int q117.1] C (c_X11_swap l D cA _ (gInj_sub em_e_shXM_shM_138 (gCi C)) (gsub (gput w e_shXM_shX_0 q117.2) e_shXM_shM_138) (xs (x3 + (1 : Int32)).toNatClampNeg) (xs (x3 + (2 : Int32)).toNatClampNeg) q118 hq118) em_e_shXM_shM_138 (by decide) rfl kT_X11_swap kl_L_103 kim_X11_swap kse_X11_swap rfl rfl (i := 138) rfl rfl ⟨by decide, by decide⟩ ⟨Nat.le_refl _, Nat.le_refl _⟩ (Nat.le_of_ble_eq_true rfl) (gdec dt_L_law 545 rfl) rfl (st2 := [.int q118.1, .int q117.1]) (w2 := (gput (gput w e_shXM_shX_0 q117.2) e_shXM_shM_138 q118.2)) rfl rfl ?_
      refine g_icmp_eq C (tgt := 1910) (gdec dt_L_law 546 rfl) (by decide) (fun hc119 => ?_) (fun hc119 => ?_)
      · have hf := (if_pos hc119).symm.trans hf
        refine g_sub [0, 1, 2, 3] (lo2 := [(0, .ref 6000), (1, .ref 0), (2, .ref 138), (3, .int x3)]) rfl ?_
        exact L_L_law_1910 C hX hb hnew hk18 x3 (gput (gput w e_shXM_shX_0 q117.2) e_shXM_shM_138 q118.2) hf
      · have hf := (if_neg hc119).symm.trans hf
        refine g_iconst C (gdec dt_L_law 547 rfl) ic_0 ?_
        cases hf
    replace hf := (if_neg hc114).symm.trans hf
    by_cases hc120 : ((xs x3.toNatClampNeg) &&& (63 : Int32)) = (20 : Int32)
    · have hf := (if_pos hc120).symm.trans hf
      refine g_tableIn C (tgt := 929) (off := 896) (gdec dt_L_law 21 rfl) (by rw [hc120]; decide) (by rw [hc120]; decide) (by rw [hc120]; decide) (by decide) ?_
      refine g_aload_n C (gdec dt_L_law 549 rfl) (i := 1) rfl rfl ?_
      refine g_aload_n C (gdec dt_L_law 550 rfl) (i := 0) rfl rfl ?_
      refine g_iload_n C (gdec dt_L_law 551 rfl) (i := 3) rfl rfl ?_
      refine g_iconst C (gdec dt_L_law 552 rfl) ic_1 ?_
      refine g_iadd C (gdec dt_L_law 553 rfl) ?_
      obtain ⟨hg121, hf⟩ := gif hf
      refine g_sld0 C hX hb hg121 (gdec dt_L_law 554 rfl) ?_
      refine g_aload_n C (gdec dt_L_law 555 rfl) (i := 0) rfl rfl ?_
      refine g_iload_n C (gdec dt_L_law 556 rfl) (i := 3) rfl rfl ?_
      refine g_iconst C (gdec dt_L_law 557 rfl) ic_2 ?_
      refine g_iadd C (gdec dt_L_law 558 rfl) ?_
      obtain ⟨hg122, hf⟩ := gif hf
      refine g_sld0 C hX hb hg122 (gdec dt_L_law 559 rfl) ?_
      obtain ⟨q123, hq123, hf⟩ := Option.bind_eq_some_iff.mp hf
      refine g_invVs e_shXM_shX_0 [.int (xs (x3 + (1 : Int32)).toNatClampNeg), .int (xs (x3 + (2 : Int32)).toNatClampNeg)] [] C (c_X10_fan l D cA _ (gInj_sub em_e_shXM_shX_0 (gCi C)) (gsub w e_shXM_shX_0) (xs (x3 + (1 : Int32)).toNatClampNeg) (xs (x3 + (2 : Int32)).toNatClampNeg) q123 hq123) em_e_shXM_shX_0 (by decide) rfl kT_X10_fan kl_L_104 kim_X10_fan kse_X10_fan rfl rfl (i := 0) rfl rfl ⟨by decide, by decide⟩ ⟨Nat.le_refl _, Nat.le_refl _⟩ (Nat.le_of_ble_eq_true rfl) (gdec dt_L_law 560 rfl) rfl (st2 := [.int q123.1]) (w2 := (gput w e_shXM_shX_0 q123.2)) rfl rfl ?_
      refine g_aload_n C (gdec dt_L_law 561 rfl) (i := 2) rfl rfl ?_
      refine g_aload_n C (gdec dt_L_law 562 rfl) (i := 0) rfl rfl ?_
      refine g_iload_n C (gdec dt_L_law 563 rfl) (i := 3) rfl rfl ?_
      refine g_iconst C (gdec dt_L_law 564 rfl) ic_1 ?_
      refine g_iadd C (gdec dt_L_law 565 rfl) ?_
      refine g_sld0 C hX hb hg121 (gdec dt_L_law 566 rfl) ?_
      refine g_aload_n C (gdec dt_L_law 567 rfl) (i := 0) rfl rfl ?_
      refine g_iload_n C (gdec dt_L_law 568 rfl) (i := 3) rfl rfl ?_
      refine g_iconst C (gdec dt_L_law 569 rfl) ic_2 ?_
      refine g_iadd C (gdec dt_L_law 570 rfl) ?_
      refine g_sld0 C hX hb hg122 (gdec dt_L_law 571 rfl) ?_
      obtain ⟨q124, hq124, hf⟩ := Option.bind_eq_some_iff.mp hf
      refine g_invVs e_shXM_shM_138 [.int (xs (x3 + (1 : Int32)).toNatClampNeg), .int (xs (x3 + (2 : Int32)).toNatClampNeg)] [.int q123.1] C (c_X11_fan l D cA _ (gInj_sub em_e_shXM_shM_138 (gCi C)) (gsub (gput w e_shXM_shX_0 q123.2) e_shXM_shM_138) (xs (x3 + (1 : Int32)).toNatClampNeg) (xs (x3 + (2 : Int32)).toNatClampNeg) q124 hq124) em_e_shXM_shM_138 (by decide) rfl kT_X11_fan kl_L_107 kim_X11_fan kse_X11_fan rfl rfl (i := 138) rfl rfl ⟨by decide, by decide⟩ ⟨Nat.le_refl _, Nat.le_refl _⟩ (Nat.le_of_ble_eq_true rfl) (gdec dt_L_law 572 rfl) rfl (st2 := [.int q124.1, .int q123.1]) (w2 := (gput (gput w e_shXM_shX_0 q123.2) e_shXM_shM_138 q124.2)) rfl rfl ?_
      refine g_icmp_eq C (tgt := 1910) (gdec dt_L_law 573 rfl) (by decide) (fun hc125 => ?_) (fun hc125 => ?_)
      · have hf := (if_pos hc125).symm.trans hf
        refine g_sub [0, 1, 2, 3] (lo2 := [(0, .ref 6000), (1, .ref 0), (2, .ref 138), (3, .int x3)]) rfl ?_
        exact L_L_law_1910 C hX hb hnew hk18 x3 (gput (gput w e_shXM_shX_0 q123.2) e_shXM_shM_138 q124.2) hf
      · have hf := (if_neg hc125).symm.trans hf
        refine g_iconst C (gdec dt_L_law 574 rfl) ic_0 ?_
        cases hf
    replace hf := (if_neg hc120).symm.trans hf
    by_cases hc126 : ((xs x3.toNatClampNeg) &&& (63 : Int32)) = (21 : Int32)
    · have hf := (if_pos hc126).symm.trans hf
      refine g_tableIn C (tgt := 962) (off := 929) (gdec dt_L_law 21 rfl) (by rw [hc126]; decide) (by rw [hc126]; decide) (by rw [hc126]; decide) (by decide) ?_
      refine g_aload_n C (gdec dt_L_law 576 rfl) (i := 1) rfl rfl ?_
      refine g_aload_n C (gdec dt_L_law 577 rfl) (i := 0) rfl rfl ?_
      refine g_iload_n C (gdec dt_L_law 578 rfl) (i := 3) rfl rfl ?_
      refine g_iconst C (gdec dt_L_law 579 rfl) ic_1 ?_
      refine g_iadd C (gdec dt_L_law 580 rfl) ?_
      obtain ⟨hg127, hf⟩ := gif hf
      refine g_sld0 C hX hb hg127 (gdec dt_L_law 581 rfl) ?_
      obtain ⟨q128, hq128, hf⟩ := Option.bind_eq_some_iff.mp hf
      refine g_invVs e_shXM_shX_0 [.int (xs (x3 + (1 : Int32)).toNatClampNeg)] [] C (c_X10_dust l D cA _ (gInj_sub em_e_shXM_shX_0 (gCi C)) (gsub w e_shXM_shX_0) (xs (x3 + (1 : Int32)).toNatClampNeg) q128 hq128) em_e_shXM_shX_0 (by decide) rfl kT_X10_dust kl_L_108 kim_X10_dust kse_X10_dust rfl rfl (i := 0) rfl rfl ⟨by decide, by decide⟩ ⟨Nat.le_refl _, Nat.le_refl _⟩ (Nat.le_of_ble_eq_true rfl) (gdec dt_L_law 582 rfl) rfl (st2 := [.int q128.1]) (w2 := (gput w e_shXM_shX_0 q128.2)) rfl rfl ?_
      refine g_aload_n C (gdec dt_L_law 583 rfl) (i := 2) rfl rfl ?_
      refine g_aload_n C (gdec dt_L_law 584 rfl) (i := 0) rfl rfl ?_
      refine g_iload_n C (gdec dt_L_law 585 rfl) (i := 3) rfl rfl ?_
      refine g_iconst C (gdec dt_L_law 586 rfl) ic_1 ?_
      refine g_iadd C (gdec dt_L_law 587 rfl) ?_
      refine g_sld0 C hX hb hg127 (gdec dt_L_law 588 rfl) ?_
      obtain ⟨q129, hq129, hf⟩ := Option.bind_eq_some_iff.mp hf
      refine g_invVs e_shXM_shM_138 [.int (xs (x3 + (1 : Int32)).toNatClampNeg)] [.int q128.1] C (c_X11_dust l D cA _ (gInj_sub em_e_shXM_shM_138 (gCi C)) (gsub (gput w e_shXM_shX_0 q128.2) e_shXM_shM_138) (xs (x3 + (1 : Int32)).toNatClampNeg) q129 hq129) em_e_shXM_shM_138 (by decide) rfl kT_X11_dust kl_L_111 kim_X11_dust kse_X11_dust rfl rfl (i := 138) rfl rfl ⟨by decide, by decide⟩ ⟨Nat.le_refl _, Nat.le_refl _⟩ (Nat.le_of_ble_eq_true rfl) (gdec dt_L_law 589 rfl) rfl (st2 := [.int q129.1, .int q128.1]) (w2 := (gput (gput w e_shXM_shX_0 q128.2) e_shXM_shM_138 q129.2)) rfl rfl ?_
      refine g_icmp_eq C (tgt := 1910) (gdec dt_L_law 590 rfl) (by decide) (fun hc130 => ?_) (fun hc130 => ?_)
      · have hf := (if_pos hc130).symm.trans hf
        refine g_sub [0, 1, 2, 3] (lo2 := [(0, .ref 6000), (1, .ref 0), (2, .ref 138), (3, .int x3)]) rfl ?_
        exact L_L_law_1910 C hX hb hnew hk18 x3 (gput (gput w e_shXM_shX_0 q128.2) e_shXM_shM_138 q129.2) hf
      · have hf := (if_neg hc130).symm.trans hf
        refine g_iconst C (gdec dt_L_law 591 rfl) ic_0 ?_
        cases hf
    replace hf := (if_neg hc126).symm.trans hf
    by_cases hc131 : ((xs x3.toNatClampNeg) &&& (63 : Int32)) = (22 : Int32)
    · have hf := (if_pos hc131).symm.trans hf
      refine g_tableIn C (tgt := 985) (off := 952) (gdec dt_L_law 21 rfl) (by rw [hc131]; decide) (by rw [hc131]; decide) (by rw [hc131]; decide) (by decide) ?_
      refine g_aload_n C (gdec dt_L_law 593 rfl) (i := 1) rfl rfl ?_
      refine g_aload_n C (gdec dt_L_law 594 rfl) (i := 0) rfl rfl ?_
      refine g_iload_n C (gdec dt_L_law 595 rfl) (i := 3) rfl rfl ?_
      refine g_iconst C (gdec dt_L_law 596 rfl) ic_1 ?_
      refine g_iadd C (gdec dt_L_law 597 rfl) ?_
      obtain ⟨hg132, hf⟩ := gif hf
      refine g_sld0 C hX hb hg132 (gdec dt_L_law 598 rfl) ?_
      obtain ⟨q133, hq133, hf⟩ := Option.bind_eq_some_iff.mp hf
      refine g_invVs e_shXM_shX_0 [.int (xs (x3 + (1 : Int32)).toNatClampNeg)] [] C (c_X10_look l D cA _ (gInj_sub em_e_shXM_shX_0 (gCi C)) (gsub w e_shXM_shX_0) (xs (x3 + (1 : Int32)).toNatClampNeg) q133 hq133) em_e_shXM_shX_0 (by decide) rfl kT_X10_look kl_L_112 kim_X10_look kse_X10_look rfl rfl (i := 0) rfl rfl ⟨by decide, by decide⟩ ⟨Nat.le_refl _, Nat.le_refl _⟩ (Nat.le_of_ble_eq_true rfl) (gdec dt_L_law 599 rfl) rfl (st2 := [.int q133.1]) (w2 := (gput w e_shXM_shX_0 q133.2)) rfl rfl ?_
      refine g_aload_n C (gdec dt_L_law 600 rfl) (i := 2) rfl rfl ?_
      refine g_aload_n C (gdec dt_L_law 601 rfl) (i := 0) rfl rfl ?_
      refine g_iload_n C (gdec dt_L_law 602 rfl) (i := 3) rfl rfl ?_
      refine g_iconst C (gdec dt_L_law 603 rfl) ic_1 ?_
      refine g_iadd C (gdec dt_L_law 604 rfl) ?_
      refine g_sld0 C hX hb hg132 (gdec dt_L_law 605 rfl) ?_
      obtain ⟨q134, hq134, hf⟩ := Option.bind_eq_some_iff.mp hf
      refine g_invVs e_shXM_shM_138 [.int (xs (x3 + (1 : Int32)).toNatClampNeg)] [.int q133.1] C (c_X11_look l D cA _ (gInj_sub em_e_shXM_shM_138 (gCi C)) (gsub (gput w e_shXM_shX_0 q133.2) e_shXM_shM_138) (xs (x3 + (1 : Int32)).toNatClampNeg) q134 hq134) em_e_shXM_shM_138 (by decide) rfl kT_X11_look kl_L_115 kim_X11_look kse_X11_look rfl rfl (i := 138) rfl rfl ⟨by decide, by decide⟩ ⟨Nat.le_refl _, Nat.le_refl _⟩ (Nat.le_of_ble_eq_true rfl) (gdec dt_L_law 606 rfl) rfl (st2 := [.int q134.1, .int q133.1]) (w2 := (gput (gput w e_shXM_shX_0 q133.2) e_shXM_shM_138 q134.2)) rfl rfl ?_
      refine g_icmp_eq C (tgt := 1910) (gdec dt_L_law 607 rfl) (by decide) (fun hc135 => ?_) (fun hc135 => ?_)
      · have hf := (if_pos hc135).symm.trans hf
        refine g_sub [0, 1, 2, 3] (lo2 := [(0, .ref 6000), (1, .ref 0), (2, .ref 138), (3, .int x3)]) rfl ?_
        exact L_L_law_1910 C hX hb hnew hk18 x3 (gput (gput w e_shXM_shX_0 q133.2) e_shXM_shM_138 q134.2) hf
      · have hf := (if_neg hc135).symm.trans hf
        refine g_iconst C (gdec dt_L_law 608 rfl) ic_0 ?_
        cases hf
    replace hf := (if_neg hc131).symm.trans hf
    by_cases hc136 : ((xs x3.toNatClampNeg) &&& (63 : Int32)) = (23 : Int32)
    · have hf := (if_pos hc136).symm.trans hf
      refine g_tableIn C (tgt := 1008) (off := 975) (gdec dt_L_law 21 rfl) (by rw [hc136]; decide) (by rw [hc136]; decide) (by rw [hc136]; decide) (by decide) ?_
      refine g_aload_n C (gdec dt_L_law 610 rfl) (i := 1) rfl rfl ?_
      obtain ⟨q137, hq137, hf⟩ := Option.bind_eq_some_iff.mp hf
      refine g_invVs e_shXM_shX_0 [] [] C (c_X10_run l D cA _ (gInj_sub em_e_shXM_shX_0 (gCi C)) (gsub w e_shXM_shX_0)  q137 hq137) em_e_shXM_shX_0 (by decide) rfl kT_X10_run kl_L_116 kim_X10_run kse_X10_run rfl rfl (i := 0) rfl rfl ⟨by decide, by decide⟩ ⟨Nat.le_refl _, Nat.le_refl _⟩ (Nat.le_of_ble_eq_true rfl) (gdec dt_L_law 611 rfl) rfl (st2 := [.int q137.1]) (w2 := (gput w e_shXM_shX_0 q137.2)) rfl rfl ?_
      refine g_aload_n C (gdec dt_L_law 612 rfl) (i := 2) rfl rfl ?_
      obtain ⟨q138, hq138, hf⟩ := Option.bind_eq_some_iff.mp hf
      refine g_invVs e_shXM_shM_138 [] [.int q137.1] C (c_X11_run l D cA _ (gInj_sub em_e_shXM_shM_138 (gCi C)) (gsub (gput w e_shXM_shX_0 q137.2) e_shXM_shM_138)  q138 hq138) em_e_shXM_shM_138 (by decide) rfl kT_X11_run kl_L_119 kim_X11_run kse_X11_run rfl rfl (i := 138) rfl rfl ⟨by decide, by decide⟩ ⟨Nat.le_refl _, Nat.le_refl _⟩ (Nat.le_of_ble_eq_true rfl) (gdec dt_L_law 613 rfl) rfl (st2 := [.int q138.1, .int q137.1]) (w2 := (gput (gput w e_shXM_shX_0 q137.2) e_shXM_shM_138 q138.2)) rfl rfl ?_
      refine g_icmp_eq C (tgt := 1910) (gdec dt_L_law 614 rfl) (by decide) (fun hc139 => ?_) (fun hc139 => ?_)
      · have hf := (if_pos hc139).symm.trans hf
        refine g_sub [0, 1, 2, 3] (lo2 := [(0, .ref 6000), (1, .ref 0), (2, .ref 138), (3, .int x3)]) rfl ?_
        exact L_L_law_1910 C hX hb hnew hk18 x3 (gput (gput w e_shXM_shX_0 q137.2) e_shXM_shM_138 q138.2) hf
      · have hf := (if_neg hc139).symm.trans hf
        refine g_iconst C (gdec dt_L_law 615 rfl) ic_0 ?_
        cases hf
    replace hf := (if_neg hc136).symm.trans hf
    by_cases hc140 : ((xs x3.toNatClampNeg) &&& (63 : Int32)) = (24 : Int32)
    · have hf := (if_pos hc140).symm.trans hf
      refine g_tableIn C (tgt := 1021) (off := 988) (gdec dt_L_law 21 rfl) (by rw [hc140]; decide) (by rw [hc140]; decide) (by rw [hc140]; decide) (by decide) ?_
      refine g_aload_n C (gdec dt_L_law 617 rfl) (i := 1) rfl rfl ?_
      refine g_aload_n C (gdec dt_L_law 618 rfl) (i := 0) rfl rfl ?_
      refine g_iload_n C (gdec dt_L_law 619 rfl) (i := 3) rfl rfl ?_
      refine g_iconst C (gdec dt_L_law 620 rfl) ic_1 ?_
      refine g_iadd C (gdec dt_L_law 621 rfl) ?_
      obtain ⟨hg141, hf⟩ := gif hf
      refine g_sld0 C hX hb hg141 (gdec dt_L_law 622 rfl) ?_
      obtain ⟨q142, hq142, hf⟩ := Option.bind_eq_some_iff.mp hf
      refine g_invVs e_shXM_shX_0 [.int (xs (x3 + (1 : Int32)).toNatClampNeg)] [] C (c_X10_hire l D cA _ (gInj_sub em_e_shXM_shX_0 (gCi C)) (gsub w e_shXM_shX_0) (xs (x3 + (1 : Int32)).toNatClampNeg) q142 hq142) em_e_shXM_shX_0 (by decide) rfl kT_X10_hire kl_L_120 kim_X10_hire kse_X10_hire rfl rfl (i := 0) rfl rfl ⟨by decide, by decide⟩ ⟨Nat.le_refl _, Nat.le_refl _⟩ (Nat.le_of_ble_eq_true rfl) (gdec dt_L_law 623 rfl) rfl (st2 := [.int q142.1]) (w2 := (gput w e_shXM_shX_0 q142.2)) rfl rfl ?_
      refine g_aload_n C (gdec dt_L_law 624 rfl) (i := 2) rfl rfl ?_
      refine g_aload_n C (gdec dt_L_law 625 rfl) (i := 0) rfl rfl ?_
      refine g_iload_n C (gdec dt_L_law 626 rfl) (i := 3) rfl rfl ?_
      refine g_iconst C (gdec dt_L_law 627 rfl) ic_1 ?_
      refine g_iadd C (gdec dt_L_law 628 rfl) ?_
      refine g_sld0 C hX hb hg141 (gdec dt_L_law 629 rfl) ?_
      obtain ⟨q143, hq143, hf⟩ := Option.bind_eq_some_iff.mp hf
      refine g_invVs e_shXM_shM_138 [.int (xs (x3 + (1 : Int32)).toNatClampNeg)] [.int q142.1] C (c_X11_hire l D cA _ (gInj_sub em_e_shXM_shM_138 (gCi C)) (gsub (gput w e_shXM_shX_0 q142.2) e_shXM_shM_138) (xs (x3 + (1 : Int32)).toNatClampNeg) q143 hq143) em_e_shXM_shM_138 (by decide) rfl kT_X11_hire kl_L_123 kim_X11_hire kse_X11_hire rfl rfl (i := 138) rfl rfl ⟨by decide, by decide⟩ ⟨Nat.le_refl _, Nat.le_refl _⟩ (Nat.le_of_ble_eq_true rfl) (gdec dt_L_law 630 rfl) rfl (st2 := [.int q143.1, .int q142.1]) (w2 := (gput (gput w e_shXM_shX_0 q142.2) e_shXM_shM_138 q143.2)) rfl rfl ?_
      refine g_icmp_eq C (tgt := 1910) (gdec dt_L_law 631 rfl) (by decide) (fun hc144 => ?_) (fun hc144 => ?_)
      · have hf := (if_pos hc144).symm.trans hf
        refine g_sub [0, 1, 2, 3] (lo2 := [(0, .ref 6000), (1, .ref 0), (2, .ref 138), (3, .int x3)]) rfl ?_
        exact L_L_law_1910 C hX hb hnew hk18 x3 (gput (gput w e_shXM_shX_0 q142.2) e_shXM_shM_138 q143.2) hf
      · have hf := (if_neg hc144).symm.trans hf
        refine g_iconst C (gdec dt_L_law 632 rfl) ic_0 ?_
        cases hf
    replace hf := (if_neg hc140).symm.trans hf
    by_cases hc145 : ((xs x3.toNatClampNeg) &&& (63 : Int32)) = (25 : Int32)
    · have hf := (if_pos hc145).symm.trans hf
      refine g_tableIn C (tgt := 1044) (off := 1011) (gdec dt_L_law 21 rfl) (by rw [hc145]; decide) (by rw [hc145]; decide) (by rw [hc145]; decide) (by decide) ?_
      refine g_aload_n C (gdec dt_L_law 634 rfl) (i := 1) rfl rfl ?_
      refine g_aload_n C (gdec dt_L_law 635 rfl) (i := 0) rfl rfl ?_
      refine g_iload_n C (gdec dt_L_law 636 rfl) (i := 3) rfl rfl ?_
      refine g_iconst C (gdec dt_L_law 637 rfl) ic_1 ?_
      refine g_iadd C (gdec dt_L_law 638 rfl) ?_
      obtain ⟨hg146, hf⟩ := gif hf
      refine g_sld0 C hX hb hg146 (gdec dt_L_law 639 rfl) ?_
      refine g_aload_n C (gdec dt_L_law 640 rfl) (i := 0) rfl rfl ?_
      refine g_iload_n C (gdec dt_L_law 641 rfl) (i := 3) rfl rfl ?_
      refine g_iconst C (gdec dt_L_law 642 rfl) ic_2 ?_
      refine g_iadd C (gdec dt_L_law 643 rfl) ?_
      obtain ⟨hg147, hf⟩ := gif hf
      refine g_sld0 C hX hb hg147 (gdec dt_L_law 644 rfl) ?_
      obtain ⟨q148, hq148, hf⟩ := Option.bind_eq_some_iff.mp hf
      refine g_invVs e_shXM_shX_0 [.int (xs (x3 + (1 : Int32)).toNatClampNeg), .int (xs (x3 + (2 : Int32)).toNatClampNeg)] [] C (c_X10_open l D cA _ (gInj_sub em_e_shXM_shX_0 (gCi C)) (gsub w e_shXM_shX_0) (xs (x3 + (1 : Int32)).toNatClampNeg) (xs (x3 + (2 : Int32)).toNatClampNeg) q148 hq148) em_e_shXM_shX_0 (by decide) rfl kT_X10_open kl_L_124 kim_X10_open kse_X10_open rfl rfl (i := 0) rfl rfl ⟨by decide, by decide⟩ ⟨Nat.le_refl _, Nat.le_refl _⟩ (Nat.le_of_ble_eq_true rfl) (gdec dt_L_law 645 rfl) rfl (st2 := [.int q148.1]) (w2 := (gput w e_shXM_shX_0 q148.2)) rfl rfl ?_
      refine g_aload_n C (gdec dt_L_law 646 rfl) (i := 2) rfl rfl ?_
      refine g_aload_n C (gdec dt_L_law 647 rfl) (i := 0) rfl rfl ?_
      refine g_iload_n C (gdec dt_L_law 648 rfl) (i := 3) rfl rfl ?_
      refine g_iconst C (gdec dt_L_law 649 rfl) ic_1 ?_
      refine g_iadd C (gdec dt_L_law 650 rfl) ?_
      refine g_sld0 C hX hb hg146 (gdec dt_L_law 651 rfl) ?_
      refine g_aload_n C (gdec dt_L_law 652 rfl) (i := 0) rfl rfl ?_
      refine g_iload_n C (gdec dt_L_law 653 rfl) (i := 3) rfl rfl ?_
      refine g_iconst C (gdec dt_L_law 654 rfl) ic_2 ?_
      refine g_iadd C (gdec dt_L_law 655 rfl) ?_
      refine g_sld0 C hX hb hg147 (gdec dt_L_law 656 rfl) ?_
      obtain ⟨q149, hq149, hf⟩ := Option.bind_eq_some_iff.mp hf
      refine g_invVs e_shXM_shM_138 [.int (xs (x3 + (1 : Int32)).toNatClampNeg), .int (xs (x3 + (2 : Int32)).toNatClampNeg)] [.int q148.1] C (c_X11_open l D cA _ (gInj_sub em_e_shXM_shM_138 (gCi C)) (gsub (gput w e_shXM_shX_0 q148.2) e_shXM_shM_138) (xs (x3 + (1 : Int32)).toNatClampNeg) (xs (x3 + (2 : Int32)).toNatClampNeg) q149 hq149) em_e_shXM_shM_138 (by decide) rfl kT_X11_open kl_L_127 kim_X11_open kse_X11_open rfl rfl (i := 138) rfl rfl ⟨by decide, by decide⟩ ⟨Nat.le_refl _, Nat.le_refl _⟩ (Nat.le_of_ble_eq_true rfl) (gdec dt_L_law 657 rfl) rfl (st2 := [.int q149.1, .int q148.1]) (w2 := (gput (gput w e_shXM_shX_0 q148.2) e_shXM_shM_138 q149.2)) rfl rfl ?_
      refine g_icmp_eq C (tgt := 1910) (gdec dt_L_law 658 rfl) (by decide) (fun hc150 => ?_) (fun hc150 => ?_)
      · have hf := (if_pos hc150).symm.trans hf
        refine g_sub [0, 1, 2, 3] (lo2 := [(0, .ref 6000), (1, .ref 0), (2, .ref 138), (3, .int x3)]) rfl ?_
        exact L_L_law_1910 C hX hb hnew hk18 x3 (gput (gput w e_shXM_shX_0 q148.2) e_shXM_shM_138 q149.2) hf
      · have hf := (if_neg hc150).symm.trans hf
        refine g_iconst C (gdec dt_L_law 659 rfl) ic_0 ?_
        cases hf
    replace hf := (if_neg hc145).symm.trans hf
    by_cases hc151 : ((xs x3.toNatClampNeg) &&& (63 : Int32)) = (26 : Int32)
    · have hf := (if_pos hc151).symm.trans hf
      refine g_tableIn C (tgt := 1077) (off := 1044) (gdec dt_L_law 21 rfl) (by rw [hc151]; decide) (by rw [hc151]; decide) (by rw [hc151]; decide) (by decide) ?_
      refine g_aload_n C (gdec dt_L_law 661 rfl) (i := 1) rfl rfl ?_
      refine g_aload_n C (gdec dt_L_law 662 rfl) (i := 0) rfl rfl ?_
      refine g_iload_n C (gdec dt_L_law 663 rfl) (i := 3) rfl rfl ?_
      refine g_iconst C (gdec dt_L_law 664 rfl) ic_1 ?_
      refine g_iadd C (gdec dt_L_law 665 rfl) ?_
      obtain ⟨hg152, hf⟩ := gif hf
      refine g_sld0 C hX hb hg152 (gdec dt_L_law 666 rfl) ?_
      refine g_aload_n C (gdec dt_L_law 667 rfl) (i := 0) rfl rfl ?_
      refine g_iload_n C (gdec dt_L_law 668 rfl) (i := 3) rfl rfl ?_
      refine g_iconst C (gdec dt_L_law 669 rfl) ic_2 ?_
      refine g_iadd C (gdec dt_L_law 670 rfl) ?_
      obtain ⟨hg153, hf⟩ := gif hf
      refine g_sld0 C hX hb hg153 (gdec dt_L_law 671 rfl) ?_
      obtain ⟨q154, hq154, hf⟩ := Option.bind_eq_some_iff.mp hf
      refine g_invVs e_shXM_shX_0 [.int (xs (x3 + (1 : Int32)).toNatClampNeg), .int (xs (x3 + (2 : Int32)).toNatClampNeg)] [] C (c_X10_calm l D cA _ (gInj_sub em_e_shXM_shX_0 (gCi C)) (gsub w e_shXM_shX_0) (xs (x3 + (1 : Int32)).toNatClampNeg) (xs (x3 + (2 : Int32)).toNatClampNeg) q154 hq154) em_e_shXM_shX_0 (by decide) rfl kT_X10_calm kl_L_128 kim_X10_calm kse_X10_calm rfl rfl (i := 0) rfl rfl ⟨by decide, by decide⟩ ⟨Nat.le_refl _, Nat.le_refl _⟩ (Nat.le_of_ble_eq_true rfl) (gdec dt_L_law 672 rfl) rfl (st2 := [.int q154.1]) (w2 := (gput w e_shXM_shX_0 q154.2)) rfl rfl ?_
      refine g_aload_n C (gdec dt_L_law 673 rfl) (i := 2) rfl rfl ?_
      refine g_aload_n C (gdec dt_L_law 674 rfl) (i := 0) rfl rfl ?_
      refine g_iload_n C (gdec dt_L_law 675 rfl) (i := 3) rfl rfl ?_
      refine g_iconst C (gdec dt_L_law 676 rfl) ic_1 ?_
      refine g_iadd C (gdec dt_L_law 677 rfl) ?_
      refine g_sld0 C hX hb hg152 (gdec dt_L_law 678 rfl) ?_
      refine g_aload_n C (gdec dt_L_law 679 rfl) (i := 0) rfl rfl ?_
      refine g_iload_n C (gdec dt_L_law 680 rfl) (i := 3) rfl rfl ?_
      refine g_iconst C (gdec dt_L_law 681 rfl) ic_2 ?_
      refine g_iadd C (gdec dt_L_law 682 rfl) ?_
      refine g_sld0 C hX hb hg153 (gdec dt_L_law 683 rfl) ?_
      obtain ⟨q155, hq155, hf⟩ := Option.bind_eq_some_iff.mp hf
      refine g_invVs e_shXM_shM_138 [.int (xs (x3 + (1 : Int32)).toNatClampNeg), .int (xs (x3 + (2 : Int32)).toNatClampNeg)] [.int q154.1] C (c_X11_calm l D cA _ (gInj_sub em_e_shXM_shM_138 (gCi C)) (gsub (gput w e_shXM_shX_0 q154.2) e_shXM_shM_138) (xs (x3 + (1 : Int32)).toNatClampNeg) (xs (x3 + (2 : Int32)).toNatClampNeg) q155 hq155) em_e_shXM_shM_138 (by decide) rfl kT_X11_calm kl_L_131 kim_X11_calm kse_X11_calm rfl rfl (i := 138) rfl rfl ⟨by decide, by decide⟩ ⟨Nat.le_refl _, Nat.le_refl _⟩ (Nat.le_of_ble_eq_true rfl) (gdec dt_L_law 684 rfl) rfl (st2 := [.int q155.1, .int q154.1]) (w2 := (gput (gput w e_shXM_shX_0 q154.2) e_shXM_shM_138 q155.2)) rfl rfl ?_
      refine g_icmp_eq C (tgt := 1910) (gdec dt_L_law 685 rfl) (by decide) (fun hc156 => ?_) (fun hc156 => ?_)
      · have hf := (if_pos hc156).symm.trans hf
        refine g_sub [0, 1, 2, 3] (lo2 := [(0, .ref 6000), (1, .ref 0), (2, .ref 138), (3, .int x3)]) rfl ?_
        exact L_L_law_1910 C hX hb hnew hk18 x3 (gput (gput w e_shXM_shX_0 q154.2) e_shXM_shM_138 q155.2) hf
      · have hf := (if_neg hc156).symm.trans hf
        refine g_iconst C (gdec dt_L_law 686 rfl) ic_0 ?_
        cases hf
    replace hf := (if_neg hc151).symm.trans hf
    by_cases hc157 : ((xs x3.toNatClampNeg) &&& (63 : Int32)) = (27 : Int32)
    · have hf := (if_pos hc157).symm.trans hf
      refine g_tableIn C (tgt := 1110) (off := 1077) (gdec dt_L_law 21 rfl) (by rw [hc157]; decide) (by rw [hc157]; decide) (by rw [hc157]; decide) (by decide) ?_
      refine g_aload_n C (gdec dt_L_law 688 rfl) (i := 1) rfl rfl ?_
      refine g_aload_n C (gdec dt_L_law 689 rfl) (i := 0) rfl rfl ?_
      refine g_iload_n C (gdec dt_L_law 690 rfl) (i := 3) rfl rfl ?_
      refine g_iconst C (gdec dt_L_law 691 rfl) ic_1 ?_
      refine g_iadd C (gdec dt_L_law 692 rfl) ?_
      obtain ⟨hg158, hf⟩ := gif hf
      refine g_sld0 C hX hb hg158 (gdec dt_L_law 693 rfl) ?_
      refine g_aload_n C (gdec dt_L_law 694 rfl) (i := 0) rfl rfl ?_
      refine g_iload_n C (gdec dt_L_law 695 rfl) (i := 3) rfl rfl ?_
      refine g_iconst C (gdec dt_L_law 696 rfl) ic_2 ?_
      refine g_iadd C (gdec dt_L_law 697 rfl) ?_
      obtain ⟨hg159, hf⟩ := gif hf
      refine g_sld0 C hX hb hg159 (gdec dt_L_law 698 rfl) ?_
      obtain ⟨q160, hq160, hf⟩ := Option.bind_eq_some_iff.mp hf
      refine g_invVs e_shXM_shX_0 [.int (xs (x3 + (1 : Int32)).toNatClampNeg), .int (xs (x3 + (2 : Int32)).toNatClampNeg)] [] C (c_X10_rule l D cA _ (gInj_sub em_e_shXM_shX_0 (gCi C)) (gsub w e_shXM_shX_0) (xs (x3 + (1 : Int32)).toNatClampNeg) (xs (x3 + (2 : Int32)).toNatClampNeg) q160 hq160) em_e_shXM_shX_0 (by decide) rfl kT_X10_rule kl_L_132 kim_X10_rule kse_X10_rule rfl rfl (i := 0) rfl rfl ⟨by decide, by decide⟩ ⟨Nat.le_refl _, Nat.le_refl _⟩ (Nat.le_of_ble_eq_true rfl) (gdec dt_L_law 699 rfl) rfl (st2 := [.int q160.1]) (w2 := (gput w e_shXM_shX_0 q160.2)) rfl rfl ?_
      refine g_aload_n C (gdec dt_L_law 700 rfl) (i := 2) rfl rfl ?_
      refine g_aload_n C (gdec dt_L_law 701 rfl) (i := 0) rfl rfl ?_
      refine g_iload_n C (gdec dt_L_law 702 rfl) (i := 3) rfl rfl ?_
      refine g_iconst C (gdec dt_L_law 703 rfl) ic_1 ?_
      refine g_iadd C (gdec dt_L_law 704 rfl) ?_
      refine g_sld0 C hX hb hg158 (gdec dt_L_law 705 rfl) ?_
      refine g_aload_n C (gdec dt_L_law 706 rfl) (i := 0) rfl rfl ?_
      refine g_iload_n C (gdec dt_L_law 707 rfl) (i := 3) rfl rfl ?_
      refine g_iconst C (gdec dt_L_law 708 rfl) ic_2 ?_
      refine g_iadd C (gdec dt_L_law 709 rfl) ?_
      refine g_sld0 C hX hb hg159 (gdec dt_L_law 710 rfl) ?_
      obtain ⟨q161, hq161, hf⟩ := Option.bind_eq_some_iff.mp hf
      refine g_invVs e_shXM_shM_138 [.int (xs (x3 + (1 : Int32)).toNatClampNeg), .int (xs (x3 + (2 : Int32)).toNatClampNeg)] [.int q160.1] C (c_X11_rule l D cA _ (gInj_sub em_e_shXM_shM_138 (gCi C)) (gsub (gput w e_shXM_shX_0 q160.2) e_shXM_shM_138) (xs (x3 + (1 : Int32)).toNatClampNeg) (xs (x3 + (2 : Int32)).toNatClampNeg) q161 hq161) em_e_shXM_shM_138 (by decide) rfl kT_X11_rule kl_L_136 kim_X11_rule kse_X11_rule rfl rfl (i := 138) rfl rfl ⟨by decide, by decide⟩ ⟨Nat.le_refl _, Nat.le_refl _⟩ (Nat.le_of_ble_eq_true rfl) (gdec dt_L_law 711 rfl) rfl (st2 := [.int q161.1, .int q160.1]) (w2 := (gput (gput w e_shXM_shX_0 q160.2) e_shXM_shM_138 q161.2)) rfl rfl ?_
      refine g_icmp_eq C (tgt := 1910) (gdec dt_L_law 712 rfl) (by decide) (fun hc162 => ?_) (fun hc162 => ?_)
      · have hf := (if_pos hc162).symm.trans hf
        refine g_sub [0, 1, 2, 3] (lo2 := [(0, .ref 6000), (1, .ref 0), (2, .ref 138), (3, .int x3)]) rfl ?_
        exact L_L_law_1910 C hX hb hnew hk18 x3 (gput (gput w e_shXM_shX_0 q160.2) e_shXM_shM_138 q161.2) hf
      · have hf := (if_neg hc162).symm.trans hf
        refine g_iconst C (gdec dt_L_law 713 rfl) ic_0 ?_
        cases hf
    replace hf := (if_neg hc157).symm.trans hf
    by_cases hc163 : ((xs x3.toNatClampNeg) &&& (63 : Int32)) = (28 : Int32)
    · have hf := (if_pos hc163).symm.trans hf
      refine g_tableIn C (tgt := 1143) (off := 1110) (gdec dt_L_law 21 rfl) (by rw [hc163]; decide) (by rw [hc163]; decide) (by rw [hc163]; decide) (by decide) ?_
      refine g_aload_n C (gdec dt_L_law 715 rfl) (i := 1) rfl rfl ?_
      refine g_aload_n C (gdec dt_L_law 716 rfl) (i := 0) rfl rfl ?_
      refine g_iload_n C (gdec dt_L_law 717 rfl) (i := 3) rfl rfl ?_
      refine g_iconst C (gdec dt_L_law 718 rfl) ic_1 ?_
      refine g_iadd C (gdec dt_L_law 719 rfl) ?_
      obtain ⟨hg164, hf⟩ := gif hf
      refine g_sld0 C hX hb hg164 (gdec dt_L_law 720 rfl) ?_
      refine g_aload_n C (gdec dt_L_law 721 rfl) (i := 0) rfl rfl ?_
      refine g_iload_n C (gdec dt_L_law 722 rfl) (i := 3) rfl rfl ?_
      refine g_iconst C (gdec dt_L_law 723 rfl) ic_2 ?_
      refine g_iadd C (gdec dt_L_law 724 rfl) ?_
      obtain ⟨hg165, hf⟩ := gif hf
      refine g_sld0 C hX hb hg165 (gdec dt_L_law 725 rfl) ?_
      obtain ⟨q166, hq166, hf⟩ := Option.bind_eq_some_iff.mp hf
      refine g_invVs e_shXM_shX_0 [.int (xs (x3 + (1 : Int32)).toNatClampNeg), .int (xs (x3 + (2 : Int32)).toNatClampNeg)] [] C (c_X10_greyIn l D cA _ (gInj_sub em_e_shXM_shX_0 (gCi C)) (gsub w e_shXM_shX_0) (xs (x3 + (1 : Int32)).toNatClampNeg) (xs (x3 + (2 : Int32)).toNatClampNeg) q166 hq166) em_e_shXM_shX_0 (by decide) rfl kT_X10_greyIn kl_L_137 kim_X10_greyIn kse_X10_greyIn rfl rfl (i := 0) rfl rfl ⟨by decide, by decide⟩ ⟨Nat.le_refl _, Nat.le_refl _⟩ (Nat.le_of_ble_eq_true rfl) (gdec dt_L_law 726 rfl) rfl (st2 := [.int q166.1]) (w2 := (gput w e_shXM_shX_0 q166.2)) rfl rfl ?_
      refine g_aload_n C (gdec dt_L_law 727 rfl) (i := 2) rfl rfl ?_
      refine g_aload_n C (gdec dt_L_law 728 rfl) (i := 0) rfl rfl ?_
      refine g_iload_n C (gdec dt_L_law 729 rfl) (i := 3) rfl rfl ?_
      refine g_iconst C (gdec dt_L_law 730 rfl) ic_1 ?_
      refine g_iadd C (gdec dt_L_law 731 rfl) ?_
      refine g_sld0 C hX hb hg164 (gdec dt_L_law 732 rfl) ?_
      refine g_aload_n C (gdec dt_L_law 733 rfl) (i := 0) rfl rfl ?_
      refine g_iload_n C (gdec dt_L_law 734 rfl) (i := 3) rfl rfl ?_
      refine g_iconst C (gdec dt_L_law 735 rfl) ic_2 ?_
      refine g_iadd C (gdec dt_L_law 736 rfl) ?_
      refine g_sld0 C hX hb hg165 (gdec dt_L_law 737 rfl) ?_
      obtain ⟨q167, hq167, hf⟩ := Option.bind_eq_some_iff.mp hf
      refine g_invVs e_shXM_shM_138 [.int (xs (x3 + (1 : Int32)).toNatClampNeg), .int (xs (x3 + (2 : Int32)).toNatClampNeg)] [.int q166.1] C (c_X11_greyIn l D cA _ (gInj_sub em_e_shXM_shM_138 (gCi C)) (gsub (gput w e_shXM_shX_0 q166.2) e_shXM_shM_138) (xs (x3 + (1 : Int32)).toNatClampNeg) (xs (x3 + (2 : Int32)).toNatClampNeg) q167 hq167) em_e_shXM_shM_138 (by decide) rfl kT_X11_greyIn kl_L_140 kim_X11_greyIn kse_X11_greyIn rfl rfl (i := 138) rfl rfl ⟨by decide, by decide⟩ ⟨Nat.le_refl _, Nat.le_refl _⟩ (Nat.le_of_ble_eq_true rfl) (gdec dt_L_law 738 rfl) rfl (st2 := [.int q167.1, .int q166.1]) (w2 := (gput (gput w e_shXM_shX_0 q166.2) e_shXM_shM_138 q167.2)) rfl rfl ?_
      refine g_icmp_eq C (tgt := 1910) (gdec dt_L_law 739 rfl) (by decide) (fun hc168 => ?_) (fun hc168 => ?_)
      · have hf := (if_pos hc168).symm.trans hf
        refine g_sub [0, 1, 2, 3] (lo2 := [(0, .ref 6000), (1, .ref 0), (2, .ref 138), (3, .int x3)]) rfl ?_
        exact L_L_law_1910 C hX hb hnew hk18 x3 (gput (gput w e_shXM_shX_0 q166.2) e_shXM_shM_138 q167.2) hf
      · have hf := (if_neg hc168).symm.trans hf
        refine g_iconst C (gdec dt_L_law 740 rfl) ic_0 ?_
        cases hf
    replace hf := (if_neg hc163).symm.trans hf
    by_cases hc169 : ((xs x3.toNatClampNeg) &&& (63 : Int32)) = (29 : Int32)
    · have hf := (if_pos hc169).symm.trans hf
      refine g_tableIn C (tgt := 1176) (off := 1143) (gdec dt_L_law 21 rfl) (by rw [hc169]; decide) (by rw [hc169]; decide) (by rw [hc169]; decide) (by decide) ?_
      refine g_aload_n C (gdec dt_L_law 742 rfl) (i := 1) rfl rfl ?_
      refine g_aload_n C (gdec dt_L_law 743 rfl) (i := 0) rfl rfl ?_
      refine g_iload_n C (gdec dt_L_law 744 rfl) (i := 3) rfl rfl ?_
      refine g_iconst C (gdec dt_L_law 745 rfl) ic_1 ?_
      refine g_iadd C (gdec dt_L_law 746 rfl) ?_
      obtain ⟨hg170, hf⟩ := gif hf
      refine g_sld0 C hX hb hg170 (gdec dt_L_law 747 rfl) ?_
      refine g_aload_n C (gdec dt_L_law 748 rfl) (i := 0) rfl rfl ?_
      refine g_iload_n C (gdec dt_L_law 749 rfl) (i := 3) rfl rfl ?_
      refine g_iconst C (gdec dt_L_law 750 rfl) ic_2 ?_
      refine g_iadd C (gdec dt_L_law 751 rfl) ?_
      obtain ⟨hg171, hf⟩ := gif hf
      refine g_sld0 C hX hb hg171 (gdec dt_L_law 752 rfl) ?_
      obtain ⟨q172, hq172, hf⟩ := Option.bind_eq_some_iff.mp hf
      refine g_invVs e_shXM_shX_0 [.int (xs (x3 + (1 : Int32)).toNatClampNeg), .int (xs (x3 + (2 : Int32)).toNatClampNeg)] [] C (c_X10_rankIn l D cA _ (gInj_sub em_e_shXM_shX_0 (gCi C)) (gsub w e_shXM_shX_0) (xs (x3 + (1 : Int32)).toNatClampNeg) (xs (x3 + (2 : Int32)).toNatClampNeg) q172 hq172) em_e_shXM_shX_0 (by decide) rfl kT_X10_rankIn kl_L_141 kim_X10_rankIn kse_X10_rankIn rfl rfl (i := 0) rfl rfl ⟨by decide, by decide⟩ ⟨Nat.le_refl _, Nat.le_refl _⟩ (Nat.le_of_ble_eq_true rfl) (gdec dt_L_law 753 rfl) rfl (st2 := [.int q172.1]) (w2 := (gput w e_shXM_shX_0 q172.2)) rfl rfl ?_
      refine g_aload_n C (gdec dt_L_law 754 rfl) (i := 2) rfl rfl ?_
      refine g_aload_n C (gdec dt_L_law 755 rfl) (i := 0) rfl rfl ?_
      refine g_iload_n C (gdec dt_L_law 756 rfl) (i := 3) rfl rfl ?_
      refine g_iconst C (gdec dt_L_law 757 rfl) ic_1 ?_
      refine g_iadd C (gdec dt_L_law 758 rfl) ?_
      refine g_sld0 C hX hb hg170 (gdec dt_L_law 759 rfl) ?_
      refine g_aload_n C (gdec dt_L_law 760 rfl) (i := 0) rfl rfl ?_
      refine g_iload_n C (gdec dt_L_law 761 rfl) (i := 3) rfl rfl ?_
      refine g_iconst C (gdec dt_L_law 762 rfl) ic_2 ?_
      refine g_iadd C (gdec dt_L_law 763 rfl) ?_
      refine g_sld0 C hX hb hg171 (gdec dt_L_law 764 rfl) ?_
      obtain ⟨q173, hq173, hf⟩ := Option.bind_eq_some_iff.mp hf
      refine g_invVs e_shXM_shM_138 [.int (xs (x3 + (1 : Int32)).toNatClampNeg), .int (xs (x3 + (2 : Int32)).toNatClampNeg)] [.int q172.1] C (c_X11_rankIn l D cA _ (gInj_sub em_e_shXM_shM_138 (gCi C)) (gsub (gput w e_shXM_shX_0 q172.2) e_shXM_shM_138) (xs (x3 + (1 : Int32)).toNatClampNeg) (xs (x3 + (2 : Int32)).toNatClampNeg) q173 hq173) em_e_shXM_shM_138 (by decide) rfl kT_X11_rankIn kl_L_144 kim_X11_rankIn kse_X11_rankIn rfl rfl (i := 138) rfl rfl ⟨by decide, by decide⟩ ⟨Nat.le_refl _, Nat.le_refl _⟩ (Nat.le_of_ble_eq_true rfl) (gdec dt_L_law 765 rfl) rfl (st2 := [.int q173.1, .int q172.1]) (w2 := (gput (gput w e_shXM_shX_0 q172.2) e_shXM_shM_138 q173.2)) rfl rfl ?_
      refine g_icmp_eq C (tgt := 1910) (gdec dt_L_law 766 rfl) (by decide) (fun hc174 => ?_) (fun hc174 => ?_)
      · have hf := (if_pos hc174).symm.trans hf
        refine g_sub [0, 1, 2, 3] (lo2 := [(0, .ref 6000), (1, .ref 0), (2, .ref 138), (3, .int x3)]) rfl ?_
        exact L_L_law_1910 C hX hb hnew hk18 x3 (gput (gput w e_shXM_shX_0 q172.2) e_shXM_shM_138 q173.2) hf
      · have hf := (if_neg hc174).symm.trans hf
        refine g_iconst C (gdec dt_L_law 767 rfl) ic_0 ?_
        cases hf
    replace hf := (if_neg hc169).symm.trans hf
    by_cases hc175 : ((xs x3.toNatClampNeg) &&& (63 : Int32)) = (30 : Int32)
    · have hf := (if_pos hc175).symm.trans hf
      refine g_tableIn C (tgt := 1209) (off := 1176) (gdec dt_L_law 21 rfl) (by rw [hc175]; decide) (by rw [hc175]; decide) (by rw [hc175]; decide) (by decide) ?_
      refine g_aload_n C (gdec dt_L_law 769 rfl) (i := 1) rfl rfl ?_
      obtain ⟨q176, hq176, hf⟩ := Option.bind_eq_some_iff.mp hf
      refine g_invVs e_shXM_shX_0 [] [] C (c_X10_unpaidIn l D cA _ (gInj_sub em_e_shXM_shX_0 (gCi C)) (gsub w e_shXM_shX_0)  q176 hq176) em_e_shXM_shX_0 (by decide) rfl kT_X10_unpaidIn kl_L_145 kim_X10_unpaidIn kse_X10_unpaidIn rfl rfl (i := 0) rfl rfl ⟨by decide, by decide⟩ ⟨Nat.le_refl _, Nat.le_refl _⟩ (Nat.le_of_ble_eq_true rfl) (gdec dt_L_law 770 rfl) rfl (st2 := [.int q176.1]) (w2 := (gput w e_shXM_shX_0 q176.2)) rfl rfl ?_
      refine g_aload_n C (gdec dt_L_law 771 rfl) (i := 2) rfl rfl ?_
      obtain ⟨q177, hq177, hf⟩ := Option.bind_eq_some_iff.mp hf
      refine g_invVs e_shXM_shM_138 [] [.int q176.1] C (c_X11_unpaidIn l D cA _ (gInj_sub em_e_shXM_shM_138 (gCi C)) (gsub (gput w e_shXM_shX_0 q176.2) e_shXM_shM_138)  q177 hq177) em_e_shXM_shM_138 (by decide) rfl kT_X11_unpaidIn kl_L_148 kim_X11_unpaidIn kse_X11_unpaidIn rfl rfl (i := 138) rfl rfl ⟨by decide, by decide⟩ ⟨Nat.le_refl _, Nat.le_refl _⟩ (Nat.le_of_ble_eq_true rfl) (gdec dt_L_law 772 rfl) rfl (st2 := [.int q177.1, .int q176.1]) (w2 := (gput (gput w e_shXM_shX_0 q176.2) e_shXM_shM_138 q177.2)) rfl rfl ?_
      refine g_icmp_eq C (tgt := 1910) (gdec dt_L_law 773 rfl) (by decide) (fun hc178 => ?_) (fun hc178 => ?_)
      · have hf := (if_pos hc178).symm.trans hf
        refine g_sub [0, 1, 2, 3] (lo2 := [(0, .ref 6000), (1, .ref 0), (2, .ref 138), (3, .int x3)]) rfl ?_
        exact L_L_law_1910 C hX hb hnew hk18 x3 (gput (gput w e_shXM_shX_0 q176.2) e_shXM_shM_138 q177.2) hf
      · have hf := (if_neg hc178).symm.trans hf
        refine g_iconst C (gdec dt_L_law 774 rfl) ic_0 ?_
        cases hf
    replace hf := (if_neg hc175).symm.trans hf
    by_cases hc179 : ((xs x3.toNatClampNeg) &&& (63 : Int32)) = (31 : Int32)
    · have hf := (if_pos hc179).symm.trans hf
      refine g_tableIn C (tgt := 1222) (off := 1189) (gdec dt_L_law 21 rfl) (by rw [hc179]; decide) (by rw [hc179]; decide) (by rw [hc179]; decide) (by decide) ?_
      refine g_aload_n C (gdec dt_L_law 776 rfl) (i := 1) rfl rfl ?_
      refine g_aload_n C (gdec dt_L_law 777 rfl) (i := 0) rfl rfl ?_
      refine g_iload_n C (gdec dt_L_law 778 rfl) (i := 3) rfl rfl ?_
      refine g_iconst C (gdec dt_L_law 779 rfl) ic_1 ?_
      refine g_iadd C (gdec dt_L_law 780 rfl) ?_
      obtain ⟨hg180, hf⟩ := gif hf
      refine g_sld0 C hX hb hg180 (gdec dt_L_law 781 rfl) ?_
      obtain ⟨q181, hq181, hf⟩ := Option.bind_eq_some_iff.mp hf
      refine g_invVs e_shXM_shX_0 [.int (xs (x3 + (1 : Int32)).toNatClampNeg)] [] C (c_X10_cashIn l D cA _ (gInj_sub em_e_shXM_shX_0 (gCi C)) (gsub w e_shXM_shX_0) (xs (x3 + (1 : Int32)).toNatClampNeg) q181 hq181) em_e_shXM_shX_0 (by decide) rfl kT_X10_cashIn kl_L_149 kim_X10_cashIn kse_X10_cashIn rfl rfl (i := 0) rfl rfl ⟨by decide, by decide⟩ ⟨Nat.le_refl _, Nat.le_refl _⟩ (Nat.le_of_ble_eq_true rfl) (gdec dt_L_law 782 rfl) rfl (st2 := [.int q181.1]) (w2 := (gput w e_shXM_shX_0 q181.2)) rfl rfl ?_
      refine g_aload_n C (gdec dt_L_law 783 rfl) (i := 2) rfl rfl ?_
      refine g_aload_n C (gdec dt_L_law 784 rfl) (i := 0) rfl rfl ?_
      refine g_iload_n C (gdec dt_L_law 785 rfl) (i := 3) rfl rfl ?_
      refine g_iconst C (gdec dt_L_law 786 rfl) ic_1 ?_
      refine g_iadd C (gdec dt_L_law 787 rfl) ?_
      refine g_sld0 C hX hb hg180 (gdec dt_L_law 788 rfl) ?_
      obtain ⟨q182, hq182, hf⟩ := Option.bind_eq_some_iff.mp hf
      refine g_invVs e_shXM_shM_138 [.int (xs (x3 + (1 : Int32)).toNatClampNeg)] [.int q181.1] C (c_X11_cashIn l D cA _ (gInj_sub em_e_shXM_shM_138 (gCi C)) (gsub (gput w e_shXM_shX_0 q181.2) e_shXM_shM_138) (xs (x3 + (1 : Int32)).toNatClampNeg) q182 hq182) em_e_shXM_shM_138 (by decide) rfl kT_X11_cashIn kl_L_152 kim_X11_cashIn kse_X11_cashIn rfl rfl (i := 138) rfl rfl ⟨by decide, by decide⟩ ⟨Nat.le_refl _, Nat.le_refl _⟩ (Nat.le_of_ble_eq_true rfl) (gdec dt_L_law 789 rfl) rfl (st2 := [.int q182.1, .int q181.1]) (w2 := (gput (gput w e_shXM_shX_0 q181.2) e_shXM_shM_138 q182.2)) rfl rfl ?_
      refine g_icmp_eq C (tgt := 1910) (gdec dt_L_law 790 rfl) (by decide) (fun hc183 => ?_) (fun hc183 => ?_)
      · have hf := (if_pos hc183).symm.trans hf
        refine g_sub [0, 1, 2, 3] (lo2 := [(0, .ref 6000), (1, .ref 0), (2, .ref 138), (3, .int x3)]) rfl ?_
        exact L_L_law_1910 C hX hb hnew hk18 x3 (gput (gput w e_shXM_shX_0 q181.2) e_shXM_shM_138 q182.2) hf
      · have hf := (if_neg hc183).symm.trans hf
        refine g_iconst C (gdec dt_L_law 791 rfl) ic_0 ?_
        cases hf
    replace hf := (if_neg hc179).symm.trans hf
    by_cases hc184 : ((xs x3.toNatClampNeg) &&& (63 : Int32)) = (32 : Int32)
    · have hf := (if_pos hc184).symm.trans hf
      refine g_tableIn C (tgt := 1245) (off := 1212) (gdec dt_L_law 21 rfl) (by rw [hc184]; decide) (by rw [hc184]; decide) (by rw [hc184]; decide) (by decide) ?_
      refine g_aload_n C (gdec dt_L_law 793 rfl) (i := 1) rfl rfl ?_
      refine g_aload_n C (gdec dt_L_law 794 rfl) (i := 0) rfl rfl ?_
      refine g_iload_n C (gdec dt_L_law 795 rfl) (i := 3) rfl rfl ?_
      refine g_iconst C (gdec dt_L_law 796 rfl) ic_1 ?_
      refine g_iadd C (gdec dt_L_law 797 rfl) ?_
      obtain ⟨hg185, hf⟩ := gif hf
      refine g_sld0 C hX hb hg185 (gdec dt_L_law 798 rfl) ?_
      obtain ⟨q186, hq186, hf⟩ := Option.bind_eq_some_iff.mp hf
      refine g_invVs e_shXM_shX_0 [.int (xs (x3 + (1 : Int32)).toNatClampNeg)] [] C (c_X10_seating l D cA _ (gInj_sub em_e_shXM_shX_0 (gCi C)) (gsub w e_shXM_shX_0) (xs (x3 + (1 : Int32)).toNatClampNeg) q186 hq186) em_e_shXM_shX_0 (by decide) rfl kT_X10_seating kl_L_153 kim_X10_seating kse_X10_seating rfl rfl (i := 0) rfl rfl ⟨by decide, by decide⟩ ⟨Nat.le_refl _, Nat.le_refl _⟩ (Nat.le_of_ble_eq_true rfl) (gdec dt_L_law 799 rfl) rfl (st2 := [.int q186.1]) (w2 := (gput w e_shXM_shX_0 q186.2)) rfl rfl ?_
      refine g_aload_n C (gdec dt_L_law 800 rfl) (i := 2) rfl rfl ?_
      refine g_aload_n C (gdec dt_L_law 801 rfl) (i := 0) rfl rfl ?_
      refine g_iload_n C (gdec dt_L_law 802 rfl) (i := 3) rfl rfl ?_
      refine g_iconst C (gdec dt_L_law 803 rfl) ic_1 ?_
      refine g_iadd C (gdec dt_L_law 804 rfl) ?_
      refine g_sld0 C hX hb hg185 (gdec dt_L_law 805 rfl) ?_
      obtain ⟨q187, hq187, hf⟩ := Option.bind_eq_some_iff.mp hf
      refine g_invVs e_shXM_shM_138 [.int (xs (x3 + (1 : Int32)).toNatClampNeg)] [.int q186.1] C (c_X11_seating l D cA _ (gInj_sub em_e_shXM_shM_138 (gCi C)) (gsub (gput w e_shXM_shX_0 q186.2) e_shXM_shM_138) (xs (x3 + (1 : Int32)).toNatClampNeg) q187 hq187) em_e_shXM_shM_138 (by decide) rfl kT_X11_seating kl_L_156 kim_X11_seating kse_X11_seating rfl rfl (i := 138) rfl rfl ⟨by decide, by decide⟩ ⟨Nat.le_refl _, Nat.le_refl _⟩ (Nat.le_of_ble_eq_true rfl) (gdec dt_L_law 806 rfl) rfl (st2 := [.int q187.1, .int q186.1]) (w2 := (gput (gput w e_shXM_shX_0 q186.2) e_shXM_shM_138 q187.2)) rfl rfl ?_
      refine g_icmp_eq C (tgt := 1910) (gdec dt_L_law 807 rfl) (by decide) (fun hc188 => ?_) (fun hc188 => ?_)
      · have hf := (if_pos hc188).symm.trans hf
        refine g_sub [0, 1, 2, 3] (lo2 := [(0, .ref 6000), (1, .ref 0), (2, .ref 138), (3, .int x3)]) rfl ?_
        exact L_L_law_1910 C hX hb hnew hk18 x3 (gput (gput w e_shXM_shX_0 q186.2) e_shXM_shM_138 q187.2) hf
      · have hf := (if_neg hc188).symm.trans hf
        refine g_iconst C (gdec dt_L_law 808 rfl) ic_0 ?_
        cases hf
    replace hf := (if_neg hc184).symm.trans hf
    by_cases hc189 : ((xs x3.toNatClampNeg) &&& (63 : Int32)) = (33 : Int32)
    · have hf := (if_pos hc189).symm.trans hf
      refine g_tableIn C (tgt := 1268) (off := 1235) (gdec dt_L_law 21 rfl) (by rw [hc189]; decide) (by rw [hc189]; decide) (by rw [hc189]; decide) (by decide) ?_
      refine g_aload_n C (gdec dt_L_law 810 rfl) (i := 1) rfl rfl ?_
      refine g_aload_n C (gdec dt_L_law 811 rfl) (i := 0) rfl rfl ?_
      refine g_iload_n C (gdec dt_L_law 812 rfl) (i := 3) rfl rfl ?_
      refine g_iconst C (gdec dt_L_law 813 rfl) ic_1 ?_
      refine g_iadd C (gdec dt_L_law 814 rfl) ?_
      obtain ⟨hg190, hf⟩ := gif hf
      refine g_sld0 C hX hb hg190 (gdec dt_L_law 815 rfl) ?_
      refine g_aload_n C (gdec dt_L_law 816 rfl) (i := 0) rfl rfl ?_
      refine g_iload_n C (gdec dt_L_law 817 rfl) (i := 3) rfl rfl ?_
      refine g_iconst C (gdec dt_L_law 818 rfl) ic_2 ?_
      refine g_iadd C (gdec dt_L_law 819 rfl) ?_
      obtain ⟨hg191, hf⟩ := gif hf
      refine g_sld0 C hX hb hg191 (gdec dt_L_law 820 rfl) ?_
      obtain ⟨q192, hq192, hf⟩ := Option.bind_eq_some_iff.mp hf
      refine g_invVs e_shXM_shX_0 [.int (xs (x3 + (1 : Int32)).toNatClampNeg), .int (xs (x3 + (2 : Int32)).toNatClampNeg)] [] C (c_X10_seatOf l D cA _ (gInj_sub em_e_shXM_shX_0 (gCi C)) (gsub w e_shXM_shX_0) (xs (x3 + (1 : Int32)).toNatClampNeg) (xs (x3 + (2 : Int32)).toNatClampNeg) q192 hq192) em_e_shXM_shX_0 (by decide) rfl kT_X10_seatOf kl_L_157 kim_X10_seatOf kse_X10_seatOf rfl rfl (i := 0) rfl rfl ⟨by decide, by decide⟩ ⟨Nat.le_refl _, Nat.le_refl _⟩ (Nat.le_of_ble_eq_true rfl) (gdec dt_L_law 821 rfl) rfl (st2 := [.int q192.1]) (w2 := (gput w e_shXM_shX_0 q192.2)) rfl rfl ?_
      refine g_aload_n C (gdec dt_L_law 822 rfl) (i := 2) rfl rfl ?_
      refine g_aload_n C (gdec dt_L_law 823 rfl) (i := 0) rfl rfl ?_
      refine g_iload_n C (gdec dt_L_law 824 rfl) (i := 3) rfl rfl ?_
      refine g_iconst C (gdec dt_L_law 825 rfl) ic_1 ?_
      refine g_iadd C (gdec dt_L_law 826 rfl) ?_
      refine g_sld0 C hX hb hg190 (gdec dt_L_law 827 rfl) ?_
      refine g_aload_n C (gdec dt_L_law 828 rfl) (i := 0) rfl rfl ?_
      refine g_iload_n C (gdec dt_L_law 829 rfl) (i := 3) rfl rfl ?_
      refine g_iconst C (gdec dt_L_law 830 rfl) ic_2 ?_
      refine g_iadd C (gdec dt_L_law 831 rfl) ?_
      refine g_sld0 C hX hb hg191 (gdec dt_L_law 832 rfl) ?_
      obtain ⟨q193, hq193, hf⟩ := Option.bind_eq_some_iff.mp hf
      refine g_invVs e_shXM_shM_138 [.int (xs (x3 + (1 : Int32)).toNatClampNeg), .int (xs (x3 + (2 : Int32)).toNatClampNeg)] [.int q192.1] C (c_X11_seatOf l D cA _ (gInj_sub em_e_shXM_shM_138 (gCi C)) (gsub (gput w e_shXM_shX_0 q192.2) e_shXM_shM_138) (xs (x3 + (1 : Int32)).toNatClampNeg) (xs (x3 + (2 : Int32)).toNatClampNeg) q193 hq193) em_e_shXM_shM_138 (by decide) rfl kT_X11_seatOf kl_L_160 kim_X11_seatOf kse_X11_seatOf rfl rfl (i := 138) rfl rfl ⟨by decide, by decide⟩ ⟨Nat.le_refl _, Nat.le_refl _⟩ (Nat.le_of_ble_eq_true rfl) (gdec dt_L_law 833 rfl) rfl (st2 := [.int q193.1, .int q192.1]) (w2 := (gput (gput w e_shXM_shX_0 q192.2) e_shXM_shM_138 q193.2)) rfl rfl ?_
      refine g_icmp_eq C (tgt := 1910) (gdec dt_L_law 834 rfl) (by decide) (fun hc194 => ?_) (fun hc194 => ?_)
      · have hf := (if_pos hc194).symm.trans hf
        refine g_sub [0, 1, 2, 3] (lo2 := [(0, .ref 6000), (1, .ref 0), (2, .ref 138), (3, .int x3)]) rfl ?_
        exact L_L_law_1910 C hX hb hnew hk18 x3 (gput (gput w e_shXM_shX_0 q192.2) e_shXM_shM_138 q193.2) hf
      · have hf := (if_neg hc194).symm.trans hf
        refine g_iconst C (gdec dt_L_law 835 rfl) ic_0 ?_
        cases hf
    replace hf := (if_neg hc189).symm.trans hf
    by_cases hc195 : ((xs x3.toNatClampNeg) &&& (63 : Int32)) = (34 : Int32)
    · have hf := (if_pos hc195).symm.trans hf
      refine g_tableIn C (tgt := 1301) (off := 1268) (gdec dt_L_law 21 rfl) (by rw [hc195]; decide) (by rw [hc195]; decide) (by rw [hc195]; decide) (by decide) ?_
      refine g_aload_n C (gdec dt_L_law 837 rfl) (i := 1) rfl rfl ?_
      refine g_aload_n C (gdec dt_L_law 838 rfl) (i := 0) rfl rfl ?_
      refine g_iload_n C (gdec dt_L_law 839 rfl) (i := 3) rfl rfl ?_
      refine g_iconst C (gdec dt_L_law 840 rfl) ic_1 ?_
      refine g_iadd C (gdec dt_L_law 841 rfl) ?_
      obtain ⟨hg196, hf⟩ := gif hf
      refine g_sld0 C hX hb hg196 (gdec dt_L_law 842 rfl) ?_
      obtain ⟨q197, hq197, hf⟩ := Option.bind_eq_some_iff.mp hf
      refine g_invVs e_shXM_shX_0 [.int (xs (x3 + (1 : Int32)).toNatClampNeg)] [] C (c_X10_liked l D cA _ (gInj_sub em_e_shXM_shX_0 (gCi C)) (gsub w e_shXM_shX_0) (xs (x3 + (1 : Int32)).toNatClampNeg) q197 hq197) em_e_shXM_shX_0 (by decide) rfl kT_X10_liked kl_L_161 kim_X10_liked kse_X10_liked rfl rfl (i := 0) rfl rfl ⟨by decide, by decide⟩ ⟨Nat.le_refl _, Nat.le_refl _⟩ (Nat.le_of_ble_eq_true rfl) (gdec dt_L_law 843 rfl) rfl (st2 := [.int q197.1]) (w2 := (gput w e_shXM_shX_0 q197.2)) rfl rfl ?_
      refine g_aload_n C (gdec dt_L_law 844 rfl) (i := 2) rfl rfl ?_
      refine g_aload_n C (gdec dt_L_law 845 rfl) (i := 0) rfl rfl ?_
      refine g_iload_n C (gdec dt_L_law 846 rfl) (i := 3) rfl rfl ?_
      refine g_iconst C (gdec dt_L_law 847 rfl) ic_1 ?_
      refine g_iadd C (gdec dt_L_law 848 rfl) ?_
      refine g_sld0 C hX hb hg196 (gdec dt_L_law 849 rfl) ?_
      obtain ⟨q198, hq198, hf⟩ := Option.bind_eq_some_iff.mp hf
      refine g_invVs e_shXM_shM_138 [.int (xs (x3 + (1 : Int32)).toNatClampNeg)] [.int q197.1] C (c_X11_liked l D cA _ (gInj_sub em_e_shXM_shM_138 (gCi C)) (gsub (gput w e_shXM_shX_0 q197.2) e_shXM_shM_138) (xs (x3 + (1 : Int32)).toNatClampNeg) q198 hq198) em_e_shXM_shM_138 (by decide) rfl kT_X11_liked kl_L_164 kim_X11_liked kse_X11_liked rfl rfl (i := 138) rfl rfl ⟨by decide, by decide⟩ ⟨Nat.le_refl _, Nat.le_refl _⟩ (Nat.le_of_ble_eq_true rfl) (gdec dt_L_law 850 rfl) rfl (st2 := [.int q198.1, .int q197.1]) (w2 := (gput (gput w e_shXM_shX_0 q197.2) e_shXM_shM_138 q198.2)) rfl rfl ?_
      refine g_icmp_eq C (tgt := 1910) (gdec dt_L_law 851 rfl) (by decide) (fun hc199 => ?_) (fun hc199 => ?_)
      · have hf := (if_pos hc199).symm.trans hf
        refine g_sub [0, 1, 2, 3] (lo2 := [(0, .ref 6000), (1, .ref 0), (2, .ref 138), (3, .int x3)]) rfl ?_
        exact L_L_law_1910 C hX hb hnew hk18 x3 (gput (gput w e_shXM_shX_0 q197.2) e_shXM_shM_138 q198.2) hf
      · have hf := (if_neg hc199).symm.trans hf
        refine g_iconst C (gdec dt_L_law 852 rfl) ic_0 ?_
        cases hf
    replace hf := (if_neg hc195).symm.trans hf
    by_cases hc200 : ((xs x3.toNatClampNeg) &&& (63 : Int32)) = (35 : Int32)
    · have hf := (if_pos hc200).symm.trans hf
      refine g_tableIn C (tgt := 1324) (off := 1291) (gdec dt_L_law 21 rfl) (by rw [hc200]; decide) (by rw [hc200]; decide) (by rw [hc200]; decide) (by decide) ?_
      refine g_aload_n C (gdec dt_L_law 854 rfl) (i := 1) rfl rfl ?_
      refine g_aload_n C (gdec dt_L_law 855 rfl) (i := 0) rfl rfl ?_
      refine g_iload_n C (gdec dt_L_law 856 rfl) (i := 3) rfl rfl ?_
      refine g_iconst C (gdec dt_L_law 857 rfl) ic_1 ?_
      refine g_iadd C (gdec dt_L_law 858 rfl) ?_
      obtain ⟨hg201, hf⟩ := gif hf
      refine g_sld0 C hX hb hg201 (gdec dt_L_law 859 rfl) ?_
      refine g_aload_n C (gdec dt_L_law 860 rfl) (i := 0) rfl rfl ?_
      refine g_iload_n C (gdec dt_L_law 861 rfl) (i := 3) rfl rfl ?_
      refine g_iconst C (gdec dt_L_law 862 rfl) ic_2 ?_
      refine g_iadd C (gdec dt_L_law 863 rfl) ?_
      obtain ⟨hg202, hf⟩ := gif hf
      refine g_sld0 C hX hb hg202 (gdec dt_L_law 864 rfl) ?_
      refine g_aload_n C (gdec dt_L_law 865 rfl) (i := 0) rfl rfl ?_
      refine g_iload_n C (gdec dt_L_law 866 rfl) (i := 3) rfl rfl ?_
      refine g_iconst C (gdec dt_L_law 867 rfl) ic_3 ?_
      refine g_iadd C (gdec dt_L_law 868 rfl) ?_
      obtain ⟨hg203, hf⟩ := gif hf
      refine g_sld0 C hX hb hg203 (gdec dt_L_law 869 rfl) ?_
      obtain ⟨q204, hq204, hf⟩ := Option.bind_eq_some_iff.mp hf
      refine g_invVs e_shXM_shX_0 [.int (xs (x3 + (1 : Int32)).toNatClampNeg), .int (xs (x3 + (2 : Int32)).toNatClampNeg), .int (xs (x3 + (3 : Int32)).toNatClampNeg)] [] C (c_X10_isLiked l D cA _ (gInj_sub em_e_shXM_shX_0 (gCi C)) (gsub w e_shXM_shX_0) (xs (x3 + (1 : Int32)).toNatClampNeg) (xs (x3 + (2 : Int32)).toNatClampNeg) (xs (x3 + (3 : Int32)).toNatClampNeg) q204 hq204) em_e_shXM_shX_0 (by decide) rfl kT_X10_isLiked kl_L_165 kim_X10_isLiked kse_X10_isLiked rfl rfl (i := 0) rfl rfl ⟨by decide, by decide⟩ ⟨Nat.le_refl _, Nat.le_refl _⟩ (Nat.le_of_ble_eq_true rfl) (gdec dt_L_law 870 rfl) rfl (st2 := [.int q204.1]) (w2 := (gput w e_shXM_shX_0 q204.2)) rfl rfl ?_
      refine g_aload_n C (gdec dt_L_law 871 rfl) (i := 2) rfl rfl ?_
      refine g_aload_n C (gdec dt_L_law 872 rfl) (i := 0) rfl rfl ?_
      refine g_iload_n C (gdec dt_L_law 873 rfl) (i := 3) rfl rfl ?_
      refine g_iconst C (gdec dt_L_law 874 rfl) ic_1 ?_
      refine g_iadd C (gdec dt_L_law 875 rfl) ?_
      refine g_sld0 C hX hb hg201 (gdec dt_L_law 876 rfl) ?_
      refine g_aload_n C (gdec dt_L_law 877 rfl) (i := 0) rfl rfl ?_
      refine g_iload_n C (gdec dt_L_law 878 rfl) (i := 3) rfl rfl ?_
      refine g_iconst C (gdec dt_L_law 879 rfl) ic_2 ?_
      refine g_iadd C (gdec dt_L_law 880 rfl) ?_
      refine g_sld0 C hX hb hg202 (gdec dt_L_law 881 rfl) ?_
      refine g_aload_n C (gdec dt_L_law 882 rfl) (i := 0) rfl rfl ?_
      refine g_iload_n C (gdec dt_L_law 883 rfl) (i := 3) rfl rfl ?_
      refine g_iconst C (gdec dt_L_law 884 rfl) ic_3 ?_
      refine g_iadd C (gdec dt_L_law 885 rfl) ?_
      refine g_sld0 C hX hb hg203 (gdec dt_L_law 886 rfl) ?_
      obtain ⟨q205, hq205, hf⟩ := Option.bind_eq_some_iff.mp hf
      refine g_invVs e_shXM_shM_138 [.int (xs (x3 + (1 : Int32)).toNatClampNeg), .int (xs (x3 + (2 : Int32)).toNatClampNeg), .int (xs (x3 + (3 : Int32)).toNatClampNeg)] [.int q204.1] C (c_X11_isLiked l D cA _ (gInj_sub em_e_shXM_shM_138 (gCi C)) (gsub (gput w e_shXM_shX_0 q204.2) e_shXM_shM_138) (xs (x3 + (1 : Int32)).toNatClampNeg) (xs (x3 + (2 : Int32)).toNatClampNeg) (xs (x3 + (3 : Int32)).toNatClampNeg) q205 hq205) em_e_shXM_shM_138 (by decide) rfl kT_X11_isLiked kl_L_169 kim_X11_isLiked kse_X11_isLiked rfl rfl (i := 138) rfl rfl ⟨by decide, by decide⟩ ⟨Nat.le_refl _, Nat.le_refl _⟩ (Nat.le_of_ble_eq_true rfl) (gdec dt_L_law 887 rfl) rfl (st2 := [.int q205.1, .int q204.1]) (w2 := (gput (gput w e_shXM_shX_0 q204.2) e_shXM_shM_138 q205.2)) rfl rfl ?_
      refine g_icmp_eq C (tgt := 1910) (gdec dt_L_law 888 rfl) (by decide) (fun hc206 => ?_) (fun hc206 => ?_)
      · have hf := (if_pos hc206).symm.trans hf
        refine g_sub [0, 1, 2, 3] (lo2 := [(0, .ref 6000), (1, .ref 0), (2, .ref 138), (3, .int x3)]) rfl ?_
        exact L_L_law_1910 C hX hb hnew hk18 x3 (gput (gput w e_shXM_shX_0 q204.2) e_shXM_shM_138 q205.2) hf
      · have hf := (if_neg hc206).symm.trans hf
        refine g_iconst C (gdec dt_L_law 889 rfl) ic_0 ?_
        cases hf
    replace hf := (if_neg hc200).symm.trans hf
    by_cases hc207 : ((xs x3.toNatClampNeg) &&& (63 : Int32)) = (36 : Int32)
    · have hf := (if_pos hc207).symm.trans hf
      refine g_tableIn C (tgt := 1367) (off := 1334) (gdec dt_L_law 21 rfl) (by rw [hc207]; decide) (by rw [hc207]; decide) (by rw [hc207]; decide) (by decide) ?_
      refine g_aload_n C (gdec dt_L_law 891 rfl) (i := 1) rfl rfl ?_
      refine g_aload_n C (gdec dt_L_law 892 rfl) (i := 0) rfl rfl ?_
      refine g_iload_n C (gdec dt_L_law 893 rfl) (i := 3) rfl rfl ?_
      refine g_iconst C (gdec dt_L_law 894 rfl) ic_1 ?_
      refine g_iadd C (gdec dt_L_law 895 rfl) ?_
      obtain ⟨hg208, hf⟩ := gif hf
      refine g_sld0 C hX hb hg208 (gdec dt_L_law 896 rfl) ?_
      refine g_aload_n C (gdec dt_L_law 897 rfl) (i := 0) rfl rfl ?_
      refine g_iload_n C (gdec dt_L_law 898 rfl) (i := 3) rfl rfl ?_
      refine g_iconst C (gdec dt_L_law 899 rfl) ic_2 ?_
      refine g_iadd C (gdec dt_L_law 900 rfl) ?_
      obtain ⟨hg209, hf⟩ := gif hf
      refine g_sld0 C hX hb hg209 (gdec dt_L_law 901 rfl) ?_
      obtain ⟨q210, hq210, hf⟩ := Option.bind_eq_some_iff.mp hf
      refine g_invVs e_shXM_shX_0 [.int (xs (x3 + (1 : Int32)).toNatClampNeg), .int (xs (x3 + (2 : Int32)).toNatClampNeg)] [] C (c_X10_soon l D cA _ (gInj_sub em_e_shXM_shX_0 (gCi C)) (gsub w e_shXM_shX_0) (xs (x3 + (1 : Int32)).toNatClampNeg) (xs (x3 + (2 : Int32)).toNatClampNeg) q210 hq210) em_e_shXM_shX_0 (by decide) rfl kT_X10_soon kl_L_170 kim_X10_soon kse_X10_soon rfl rfl (i := 0) rfl rfl ⟨by decide, by decide⟩ ⟨Nat.le_refl _, Nat.le_refl _⟩ (Nat.le_of_ble_eq_true rfl) (gdec dt_L_law 902 rfl) rfl (st2 := [.int q210.1]) (w2 := (gput w e_shXM_shX_0 q210.2)) rfl rfl ?_
      refine g_aload_n C (gdec dt_L_law 903 rfl) (i := 2) rfl rfl ?_
      refine g_aload_n C (gdec dt_L_law 904 rfl) (i := 0) rfl rfl ?_
      refine g_iload_n C (gdec dt_L_law 905 rfl) (i := 3) rfl rfl ?_
      refine g_iconst C (gdec dt_L_law 906 rfl) ic_1 ?_
      refine g_iadd C (gdec dt_L_law 907 rfl) ?_
      refine g_sld0 C hX hb hg208 (gdec dt_L_law 908 rfl) ?_
      refine g_aload_n C (gdec dt_L_law 909 rfl) (i := 0) rfl rfl ?_
      refine g_iload_n C (gdec dt_L_law 910 rfl) (i := 3) rfl rfl ?_
      refine g_iconst C (gdec dt_L_law 911 rfl) ic_2 ?_
      refine g_iadd C (gdec dt_L_law 912 rfl) ?_
      refine g_sld0 C hX hb hg209 (gdec dt_L_law 913 rfl) ?_
      obtain ⟨q211, hq211, hf⟩ := Option.bind_eq_some_iff.mp hf
      refine g_invVs e_shXM_shM_138 [.int (xs (x3 + (1 : Int32)).toNatClampNeg), .int (xs (x3 + (2 : Int32)).toNatClampNeg)] [.int q210.1] C (c_X11_soon l D cA _ (gInj_sub em_e_shXM_shM_138 (gCi C)) (gsub (gput w e_shXM_shX_0 q210.2) e_shXM_shM_138) (xs (x3 + (1 : Int32)).toNatClampNeg) (xs (x3 + (2 : Int32)).toNatClampNeg) q211 hq211) em_e_shXM_shM_138 (by decide) rfl kT_X11_soon kl_L_173 kim_X11_soon kse_X11_soon rfl rfl (i := 138) rfl rfl ⟨by decide, by decide⟩ ⟨Nat.le_refl _, Nat.le_refl _⟩ (Nat.le_of_ble_eq_true rfl) (gdec dt_L_law 914 rfl) rfl (st2 := [.int q211.1, .int q210.1]) (w2 := (gput (gput w e_shXM_shX_0 q210.2) e_shXM_shM_138 q211.2)) rfl rfl ?_
      refine g_icmp_eq C (tgt := 1910) (gdec dt_L_law 915 rfl) (by decide) (fun hc212 => ?_) (fun hc212 => ?_)
      · have hf := (if_pos hc212).symm.trans hf
        refine g_sub [0, 1, 2, 3] (lo2 := [(0, .ref 6000), (1, .ref 0), (2, .ref 138), (3, .int x3)]) rfl ?_
        exact L_L_law_1910 C hX hb hnew hk18 x3 (gput (gput w e_shXM_shX_0 q210.2) e_shXM_shM_138 q211.2) hf
      · have hf := (if_neg hc212).symm.trans hf
        refine g_iconst C (gdec dt_L_law 916 rfl) ic_0 ?_
        cases hf
    replace hf := (if_neg hc207).symm.trans hf
    by_cases hc213 : ((xs x3.toNatClampNeg) &&& (63 : Int32)) = (37 : Int32)
    · have hf := (if_pos hc213).symm.trans hf
      refine g_tableIn C (tgt := 1400) (off := 1367) (gdec dt_L_law 21 rfl) (by rw [hc213]; decide) (by rw [hc213]; decide) (by rw [hc213]; decide) (by decide) ?_
      refine g_aload_n C (gdec dt_L_law 918 rfl) (i := 1) rfl rfl ?_
      refine g_aload_n C (gdec dt_L_law 919 rfl) (i := 0) rfl rfl ?_
      refine g_iload_n C (gdec dt_L_law 920 rfl) (i := 3) rfl rfl ?_
      refine g_iconst C (gdec dt_L_law 921 rfl) ic_1 ?_
      refine g_iadd C (gdec dt_L_law 922 rfl) ?_
      obtain ⟨hg214, hf⟩ := gif hf
      refine g_sld0 C hX hb hg214 (gdec dt_L_law 923 rfl) ?_
      refine g_aload_n C (gdec dt_L_law 924 rfl) (i := 0) rfl rfl ?_
      refine g_iload_n C (gdec dt_L_law 925 rfl) (i := 3) rfl rfl ?_
      refine g_iconst C (gdec dt_L_law 926 rfl) ic_2 ?_
      refine g_iadd C (gdec dt_L_law 927 rfl) ?_
      obtain ⟨hg215, hf⟩ := gif hf
      refine g_sld0 C hX hb hg215 (gdec dt_L_law 928 rfl) ?_
      obtain ⟨q216, hq216, hf⟩ := Option.bind_eq_some_iff.mp hf
      refine g_invVs e_shXM_shX_0 [.int (xs (x3 + (1 : Int32)).toNatClampNeg), .int (xs (x3 + (2 : Int32)).toNatClampNeg)] [] C (c_X10_soonAt l D cA _ (gInj_sub em_e_shXM_shX_0 (gCi C)) (gsub w e_shXM_shX_0) (xs (x3 + (1 : Int32)).toNatClampNeg) (xs (x3 + (2 : Int32)).toNatClampNeg) q216 hq216) em_e_shXM_shX_0 (by decide) rfl kT_X10_soonAt kl_L_174 kim_X10_soonAt kse_X10_soonAt rfl rfl (i := 0) rfl rfl ⟨by decide, by decide⟩ ⟨Nat.le_refl _, Nat.le_refl _⟩ (Nat.le_of_ble_eq_true rfl) (gdec dt_L_law 929 rfl) rfl (st2 := [.int q216.1]) (w2 := (gput w e_shXM_shX_0 q216.2)) rfl rfl ?_
      refine g_aload_n C (gdec dt_L_law 930 rfl) (i := 2) rfl rfl ?_
      refine g_aload_n C (gdec dt_L_law 931 rfl) (i := 0) rfl rfl ?_
      refine g_iload_n C (gdec dt_L_law 932 rfl) (i := 3) rfl rfl ?_
      refine g_iconst C (gdec dt_L_law 933 rfl) ic_1 ?_
      refine g_iadd C (gdec dt_L_law 934 rfl) ?_
      refine g_sld0 C hX hb hg214 (gdec dt_L_law 935 rfl) ?_
      refine g_aload_n C (gdec dt_L_law 936 rfl) (i := 0) rfl rfl ?_
      refine g_iload_n C (gdec dt_L_law 937 rfl) (i := 3) rfl rfl ?_
      refine g_iconst C (gdec dt_L_law 938 rfl) ic_2 ?_
      refine g_iadd C (gdec dt_L_law 939 rfl) ?_
      refine g_sld0 C hX hb hg215 (gdec dt_L_law 940 rfl) ?_
      obtain ⟨q217, hq217, hf⟩ := Option.bind_eq_some_iff.mp hf
      refine g_invVs e_shXM_shM_138 [.int (xs (x3 + (1 : Int32)).toNatClampNeg), .int (xs (x3 + (2 : Int32)).toNatClampNeg)] [.int q216.1] C (c_X11_soonAt l D cA _ (gInj_sub em_e_shXM_shM_138 (gCi C)) (gsub (gput w e_shXM_shX_0 q216.2) e_shXM_shM_138) (xs (x3 + (1 : Int32)).toNatClampNeg) (xs (x3 + (2 : Int32)).toNatClampNeg) q217 hq217) em_e_shXM_shM_138 (by decide) rfl kT_X11_soonAt kl_L_177 kim_X11_soonAt kse_X11_soonAt rfl rfl (i := 138) rfl rfl ⟨by decide, by decide⟩ ⟨Nat.le_refl _, Nat.le_refl _⟩ (Nat.le_of_ble_eq_true rfl) (gdec dt_L_law 941 rfl) rfl (st2 := [.int q217.1, .int q216.1]) (w2 := (gput (gput w e_shXM_shX_0 q216.2) e_shXM_shM_138 q217.2)) rfl rfl ?_
      refine g_icmp_eq C (tgt := 1910) (gdec dt_L_law 942 rfl) (by decide) (fun hc218 => ?_) (fun hc218 => ?_)
      · have hf := (if_pos hc218).symm.trans hf
        refine g_sub [0, 1, 2, 3] (lo2 := [(0, .ref 6000), (1, .ref 0), (2, .ref 138), (3, .int x3)]) rfl ?_
        exact L_L_law_1910 C hX hb hnew hk18 x3 (gput (gput w e_shXM_shX_0 q216.2) e_shXM_shM_138 q217.2) hf
      · have hf := (if_neg hc218).symm.trans hf
        refine g_iconst C (gdec dt_L_law 943 rfl) ic_0 ?_
        cases hf
    replace hf := (if_neg hc213).symm.trans hf
    by_cases hc219 : ((xs x3.toNatClampNeg) &&& (63 : Int32)) = (38 : Int32)
    · have hf := (if_pos hc219).symm.trans hf
      refine g_tableIn C (tgt := 1433) (off := 1400) (gdec dt_L_law 21 rfl) (by rw [hc219]; decide) (by rw [hc219]; decide) (by rw [hc219]; decide) (by decide) ?_
      refine g_aload_n C (gdec dt_L_law 945 rfl) (i := 1) rfl rfl ?_
      refine g_aload_n C (gdec dt_L_law 946 rfl) (i := 0) rfl rfl ?_
      refine g_iload_n C (gdec dt_L_law 947 rfl) (i := 3) rfl rfl ?_
      refine g_iconst C (gdec dt_L_law 948 rfl) ic_1 ?_
      refine g_iadd C (gdec dt_L_law 949 rfl) ?_
      obtain ⟨hg220, hf⟩ := gif hf
      refine g_sld0 C hX hb hg220 (gdec dt_L_law 950 rfl) ?_
      refine g_aload_n C (gdec dt_L_law 951 rfl) (i := 0) rfl rfl ?_
      refine g_iload_n C (gdec dt_L_law 952 rfl) (i := 3) rfl rfl ?_
      refine g_iconst C (gdec dt_L_law 953 rfl) ic_2 ?_
      refine g_iadd C (gdec dt_L_law 954 rfl) ?_
      obtain ⟨hg221, hf⟩ := gif hf
      refine g_sld0 C hX hb hg221 (gdec dt_L_law 955 rfl) ?_
      refine g_aload_n C (gdec dt_L_law 956 rfl) (i := 0) rfl rfl ?_
      refine g_iload_n C (gdec dt_L_law 957 rfl) (i := 3) rfl rfl ?_
      refine g_iconst C (gdec dt_L_law 958 rfl) ic_3 ?_
      refine g_iadd C (gdec dt_L_law 959 rfl) ?_
      obtain ⟨hg222, hf⟩ := gif hf
      refine g_sld0 C hX hb hg222 (gdec dt_L_law 960 rfl) ?_
      obtain ⟨q223, hq223, hf⟩ := Option.bind_eq_some_iff.mp hf
      refine g_invVs e_shXM_shX_0 [.int (xs (x3 + (1 : Int32)).toNatClampNeg), .int (xs (x3 + (2 : Int32)).toNatClampNeg), .int (xs (x3 + (3 : Int32)).toNatClampNeg)] [] C (c_X10_worth l D cA _ (gInj_sub em_e_shXM_shX_0 (gCi C)) (gsub w e_shXM_shX_0) (xs (x3 + (1 : Int32)).toNatClampNeg) (xs (x3 + (2 : Int32)).toNatClampNeg) (xs (x3 + (3 : Int32)).toNatClampNeg) q223 hq223) em_e_shXM_shX_0 (by decide) rfl kT_X10_worth kl_L_178 kim_X10_worth kse_X10_worth rfl rfl (i := 0) rfl rfl ⟨by decide, by decide⟩ ⟨Nat.le_refl _, Nat.le_refl _⟩ (Nat.le_of_ble_eq_true rfl) (gdec dt_L_law 961 rfl) rfl (st2 := [.int q223.1]) (w2 := (gput w e_shXM_shX_0 q223.2)) rfl rfl ?_
      refine g_aload_n C (gdec dt_L_law 962 rfl) (i := 2) rfl rfl ?_
      refine g_aload_n C (gdec dt_L_law 963 rfl) (i := 0) rfl rfl ?_
      refine g_iload_n C (gdec dt_L_law 964 rfl) (i := 3) rfl rfl ?_
      refine g_iconst C (gdec dt_L_law 965 rfl) ic_1 ?_
      refine g_iadd C (gdec dt_L_law 966 rfl) ?_
      refine g_sld0 C hX hb hg220 (gdec dt_L_law 967 rfl) ?_
      refine g_aload_n C (gdec dt_L_law 968 rfl) (i := 0) rfl rfl ?_
      refine g_iload_n C (gdec dt_L_law 969 rfl) (i := 3) rfl rfl ?_
      refine g_iconst C (gdec dt_L_law 970 rfl) ic_2 ?_
      refine g_iadd C (gdec dt_L_law 971 rfl) ?_
      refine g_sld0 C hX hb hg221 (gdec dt_L_law 972 rfl) ?_
      refine g_aload_n C (gdec dt_L_law 973 rfl) (i := 0) rfl rfl ?_
      refine g_iload_n C (gdec dt_L_law 974 rfl) (i := 3) rfl rfl ?_
      refine g_iconst C (gdec dt_L_law 975 rfl) ic_3 ?_
      refine g_iadd C (gdec dt_L_law 976 rfl) ?_
      refine g_sld0 C hX hb hg222 (gdec dt_L_law 977 rfl) ?_
      obtain ⟨q224, hq224, hf⟩ := Option.bind_eq_some_iff.mp hf
      refine g_invVs e_shXM_shM_138 [.int (xs (x3 + (1 : Int32)).toNatClampNeg), .int (xs (x3 + (2 : Int32)).toNatClampNeg), .int (xs (x3 + (3 : Int32)).toNatClampNeg)] [.int q223.1] C (c_X11_worth l D cA _ (gInj_sub em_e_shXM_shM_138 (gCi C)) (gsub (gput w e_shXM_shX_0 q223.2) e_shXM_shM_138) (xs (x3 + (1 : Int32)).toNatClampNeg) (xs (x3 + (2 : Int32)).toNatClampNeg) (xs (x3 + (3 : Int32)).toNatClampNeg) q224 hq224) em_e_shXM_shM_138 (by decide) rfl kT_X11_worth kl_L_181 kim_X11_worth kse_X11_worth rfl rfl (i := 138) rfl rfl ⟨by decide, by decide⟩ ⟨Nat.le_refl _, Nat.le_refl _⟩ (Nat.le_of_ble_eq_true rfl) (gdec dt_L_law 978 rfl) rfl (st2 := [.int q224.1, .int q223.1]) (w2 := (gput (gput w e_shXM_shX_0 q223.2) e_shXM_shM_138 q224.2)) rfl rfl ?_
      refine g_icmp_eq C (tgt := 1910) (gdec dt_L_law 979 rfl) (by decide) (fun hc225 => ?_) (fun hc225 => ?_)
      · have hf := (if_pos hc225).symm.trans hf
        refine g_sub [0, 1, 2, 3] (lo2 := [(0, .ref 6000), (1, .ref 0), (2, .ref 138), (3, .int x3)]) rfl ?_
        exact L_L_law_1910 C hX hb hnew hk18 x3 (gput (gput w e_shXM_shX_0 q223.2) e_shXM_shM_138 q224.2) hf
      · have hf := (if_neg hc225).symm.trans hf
        refine g_iconst C (gdec dt_L_law 980 rfl) ic_0 ?_
        cases hf
    replace hf := (if_neg hc219).symm.trans hf
    by_cases hc226 : ((xs x3.toNatClampNeg) &&& (63 : Int32)) = (39 : Int32)
    · have hf := (if_pos hc226).symm.trans hf
      refine g_tableIn C (tgt := 1476) (off := 1443) (gdec dt_L_law 21 rfl) (by rw [hc226]; decide) (by rw [hc226]; decide) (by rw [hc226]; decide) (by decide) ?_
      refine g_aload_n C (gdec dt_L_law 982 rfl) (i := 1) rfl rfl ?_
      refine g_aload_n C (gdec dt_L_law 983 rfl) (i := 0) rfl rfl ?_
      refine g_iload_n C (gdec dt_L_law 984 rfl) (i := 3) rfl rfl ?_
      refine g_iconst C (gdec dt_L_law 985 rfl) ic_1 ?_
      refine g_iadd C (gdec dt_L_law 986 rfl) ?_
      obtain ⟨hg227, hf⟩ := gif hf
      refine g_sld0 C hX hb hg227 (gdec dt_L_law 987 rfl) ?_
      refine g_aload_n C (gdec dt_L_law 988 rfl) (i := 0) rfl rfl ?_
      refine g_iload_n C (gdec dt_L_law 989 rfl) (i := 3) rfl rfl ?_
      refine g_iconst C (gdec dt_L_law 990 rfl) ic_2 ?_
      refine g_iadd C (gdec dt_L_law 991 rfl) ?_
      obtain ⟨hg228, hf⟩ := gif hf
      refine g_sld0 C hX hb hg228 (gdec dt_L_law 992 rfl) ?_
      obtain ⟨q229, hq229, hf⟩ := Option.bind_eq_some_iff.mp hf
      refine g_invVs e_shXM_shX_0 [.int (xs (x3 + (1 : Int32)).toNatClampNeg), .int (xs (x3 + (2 : Int32)).toNatClampNeg)] [] C (c_X10_leastFan l D cA _ (gInj_sub em_e_shXM_shX_0 (gCi C)) (gsub w e_shXM_shX_0) (xs (x3 + (1 : Int32)).toNatClampNeg) (xs (x3 + (2 : Int32)).toNatClampNeg) q229 hq229) em_e_shXM_shX_0 (by decide) rfl kT_X10_leastFan kl_L_182 kim_X10_leastFan kse_X10_leastFan rfl rfl (i := 0) rfl rfl ⟨by decide, by decide⟩ ⟨Nat.le_refl _, Nat.le_refl _⟩ (Nat.le_of_ble_eq_true rfl) (gdec dt_L_law 993 rfl) rfl (st2 := [.int q229.1]) (w2 := (gput w e_shXM_shX_0 q229.2)) rfl rfl ?_
      refine g_aload_n C (gdec dt_L_law 994 rfl) (i := 2) rfl rfl ?_
      refine g_aload_n C (gdec dt_L_law 995 rfl) (i := 0) rfl rfl ?_
      refine g_iload_n C (gdec dt_L_law 996 rfl) (i := 3) rfl rfl ?_
      refine g_iconst C (gdec dt_L_law 997 rfl) ic_1 ?_
      refine g_iadd C (gdec dt_L_law 998 rfl) ?_
      refine g_sld0 C hX hb hg227 (gdec dt_L_law 999 rfl) ?_
      refine g_aload_n C (gdec dt_L_law 1000 rfl) (i := 0) rfl rfl ?_
      refine g_iload_n C (gdec dt_L_law 1001 rfl) (i := 3) rfl rfl ?_
      refine g_iconst C (gdec dt_L_law 1002 rfl) ic_2 ?_
      refine g_iadd C (gdec dt_L_law 1003 rfl) ?_
      refine g_sld0 C hX hb hg228 (gdec dt_L_law 1004 rfl) ?_
      obtain ⟨q230, hq230, hf⟩ := Option.bind_eq_some_iff.mp hf
      refine g_invVs e_shXM_shM_138 [.int (xs (x3 + (1 : Int32)).toNatClampNeg), .int (xs (x3 + (2 : Int32)).toNatClampNeg)] [.int q229.1] C (c_X11_leastFan l D cA _ (gInj_sub em_e_shXM_shM_138 (gCi C)) (gsub (gput w e_shXM_shX_0 q229.2) e_shXM_shM_138) (xs (x3 + (1 : Int32)).toNatClampNeg) (xs (x3 + (2 : Int32)).toNatClampNeg) q230 hq230) em_e_shXM_shM_138 (by decide) rfl kT_X11_leastFan kl_L_185 kim_X11_leastFan kse_X11_leastFan rfl rfl (i := 138) rfl rfl ⟨by decide, by decide⟩ ⟨Nat.le_refl _, Nat.le_refl _⟩ (Nat.le_of_ble_eq_true rfl) (gdec dt_L_law 1005 rfl) rfl (st2 := [.int q230.1, .int q229.1]) (w2 := (gput (gput w e_shXM_shX_0 q229.2) e_shXM_shM_138 q230.2)) rfl rfl ?_
      refine g_icmp_eq C (tgt := 1910) (gdec dt_L_law 1006 rfl) (by decide) (fun hc231 => ?_) (fun hc231 => ?_)
      · have hf := (if_pos hc231).symm.trans hf
        refine g_sub [0, 1, 2, 3] (lo2 := [(0, .ref 6000), (1, .ref 0), (2, .ref 138), (3, .int x3)]) rfl ?_
        exact L_L_law_1910 C hX hb hnew hk18 x3 (gput (gput w e_shXM_shX_0 q229.2) e_shXM_shM_138 q230.2) hf
      · have hf := (if_neg hc231).symm.trans hf
        refine g_iconst C (gdec dt_L_law 1007 rfl) ic_0 ?_
        cases hf
    replace hf := (if_neg hc226).symm.trans hf
    by_cases hc232 : ((xs x3.toNatClampNeg) &&& (63 : Int32)) = (40 : Int32)
    · have hf := (if_pos hc232).symm.trans hf
      refine g_tableIn C (tgt := 1509) (off := 1476) (gdec dt_L_law 21 rfl) (by rw [hc232]; decide) (by rw [hc232]; decide) (by rw [hc232]; decide) (by decide) ?_
      refine g_aload_n C (gdec dt_L_law 1009 rfl) (i := 1) rfl rfl ?_
      refine g_aload_n C (gdec dt_L_law 1010 rfl) (i := 0) rfl rfl ?_
      refine g_iload_n C (gdec dt_L_law 1011 rfl) (i := 3) rfl rfl ?_
      refine g_iconst C (gdec dt_L_law 1012 rfl) ic_1 ?_
      refine g_iadd C (gdec dt_L_law 1013 rfl) ?_
      obtain ⟨hg233, hf⟩ := gif hf
      refine g_sld0 C hX hb hg233 (gdec dt_L_law 1014 rfl) ?_
      refine g_aload_n C (gdec dt_L_law 1015 rfl) (i := 0) rfl rfl ?_
      refine g_iload_n C (gdec dt_L_law 1016 rfl) (i := 3) rfl rfl ?_
      refine g_iconst C (gdec dt_L_law 1017 rfl) ic_2 ?_
      refine g_iadd C (gdec dt_L_law 1018 rfl) ?_
      obtain ⟨hg234, hf⟩ := gif hf
      refine g_sld0 C hX hb hg234 (gdec dt_L_law 1019 rfl) ?_
      obtain ⟨q235, hq235, hf⟩ := Option.bind_eq_some_iff.mp hf
      refine g_invVs e_shXM_shX_0 [.int (xs (x3 + (1 : Int32)).toNatClampNeg), .int (xs (x3 + (2 : Int32)).toNatClampNeg)] [] C (c_X10_fits l D cA _ (gInj_sub em_e_shXM_shX_0 (gCi C)) (gsub w e_shXM_shX_0) (xs (x3 + (1 : Int32)).toNatClampNeg) (xs (x3 + (2 : Int32)).toNatClampNeg) q235 hq235) em_e_shXM_shX_0 (by decide) rfl kT_X10_fits kl_L_186 kim_X10_fits kse_X10_fits rfl rfl (i := 0) rfl rfl ⟨by decide, by decide⟩ ⟨Nat.le_refl _, Nat.le_refl _⟩ (Nat.le_of_ble_eq_true rfl) (gdec dt_L_law 1020 rfl) rfl (st2 := [.int q235.1]) (w2 := (gput w e_shXM_shX_0 q235.2)) rfl rfl ?_
      refine g_aload_n C (gdec dt_L_law 1021 rfl) (i := 2) rfl rfl ?_
      refine g_aload_n C (gdec dt_L_law 1022 rfl) (i := 0) rfl rfl ?_
      refine g_iload_n C (gdec dt_L_law 1023 rfl) (i := 3) rfl rfl ?_
      refine g_iconst C (gdec dt_L_law 1024 rfl) ic_1 ?_
      refine g_iadd C (gdec dt_L_law 1025 rfl) ?_
      refine g_sld0 C hX hb hg233 (gdec dt_L_law 1026 rfl) ?_
      refine g_aload_n C (gdec dt_L_law 1027 rfl) (i := 0) rfl rfl ?_
      refine g_iload_n C (gdec dt_L_law 1028 rfl) (i := 3) rfl rfl ?_
      refine g_iconst C (gdec dt_L_law 1029 rfl) ic_2 ?_
      refine g_iadd C (gdec dt_L_law 1030 rfl) ?_
      refine g_sld0 C hX hb hg234 (gdec dt_L_law 1031 rfl) ?_
      obtain ⟨q236, hq236, hf⟩ := Option.bind_eq_some_iff.mp hf
      refine g_invVs e_shXM_shM_138 [.int (xs (x3 + (1 : Int32)).toNatClampNeg), .int (xs (x3 + (2 : Int32)).toNatClampNeg)] [.int q235.1] C (c_X11_fits l D cA _ (gInj_sub em_e_shXM_shM_138 (gCi C)) (gsub (gput w e_shXM_shX_0 q235.2) e_shXM_shM_138) (xs (x3 + (1 : Int32)).toNatClampNeg) (xs (x3 + (2 : Int32)).toNatClampNeg) q236 hq236) em_e_shXM_shM_138 (by decide) rfl kT_X11_fits kl_L_189 kim_X11_fits kse_X11_fits rfl rfl (i := 138) rfl rfl ⟨by decide, by decide⟩ ⟨Nat.le_refl _, Nat.le_refl _⟩ (Nat.le_of_ble_eq_true rfl) (gdec dt_L_law 1032 rfl) rfl (st2 := [.int q236.1, .int q235.1]) (w2 := (gput (gput w e_shXM_shX_0 q235.2) e_shXM_shM_138 q236.2)) rfl rfl ?_
      refine g_icmp_eq C (tgt := 1910) (gdec dt_L_law 1033 rfl) (by decide) (fun hc237 => ?_) (fun hc237 => ?_)
      · have hf := (if_pos hc237).symm.trans hf
        refine g_sub [0, 1, 2, 3] (lo2 := [(0, .ref 6000), (1, .ref 0), (2, .ref 138), (3, .int x3)]) rfl ?_
        exact L_L_law_1910 C hX hb hnew hk18 x3 (gput (gput w e_shXM_shX_0 q235.2) e_shXM_shM_138 q236.2) hf
      · have hf := (if_neg hc237).symm.trans hf
        refine g_iconst C (gdec dt_L_law 1034 rfl) ic_0 ?_
        cases hf
    replace hf := (if_neg hc232).symm.trans hf
    by_cases hc238 : ((xs x3.toNatClampNeg) &&& (63 : Int32)) = (41 : Int32)
    · have hf := (if_pos hc238).symm.trans hf
      refine g_tableIn C (tgt := 1542) (off := 1509) (gdec dt_L_law 21 rfl) (by rw [hc238]; decide) (by rw [hc238]; decide) (by rw [hc238]; decide) (by decide) ?_
      refine g_aload_n C (gdec dt_L_law 1036 rfl) (i := 1) rfl rfl ?_
      refine g_aload_n C (gdec dt_L_law 1037 rfl) (i := 0) rfl rfl ?_
      refine g_iload_n C (gdec dt_L_law 1038 rfl) (i := 3) rfl rfl ?_
      refine g_iconst C (gdec dt_L_law 1039 rfl) ic_1 ?_
      refine g_iadd C (gdec dt_L_law 1040 rfl) ?_
      obtain ⟨hg239, hf⟩ := gif hf
      refine g_sld0 C hX hb hg239 (gdec dt_L_law 1041 rfl) ?_
      refine g_aload_n C (gdec dt_L_law 1042 rfl) (i := 0) rfl rfl ?_
      refine g_iload_n C (gdec dt_L_law 1043 rfl) (i := 3) rfl rfl ?_
      refine g_iconst C (gdec dt_L_law 1044 rfl) ic_2 ?_
      refine g_iadd C (gdec dt_L_law 1045 rfl) ?_
      obtain ⟨hg240, hf⟩ := gif hf
      refine g_sld0 C hX hb hg240 (gdec dt_L_law 1046 rfl) ?_
      refine g_aload_n C (gdec dt_L_law 1047 rfl) (i := 0) rfl rfl ?_
      refine g_iload_n C (gdec dt_L_law 1048 rfl) (i := 3) rfl rfl ?_
      refine g_iconst C (gdec dt_L_law 1049 rfl) ic_3 ?_
      refine g_iadd C (gdec dt_L_law 1050 rfl) ?_
      obtain ⟨hg241, hf⟩ := gif hf
      refine g_sld0 C hX hb hg241 (gdec dt_L_law 1051 rfl) ?_
      obtain ⟨q242, hq242, hf⟩ := Option.bind_eq_some_iff.mp hf
      refine g_invVs e_shXM_shX_0 [.int (xs (x3 + (1 : Int32)).toNatClampNeg), .int (xs (x3 + (2 : Int32)).toNatClampNeg), .int (xs (x3 + (3 : Int32)).toNatClampNeg)] [] C (c_X10_fitsAt l D cA _ (gInj_sub em_e_shXM_shX_0 (gCi C)) (gsub w e_shXM_shX_0) (xs (x3 + (1 : Int32)).toNatClampNeg) (xs (x3 + (2 : Int32)).toNatClampNeg) (xs (x3 + (3 : Int32)).toNatClampNeg) q242 hq242) em_e_shXM_shX_0 (by decide) rfl kT_X10_fitsAt kl_L_190 kim_X10_fitsAt kse_X10_fitsAt rfl rfl (i := 0) rfl rfl ⟨by decide, by decide⟩ ⟨Nat.le_refl _, Nat.le_refl _⟩ (Nat.le_of_ble_eq_true rfl) (gdec dt_L_law 1052 rfl) rfl (st2 := [.int q242.1]) (w2 := (gput w e_shXM_shX_0 q242.2)) rfl rfl ?_
      refine g_aload_n C (gdec dt_L_law 1053 rfl) (i := 2) rfl rfl ?_
      refine g_aload_n C (gdec dt_L_law 1054 rfl) (i := 0) rfl rfl ?_
      refine g_iload_n C (gdec dt_L_law 1055 rfl) (i := 3) rfl rfl ?_
      refine g_iconst C (gdec dt_L_law 1056 rfl) ic_1 ?_
      refine g_iadd C (gdec dt_L_law 1057 rfl) ?_
      refine g_sld0 C hX hb hg239 (gdec dt_L_law 1058 rfl) ?_
      refine g_aload_n C (gdec dt_L_law 1059 rfl) (i := 0) rfl rfl ?_
      refine g_iload_n C (gdec dt_L_law 1060 rfl) (i := 3) rfl rfl ?_
      refine g_iconst C (gdec dt_L_law 1061 rfl) ic_2 ?_
      refine g_iadd C (gdec dt_L_law 1062 rfl) ?_
      refine g_sld0 C hX hb hg240 (gdec dt_L_law 1063 rfl) ?_
      refine g_aload_n C (gdec dt_L_law 1064 rfl) (i := 0) rfl rfl ?_
      refine g_iload_n C (gdec dt_L_law 1065 rfl) (i := 3) rfl rfl ?_
      refine g_iconst C (gdec dt_L_law 1066 rfl) ic_3 ?_
      refine g_iadd C (gdec dt_L_law 1067 rfl) ?_
      refine g_sld0 C hX hb hg241 (gdec dt_L_law 1068 rfl) ?_
      obtain ⟨q243, hq243, hf⟩ := Option.bind_eq_some_iff.mp hf
      refine g_invVs e_shXM_shM_138 [.int (xs (x3 + (1 : Int32)).toNatClampNeg), .int (xs (x3 + (2 : Int32)).toNatClampNeg), .int (xs (x3 + (3 : Int32)).toNatClampNeg)] [.int q242.1] C (c_X11_fitsAt l D cA _ (gInj_sub em_e_shXM_shM_138 (gCi C)) (gsub (gput w e_shXM_shX_0 q242.2) e_shXM_shM_138) (xs (x3 + (1 : Int32)).toNatClampNeg) (xs (x3 + (2 : Int32)).toNatClampNeg) (xs (x3 + (3 : Int32)).toNatClampNeg) q243 hq243) em_e_shXM_shM_138 (by decide) rfl kT_X11_fitsAt kl_L_193 kim_X11_fitsAt kse_X11_fitsAt rfl rfl (i := 138) rfl rfl ⟨by decide, by decide⟩ ⟨Nat.le_refl _, Nat.le_refl _⟩ (Nat.le_of_ble_eq_true rfl) (gdec dt_L_law 1069 rfl) rfl (st2 := [.int q243.1, .int q242.1]) (w2 := (gput (gput w e_shXM_shX_0 q242.2) e_shXM_shM_138 q243.2)) rfl rfl ?_
      refine g_icmp_eq C (tgt := 1910) (gdec dt_L_law 1070 rfl) (by decide) (fun hc244 => ?_) (fun hc244 => ?_)
      · have hf := (if_pos hc244).symm.trans hf
        refine g_sub [0, 1, 2, 3] (lo2 := [(0, .ref 6000), (1, .ref 0), (2, .ref 138), (3, .int x3)]) rfl ?_
        exact L_L_law_1910 C hX hb hnew hk18 x3 (gput (gput w e_shXM_shX_0 q242.2) e_shXM_shM_138 q243.2) hf
      · have hf := (if_neg hc244).symm.trans hf
        refine g_iconst C (gdec dt_L_law 1071 rfl) ic_0 ?_
        cases hf
    replace hf := (if_neg hc238).symm.trans hf
    by_cases hc245 : ((xs x3.toNatClampNeg) &&& (63 : Int32)) = (42 : Int32)
    · have hf := (if_pos hc245).symm.trans hf
      refine g_tableIn C (tgt := 1585) (off := 1552) (gdec dt_L_law 21 rfl) (by rw [hc245]; decide) (by rw [hc245]; decide) (by rw [hc245]; decide) (by decide) ?_
      refine g_aload_n C (gdec dt_L_law 1073 rfl) (i := 1) rfl rfl ?_
      refine g_aload_n C (gdec dt_L_law 1074 rfl) (i := 0) rfl rfl ?_
      refine g_iload_n C (gdec dt_L_law 1075 rfl) (i := 3) rfl rfl ?_
      refine g_iconst C (gdec dt_L_law 1076 rfl) ic_1 ?_
      refine g_iadd C (gdec dt_L_law 1077 rfl) ?_
      obtain ⟨hg246, hf⟩ := gif hf
      refine g_sld0 C hX hb hg246 (gdec dt_L_law 1078 rfl) ?_
      refine g_aload_n C (gdec dt_L_law 1079 rfl) (i := 0) rfl rfl ?_
      refine g_iload_n C (gdec dt_L_law 1080 rfl) (i := 3) rfl rfl ?_
      refine g_iconst C (gdec dt_L_law 1081 rfl) ic_2 ?_
      refine g_iadd C (gdec dt_L_law 1082 rfl) ?_
      obtain ⟨hg247, hf⟩ := gif hf
      refine g_sld0 C hX hb hg247 (gdec dt_L_law 1083 rfl) ?_
      obtain ⟨q248, hq248, hf⟩ := Option.bind_eq_some_iff.mp hf
      refine g_invVs e_shXM_shX_0 [.int (xs (x3 + (1 : Int32)).toNatClampNeg), .int (xs (x3 + (2 : Int32)).toNatClampNeg)] [] C (c_X10_ask l D cA _ (gInj_sub em_e_shXM_shX_0 (gCi C)) (gsub w e_shXM_shX_0) (xs (x3 + (1 : Int32)).toNatClampNeg) (xs (x3 + (2 : Int32)).toNatClampNeg) q248 hq248) em_e_shXM_shX_0 (by decide) rfl kT_X10_ask kl_L_194 kim_X10_ask kse_X10_ask rfl rfl (i := 0) rfl rfl ⟨by decide, by decide⟩ ⟨Nat.le_refl _, Nat.le_refl _⟩ (Nat.le_of_ble_eq_true rfl) (gdec dt_L_law 1084 rfl) rfl (st2 := [.int q248.1]) (w2 := (gput w e_shXM_shX_0 q248.2)) rfl rfl ?_
      refine g_aload_n C (gdec dt_L_law 1085 rfl) (i := 2) rfl rfl ?_
      refine g_aload_n C (gdec dt_L_law 1086 rfl) (i := 0) rfl rfl ?_
      refine g_iload_n C (gdec dt_L_law 1087 rfl) (i := 3) rfl rfl ?_
      refine g_iconst C (gdec dt_L_law 1088 rfl) ic_1 ?_
      refine g_iadd C (gdec dt_L_law 1089 rfl) ?_
      refine g_sld0 C hX hb hg246 (gdec dt_L_law 1090 rfl) ?_
      refine g_aload_n C (gdec dt_L_law 1091 rfl) (i := 0) rfl rfl ?_
      refine g_iload_n C (gdec dt_L_law 1092 rfl) (i := 3) rfl rfl ?_
      refine g_iconst C (gdec dt_L_law 1093 rfl) ic_2 ?_
      refine g_iadd C (gdec dt_L_law 1094 rfl) ?_
      refine g_sld0 C hX hb hg247 (gdec dt_L_law 1095 rfl) ?_
      obtain ⟨q249, hq249, hf⟩ := Option.bind_eq_some_iff.mp hf
      refine g_invVs e_shXM_shM_138 [.int (xs (x3 + (1 : Int32)).toNatClampNeg), .int (xs (x3 + (2 : Int32)).toNatClampNeg)] [.int q248.1] C (c_X11_ask l D cA _ (gInj_sub em_e_shXM_shM_138 (gCi C)) (gsub (gput w e_shXM_shX_0 q248.2) e_shXM_shM_138) (xs (x3 + (1 : Int32)).toNatClampNeg) (xs (x3 + (2 : Int32)).toNatClampNeg) q249 hq249) em_e_shXM_shM_138 (by decide) rfl kT_X11_ask kl_L_197 kim_X11_ask kse_X11_ask rfl rfl (i := 138) rfl rfl ⟨by decide, by decide⟩ ⟨Nat.le_refl _, Nat.le_refl _⟩ (Nat.le_of_ble_eq_true rfl) (gdec dt_L_law 1096 rfl) rfl (st2 := [.int q249.1, .int q248.1]) (w2 := (gput (gput w e_shXM_shX_0 q248.2) e_shXM_shM_138 q249.2)) rfl rfl ?_
      refine g_icmp_eq C (tgt := 1910) (gdec dt_L_law 1097 rfl) (by decide) (fun hc250 => ?_) (fun hc250 => ?_)
      · have hf := (if_pos hc250).symm.trans hf
        refine g_sub [0, 1, 2, 3] (lo2 := [(0, .ref 6000), (1, .ref 0), (2, .ref 138), (3, .int x3)]) rfl ?_
        exact L_L_law_1910 C hX hb hnew hk18 x3 (gput (gput w e_shXM_shX_0 q248.2) e_shXM_shM_138 q249.2) hf
      · have hf := (if_neg hc250).symm.trans hf
        refine g_iconst C (gdec dt_L_law 1098 rfl) ic_0 ?_
        cases hf
    replace hf := (if_neg hc245).symm.trans hf
    by_cases hc251 : ((xs x3.toNatClampNeg) &&& (63 : Int32)) = (43 : Int32)
    · have hf := (if_pos hc251).symm.trans hf
      refine g_tableIn C (tgt := 1618) (off := 1585) (gdec dt_L_law 21 rfl) (by rw [hc251]; decide) (by rw [hc251]; decide) (by rw [hc251]; decide) (by decide) ?_
      refine g_aload_n C (gdec dt_L_law 1100 rfl) (i := 1) rfl rfl ?_
      obtain ⟨q252, hq252, hf⟩ := Option.bind_eq_some_iff.mp hf
      refine g_invVs e_shXM_shX_0 [] [] C (c_X10_comes l D cA _ (gInj_sub em_e_shXM_shX_0 (gCi C)) (gsub w e_shXM_shX_0)  q252 hq252) em_e_shXM_shX_0 (by decide) rfl kT_X10_comes kl_L_198 kim_X10_comes kse_X10_comes rfl rfl (i := 0) rfl rfl ⟨by decide, by decide⟩ ⟨Nat.le_refl _, Nat.le_refl _⟩ (Nat.le_of_ble_eq_true rfl) (gdec dt_L_law 1101 rfl) rfl (st2 := [.int q252.1]) (w2 := (gput w e_shXM_shX_0 q252.2)) rfl rfl ?_
      refine g_aload_n C (gdec dt_L_law 1102 rfl) (i := 2) rfl rfl ?_
      obtain ⟨q253, hq253, hf⟩ := Option.bind_eq_some_iff.mp hf
      refine g_invVs e_shXM_shM_138 [] [.int q252.1] C (c_X11_comes l D cA _ (gInj_sub em_e_shXM_shM_138 (gCi C)) (gsub (gput w e_shXM_shX_0 q252.2) e_shXM_shM_138)  q253 hq253) em_e_shXM_shM_138 (by decide) rfl kT_X11_comes kl_L_201 kim_X11_comes kse_X11_comes rfl rfl (i := 138) rfl rfl ⟨by decide, by decide⟩ ⟨Nat.le_refl _, Nat.le_refl _⟩ (Nat.le_of_ble_eq_true rfl) (gdec dt_L_law 1103 rfl) rfl (st2 := [.int q253.1, .int q252.1]) (w2 := (gput (gput w e_shXM_shX_0 q252.2) e_shXM_shM_138 q253.2)) rfl rfl ?_
      refine g_icmp_eq C (tgt := 1910) (gdec dt_L_law 1104 rfl) (by decide) (fun hc254 => ?_) (fun hc254 => ?_)
      · have hf := (if_pos hc254).symm.trans hf
        refine g_sub [0, 1, 2, 3] (lo2 := [(0, .ref 6000), (1, .ref 0), (2, .ref 138), (3, .int x3)]) rfl ?_
        exact L_L_law_1910 C hX hb hnew hk18 x3 (gput (gput w e_shXM_shX_0 q252.2) e_shXM_shM_138 q253.2) hf
      · have hf := (if_neg hc254).symm.trans hf
        refine g_iconst C (gdec dt_L_law 1105 rfl) ic_0 ?_
        cases hf
    replace hf := (if_neg hc251).symm.trans hf
    by_cases hc255 : ((xs x3.toNatClampNeg) &&& (63 : Int32)) = (44 : Int32)
    · have hf := (if_pos hc255).symm.trans hf
      refine g_tableIn C (tgt := 1631) (off := 1598) (gdec dt_L_law 21 rfl) (by rw [hc255]; decide) (by rw [hc255]; decide) (by rw [hc255]; decide) (by decide) ?_
      refine g_aload_n C (gdec dt_L_law 1107 rfl) (i := 1) rfl rfl ?_
      obtain ⟨q256, hq256, hf⟩ := Option.bind_eq_some_iff.mp hf
      refine g_invVs e_shXM_shX_0 [] [] C (c_X10_comesFor l D cA _ (gInj_sub em_e_shXM_shX_0 (gCi C)) (gsub w e_shXM_shX_0)  q256 hq256) em_e_shXM_shX_0 (by decide) rfl kT_X10_comesFor kl_L_202 kim_X10_comesFor kse_X10_comesFor rfl rfl (i := 0) rfl rfl ⟨by decide, by decide⟩ ⟨Nat.le_refl _, Nat.le_refl _⟩ (Nat.le_of_ble_eq_true rfl) (gdec dt_L_law 1108 rfl) rfl (st2 := [.int q256.1]) (w2 := (gput w e_shXM_shX_0 q256.2)) rfl rfl ?_
      refine g_aload_n C (gdec dt_L_law 1109 rfl) (i := 2) rfl rfl ?_
      obtain ⟨q257, hq257, hf⟩ := Option.bind_eq_some_iff.mp hf
      refine g_invVs e_shXM_shM_138 [] [.int q256.1] C (c_X11_comesFor l D cA _ (gInj_sub em_e_shXM_shM_138 (gCi C)) (gsub (gput w e_shXM_shX_0 q256.2) e_shXM_shM_138)  q257 hq257) em_e_shXM_shM_138 (by decide) rfl kT_X11_comesFor kl_L_205 kim_X11_comesFor kse_X11_comesFor rfl rfl (i := 138) rfl rfl ⟨by decide, by decide⟩ ⟨Nat.le_refl _, Nat.le_refl _⟩ (Nat.le_of_ble_eq_true rfl) (gdec dt_L_law 1110 rfl) rfl (st2 := [.int q257.1, .int q256.1]) (w2 := (gput (gput w e_shXM_shX_0 q256.2) e_shXM_shM_138 q257.2)) rfl rfl ?_
      refine g_icmp_eq C (tgt := 1910) (gdec dt_L_law 1111 rfl) (by decide) (fun hc258 => ?_) (fun hc258 => ?_)
      · have hf := (if_pos hc258).symm.trans hf
        refine g_sub [0, 1, 2, 3] (lo2 := [(0, .ref 6000), (1, .ref 0), (2, .ref 138), (3, .int x3)]) rfl ?_
        exact L_L_law_1910 C hX hb hnew hk18 x3 (gput (gput w e_shXM_shX_0 q256.2) e_shXM_shM_138 q257.2) hf
      · have hf := (if_neg hc258).symm.trans hf
        refine g_iconst C (gdec dt_L_law 1112 rfl) ic_0 ?_
        cases hf
    replace hf := (if_neg hc255).symm.trans hf
    by_cases hc259 : ((xs x3.toNatClampNeg) &&& (63 : Int32)) = (45 : Int32)
    · have hf := (if_pos hc259).symm.trans hf
      refine g_tableIn C (tgt := 1644) (off := 1611) (gdec dt_L_law 21 rfl) (by rw [hc259]; decide) (by rw [hc259]; decide) (by rw [hc259]; decide) (by decide) ?_
      refine g_aload_n C (gdec dt_L_law 1114 rfl) (i := 1) rfl rfl ?_
      obtain ⟨q260, hq260, hf⟩ := Option.bind_eq_some_iff.mp hf
      refine g_invVs e_shXM_shX_0 [] [] C (c_X10_calms l D cA _ (gInj_sub em_e_shXM_shX_0 (gCi C)) (gsub w e_shXM_shX_0)  q260 hq260) em_e_shXM_shX_0 (by decide) rfl kT_X10_calms kl_L_206 kim_X10_calms kse_X10_calms rfl rfl (i := 0) rfl rfl ⟨by decide, by decide⟩ ⟨Nat.le_refl _, Nat.le_refl _⟩ (Nat.le_of_ble_eq_true rfl) (gdec dt_L_law 1115 rfl) rfl (st2 := [.int q260.1]) (w2 := (gput w e_shXM_shX_0 q260.2)) rfl rfl ?_
      refine g_aload_n C (gdec dt_L_law 1116 rfl) (i := 2) rfl rfl ?_
      obtain ⟨q261, hq261, hf⟩ := Option.bind_eq_some_iff.mp hf
      refine g_invVs e_shXM_shM_138 [] [.int q260.1] C (c_X11_calms l D cA _ (gInj_sub em_e_shXM_shM_138 (gCi C)) (gsub (gput w e_shXM_shX_0 q260.2) e_shXM_shM_138)  q261 hq261) em_e_shXM_shM_138 (by decide) rfl kT_X11_calms kl_L_209 kim_X11_calms kse_X11_calms rfl rfl (i := 138) rfl rfl ⟨by decide, by decide⟩ ⟨Nat.le_refl _, Nat.le_refl _⟩ (Nat.le_of_ble_eq_true rfl) (gdec dt_L_law 1117 rfl) rfl (st2 := [.int q261.1, .int q260.1]) (w2 := (gput (gput w e_shXM_shX_0 q260.2) e_shXM_shM_138 q261.2)) rfl rfl ?_
      refine g_icmp_eq C (tgt := 1910) (gdec dt_L_law 1118 rfl) (by decide) (fun hc262 => ?_) (fun hc262 => ?_)
      · have hf := (if_pos hc262).symm.trans hf
        refine g_sub [0, 1, 2, 3] (lo2 := [(0, .ref 6000), (1, .ref 0), (2, .ref 138), (3, .int x3)]) rfl ?_
        exact L_L_law_1910 C hX hb hnew hk18 x3 (gput (gput w e_shXM_shX_0 q260.2) e_shXM_shM_138 q261.2) hf
      · have hf := (if_neg hc262).symm.trans hf
        refine g_iconst C (gdec dt_L_law 1119 rfl) ic_0 ?_
        cases hf
    replace hf := (if_neg hc259).symm.trans hf
    by_cases hc263 : ((xs x3.toNatClampNeg) &&& (63 : Int32)) = (46 : Int32)
    · have hf := (if_pos hc263).symm.trans hf
      refine g_tableIn C (tgt := 1657) (off := 1624) (gdec dt_L_law 21 rfl) (by rw [hc263]; decide) (by rw [hc263]; decide) (by rw [hc263]; decide) (by decide) ?_
      refine g_aload_n C (gdec dt_L_law 1121 rfl) (i := 1) rfl rfl ?_
      obtain ⟨q264, hq264, hf⟩ := Option.bind_eq_some_iff.mp hf
      refine g_invVs e_shXM_shX_0 [] [] C (c_X10_calmSet l D cA _ (gInj_sub em_e_shXM_shX_0 (gCi C)) (gsub w e_shXM_shX_0)  q264 hq264) em_e_shXM_shX_0 (by decide) rfl kT_X10_calmSet kl_L_210 kim_X10_calmSet kse_X10_calmSet rfl rfl (i := 0) rfl rfl ⟨by decide, by decide⟩ ⟨Nat.le_refl _, Nat.le_refl _⟩ (Nat.le_of_ble_eq_true rfl) (gdec dt_L_law 1122 rfl) rfl (st2 := [.int q264.1]) (w2 := (gput w e_shXM_shX_0 q264.2)) rfl rfl ?_
      refine g_aload_n C (gdec dt_L_law 1123 rfl) (i := 2) rfl rfl ?_
      obtain ⟨q265, hq265, hf⟩ := Option.bind_eq_some_iff.mp hf
      refine g_invVs e_shXM_shM_138 [] [.int q264.1] C (c_X11_calmSet l D cA _ (gInj_sub em_e_shXM_shM_138 (gCi C)) (gsub (gput w e_shXM_shX_0 q264.2) e_shXM_shM_138)  q265 hq265) em_e_shXM_shM_138 (by decide) rfl kT_X11_calmSet kl_L_213 kim_X11_calmSet kse_X11_calmSet rfl rfl (i := 138) rfl rfl ⟨by decide, by decide⟩ ⟨Nat.le_refl _, Nat.le_refl _⟩ (Nat.le_of_ble_eq_true rfl) (gdec dt_L_law 1124 rfl) rfl (st2 := [.int q265.1, .int q264.1]) (w2 := (gput (gput w e_shXM_shX_0 q264.2) e_shXM_shM_138 q265.2)) rfl rfl ?_
      refine g_icmp_eq C (tgt := 1910) (gdec dt_L_law 1125 rfl) (by decide) (fun hc266 => ?_) (fun hc266 => ?_)
      · have hf := (if_pos hc266).symm.trans hf
        refine g_sub [0, 1, 2, 3] (lo2 := [(0, .ref 6000), (1, .ref 0), (2, .ref 138), (3, .int x3)]) rfl ?_
        exact L_L_law_1910 C hX hb hnew hk18 x3 (gput (gput w e_shXM_shX_0 q264.2) e_shXM_shM_138 q265.2) hf
      · have hf := (if_neg hc266).symm.trans hf
        refine g_iconst C (gdec dt_L_law 1126 rfl) ic_0 ?_
        cases hf
    replace hf := (if_neg hc263).symm.trans hf
    by_cases hc267 : ((xs x3.toNatClampNeg) &&& (63 : Int32)) = (47 : Int32)
    · have hf := (if_pos hc267).symm.trans hf
      refine g_tableIn C (tgt := 1670) (off := 1637) (gdec dt_L_law 21 rfl) (by rw [hc267]; decide) (by rw [hc267]; decide) (by rw [hc267]; decide) (by decide) ?_
      refine g_aload_n C (gdec dt_L_law 1128 rfl) (i := 1) rfl rfl ?_
      refine g_aload_n C (gdec dt_L_law 1129 rfl) (i := 0) rfl rfl ?_
      refine g_iload_n C (gdec dt_L_law 1130 rfl) (i := 3) rfl rfl ?_
      refine g_iconst C (gdec dt_L_law 1131 rfl) ic_1 ?_
      refine g_iadd C (gdec dt_L_law 1132 rfl) ?_
      obtain ⟨hg268, hf⟩ := gif hf
      refine g_sld0 C hX hb hg268 (gdec dt_L_law 1133 rfl) ?_
      refine g_aload_n C (gdec dt_L_law 1134 rfl) (i := 0) rfl rfl ?_
      refine g_iload_n C (gdec dt_L_law 1135 rfl) (i := 3) rfl rfl ?_
      refine g_iconst C (gdec dt_L_law 1136 rfl) ic_2 ?_
      refine g_iadd C (gdec dt_L_law 1137 rfl) ?_
      obtain ⟨hg269, hf⟩ := gif hf
      refine g_sld0 C hX hb hg269 (gdec dt_L_law 1138 rfl) ?_
      obtain ⟨q270, hq270, hf⟩ := Option.bind_eq_some_iff.mp hf
      refine g_invVs e_shXM_shX_0 [.int (xs (x3 + (1 : Int32)).toNatClampNeg), .int (xs (x3 + (2 : Int32)).toNatClampNeg)] [] C (c_X10_game l D cA _ (gInj_sub em_e_shXM_shX_0 (gCi C)) (gsub w e_shXM_shX_0) (xs (x3 + (1 : Int32)).toNatClampNeg) (xs (x3 + (2 : Int32)).toNatClampNeg) q270 hq270) em_e_shXM_shX_0 (by decide) rfl kT_X10_game kl_L_214 kim_X10_game kse_X10_game rfl rfl (i := 0) rfl rfl ⟨by decide, by decide⟩ ⟨Nat.le_refl _, Nat.le_refl _⟩ (Nat.le_of_ble_eq_true rfl) (gdec dt_L_law 1139 rfl) rfl (st2 := [.int q270.1]) (w2 := (gput w e_shXM_shX_0 q270.2)) rfl rfl ?_
      refine g_aload_n C (gdec dt_L_law 1140 rfl) (i := 2) rfl rfl ?_
      refine g_aload_n C (gdec dt_L_law 1141 rfl) (i := 0) rfl rfl ?_
      refine g_iload_n C (gdec dt_L_law 1142 rfl) (i := 3) rfl rfl ?_
      refine g_iconst C (gdec dt_L_law 1143 rfl) ic_1 ?_
      refine g_iadd C (gdec dt_L_law 1144 rfl) ?_
      refine g_sld0 C hX hb hg268 (gdec dt_L_law 1145 rfl) ?_
      refine g_aload_n C (gdec dt_L_law 1146 rfl) (i := 0) rfl rfl ?_
      refine g_iload_n C (gdec dt_L_law 1147 rfl) (i := 3) rfl rfl ?_
      refine g_iconst C (gdec dt_L_law 1148 rfl) ic_2 ?_
      refine g_iadd C (gdec dt_L_law 1149 rfl) ?_
      refine g_sld0 C hX hb hg269 (gdec dt_L_law 1150 rfl) ?_
      obtain ⟨q271, hq271, hf⟩ := Option.bind_eq_some_iff.mp hf
      refine g_invVs e_shXM_shM_138 [.int (xs (x3 + (1 : Int32)).toNatClampNeg), .int (xs (x3 + (2 : Int32)).toNatClampNeg)] [.int q270.1] C (c_X11_game l D cA _ (gInj_sub em_e_shXM_shM_138 (gCi C)) (gsub (gput w e_shXM_shX_0 q270.2) e_shXM_shM_138) (xs (x3 + (1 : Int32)).toNatClampNeg) (xs (x3 + (2 : Int32)).toNatClampNeg) q271 hq271) em_e_shXM_shM_138 (by decide) rfl kT_X11_game kl_L_217 kim_X11_game kse_X11_game rfl rfl (i := 138) rfl rfl ⟨by decide, by decide⟩ ⟨Nat.le_refl _, Nat.le_refl _⟩ (Nat.le_of_ble_eq_true rfl) (gdec dt_L_law 1151 rfl) rfl (st2 := [.int q271.1, .int q270.1]) (w2 := (gput (gput w e_shXM_shX_0 q270.2) e_shXM_shM_138 q271.2)) rfl rfl ?_
      refine g_icmp_eq C (tgt := 1910) (gdec dt_L_law 1152 rfl) (by decide) (fun hc272 => ?_) (fun hc272 => ?_)
      · have hf := (if_pos hc272).symm.trans hf
        refine g_sub [0, 1, 2, 3] (lo2 := [(0, .ref 6000), (1, .ref 0), (2, .ref 138), (3, .int x3)]) rfl ?_
        exact L_L_law_1910 C hX hb hnew hk18 x3 (gput (gput w e_shXM_shX_0 q270.2) e_shXM_shM_138 q271.2) hf
      · have hf := (if_neg hc272).symm.trans hf
        refine g_iconst C (gdec dt_L_law 1153 rfl) ic_0 ?_
        cases hf
    replace hf := (if_neg hc267).symm.trans hf
    by_cases hc273 : ((xs x3.toNatClampNeg) &&& (63 : Int32)) = (48 : Int32)
    · have hf := (if_pos hc273).symm.trans hf
      refine g_tableIn C (tgt := 1703) (off := 1670) (gdec dt_L_law 21 rfl) (by rw [hc273]; decide) (by rw [hc273]; decide) (by rw [hc273]; decide) (by decide) ?_
      refine g_aload_n C (gdec dt_L_law 1155 rfl) (i := 1) rfl rfl ?_
      refine g_aload_n C (gdec dt_L_law 1156 rfl) (i := 0) rfl rfl ?_
      refine g_iload_n C (gdec dt_L_law 1157 rfl) (i := 3) rfl rfl ?_
      refine g_iconst C (gdec dt_L_law 1158 rfl) ic_1 ?_
      refine g_iadd C (gdec dt_L_law 1159 rfl) ?_
      obtain ⟨hg274, hf⟩ := gif hf
      refine g_sld0 C hX hb hg274 (gdec dt_L_law 1160 rfl) ?_
      refine g_aload_n C (gdec dt_L_law 1161 rfl) (i := 0) rfl rfl ?_
      refine g_iload_n C (gdec dt_L_law 1162 rfl) (i := 3) rfl rfl ?_
      refine g_iconst C (gdec dt_L_law 1163 rfl) ic_2 ?_
      refine g_iadd C (gdec dt_L_law 1164 rfl) ?_
      obtain ⟨hg275, hf⟩ := gif hf
      refine g_sld0 C hX hb hg275 (gdec dt_L_law 1165 rfl) ?_
      obtain ⟨q276, hq276, hf⟩ := Option.bind_eq_some_iff.mp hf
      refine g_invVs e_shXM_shX_0 [.int (xs (x3 + (1 : Int32)).toNatClampNeg), .int (xs (x3 + (2 : Int32)).toNatClampNeg)] [] C (c_X10_who l D cA _ (gInj_sub em_e_shXM_shX_0 (gCi C)) (gsub w e_shXM_shX_0) (xs (x3 + (1 : Int32)).toNatClampNeg) (xs (x3 + (2 : Int32)).toNatClampNeg) q276 hq276) em_e_shXM_shX_0 (by decide) rfl kT_X10_who kl_L_218 kim_X10_who kse_X10_who rfl rfl (i := 0) rfl rfl ⟨by decide, by decide⟩ ⟨Nat.le_refl _, Nat.le_refl _⟩ (Nat.le_of_ble_eq_true rfl) (gdec dt_L_law 1166 rfl) rfl (st2 := [.int q276.1]) (w2 := (gput w e_shXM_shX_0 q276.2)) rfl rfl ?_
      refine g_aload_n C (gdec dt_L_law 1167 rfl) (i := 2) rfl rfl ?_
      refine g_aload_n C (gdec dt_L_law 1168 rfl) (i := 0) rfl rfl ?_
      refine g_iload_n C (gdec dt_L_law 1169 rfl) (i := 3) rfl rfl ?_
      refine g_iconst C (gdec dt_L_law 1170 rfl) ic_1 ?_
      refine g_iadd C (gdec dt_L_law 1171 rfl) ?_
      refine g_sld0 C hX hb hg274 (gdec dt_L_law 1172 rfl) ?_
      refine g_aload_n C (gdec dt_L_law 1173 rfl) (i := 0) rfl rfl ?_
      refine g_iload_n C (gdec dt_L_law 1174 rfl) (i := 3) rfl rfl ?_
      refine g_iconst C (gdec dt_L_law 1175 rfl) ic_2 ?_
      refine g_iadd C (gdec dt_L_law 1176 rfl) ?_
      refine g_sld0 C hX hb hg275 (gdec dt_L_law 1177 rfl) ?_
      obtain ⟨q277, hq277, hf⟩ := Option.bind_eq_some_iff.mp hf
      refine g_invVs e_shXM_shM_138 [.int (xs (x3 + (1 : Int32)).toNatClampNeg), .int (xs (x3 + (2 : Int32)).toNatClampNeg)] [.int q276.1] C (c_X11_who l D cA _ (gInj_sub em_e_shXM_shM_138 (gCi C)) (gsub (gput w e_shXM_shX_0 q276.2) e_shXM_shM_138) (xs (x3 + (1 : Int32)).toNatClampNeg) (xs (x3 + (2 : Int32)).toNatClampNeg) q277 hq277) em_e_shXM_shM_138 (by decide) rfl kT_X11_who kl_L_221 kim_X11_who kse_X11_who rfl rfl (i := 138) rfl rfl ⟨by decide, by decide⟩ ⟨Nat.le_refl _, Nat.le_refl _⟩ (Nat.le_of_ble_eq_true rfl) (gdec dt_L_law 1178 rfl) rfl (st2 := [.int q277.1, .int q276.1]) (w2 := (gput (gput w e_shXM_shX_0 q276.2) e_shXM_shM_138 q277.2)) rfl rfl ?_
      refine g_icmp_eq C (tgt := 1910) (gdec dt_L_law 1179 rfl) (by decide) (fun hc278 => ?_) (fun hc278 => ?_)
      · have hf := (if_pos hc278).symm.trans hf
        refine g_sub [0, 1, 2, 3] (lo2 := [(0, .ref 6000), (1, .ref 0), (2, .ref 138), (3, .int x3)]) rfl ?_
        exact L_L_law_1910 C hX hb hnew hk18 x3 (gput (gput w e_shXM_shX_0 q276.2) e_shXM_shM_138 q277.2) hf
      · have hf := (if_neg hc278).symm.trans hf
        refine g_iconst C (gdec dt_L_law 1180 rfl) ic_0 ?_
        cases hf
    replace hf := (if_neg hc273).symm.trans hf
    by_cases hc279 : ((xs x3.toNatClampNeg) &&& (63 : Int32)) = (49 : Int32)
    · have hf := (if_pos hc279).symm.trans hf
      refine g_tableIn C (tgt := 1736) (off := 1703) (gdec dt_L_law 21 rfl) (by rw [hc279]; decide) (by rw [hc279]; decide) (by rw [hc279]; decide) (by decide) ?_
      refine g_aload_n C (gdec dt_L_law 1182 rfl) (i := 1) rfl rfl ?_
      refine g_aload_n C (gdec dt_L_law 1183 rfl) (i := 0) rfl rfl ?_
      refine g_iload_n C (gdec dt_L_law 1184 rfl) (i := 3) rfl rfl ?_
      refine g_iconst C (gdec dt_L_law 1185 rfl) ic_1 ?_
      refine g_iadd C (gdec dt_L_law 1186 rfl) ?_
      obtain ⟨hg280, hf⟩ := gif hf
      refine g_sld0 C hX hb hg280 (gdec dt_L_law 1187 rfl) ?_
      obtain ⟨q281, hq281, hf⟩ := Option.bind_eq_some_iff.mp hf
      refine g_invVs e_shXM_shX_0 [.int (xs (x3 + (1 : Int32)).toNatClampNeg)] [] C (c_X10_shams l D cA _ (gInj_sub em_e_shXM_shX_0 (gCi C)) (gsub w e_shXM_shX_0) (xs (x3 + (1 : Int32)).toNatClampNeg) q281 hq281) em_e_shXM_shX_0 (by decide) rfl kT_X10_shams kl_L_222 kim_X10_shams kse_X10_shams rfl rfl (i := 0) rfl rfl ⟨by decide, by decide⟩ ⟨Nat.le_refl _, Nat.le_refl _⟩ (Nat.le_of_ble_eq_true rfl) (gdec dt_L_law 1188 rfl) rfl (st2 := [.int q281.1]) (w2 := (gput w e_shXM_shX_0 q281.2)) rfl rfl ?_
      refine g_aload_n C (gdec dt_L_law 1189 rfl) (i := 2) rfl rfl ?_
      refine g_aload_n C (gdec dt_L_law 1190 rfl) (i := 0) rfl rfl ?_
      refine g_iload_n C (gdec dt_L_law 1191 rfl) (i := 3) rfl rfl ?_
      refine g_iconst C (gdec dt_L_law 1192 rfl) ic_1 ?_
      refine g_iadd C (gdec dt_L_law 1193 rfl) ?_
      refine g_sld0 C hX hb hg280 (gdec dt_L_law 1194 rfl) ?_
      obtain ⟨q282, hq282, hf⟩ := Option.bind_eq_some_iff.mp hf
      refine g_invVs e_shXM_shM_138 [.int (xs (x3 + (1 : Int32)).toNatClampNeg)] [.int q281.1] C (c_X11_shams l D cA _ (gInj_sub em_e_shXM_shM_138 (gCi C)) (gsub (gput w e_shXM_shX_0 q281.2) e_shXM_shM_138) (xs (x3 + (1 : Int32)).toNatClampNeg) q282 hq282) em_e_shXM_shM_138 (by decide) rfl kT_X11_shams kl_L_226 kim_X11_shams kse_X11_shams rfl rfl (i := 138) rfl rfl ⟨by decide, by decide⟩ ⟨Nat.le_refl _, Nat.le_refl _⟩ (Nat.le_of_ble_eq_true rfl) (gdec dt_L_law 1195 rfl) rfl (st2 := [.int q282.1, .int q281.1]) (w2 := (gput (gput w e_shXM_shX_0 q281.2) e_shXM_shM_138 q282.2)) rfl rfl ?_
      refine g_icmp_eq C (tgt := 1910) (gdec dt_L_law 1196 rfl) (by decide) (fun hc283 => ?_) (fun hc283 => ?_)
      · have hf := (if_pos hc283).symm.trans hf
        refine g_sub [0, 1, 2, 3] (lo2 := [(0, .ref 6000), (1, .ref 0), (2, .ref 138), (3, .int x3)]) rfl ?_
        exact L_L_law_1910 C hX hb hnew hk18 x3 (gput (gput w e_shXM_shX_0 q281.2) e_shXM_shM_138 q282.2) hf
      · have hf := (if_neg hc283).symm.trans hf
        refine g_iconst C (gdec dt_L_law 1197 rfl) ic_0 ?_
        cases hf
    replace hf := (if_neg hc279).symm.trans hf
    by_cases hc284 : ((xs x3.toNatClampNeg) &&& (63 : Int32)) = (50 : Int32)
    · have hf := (if_pos hc284).symm.trans hf
      refine g_tableIn C (tgt := 1759) (off := 1726) (gdec dt_L_law 21 rfl) (by rw [hc284]; decide) (by rw [hc284]; decide) (by rw [hc284]; decide) (by decide) ?_
      refine g_aload_n C (gdec dt_L_law 1199 rfl) (i := 1) rfl rfl ?_
      refine g_aload_n C (gdec dt_L_law 1200 rfl) (i := 0) rfl rfl ?_
      refine g_iload_n C (gdec dt_L_law 1201 rfl) (i := 3) rfl rfl ?_
      refine g_iconst C (gdec dt_L_law 1202 rfl) ic_1 ?_
      refine g_iadd C (gdec dt_L_law 1203 rfl) ?_
      obtain ⟨hg285, hf⟩ := gif hf
      refine g_sld0 C hX hb hg285 (gdec dt_L_law 1204 rfl) ?_
      obtain ⟨q286, hq286, hf⟩ := Option.bind_eq_some_iff.mp hf
      refine g_invVs e_shXM_shX_0 [.int (xs (x3 + (1 : Int32)).toNatClampNeg)] [] C (c_X10_share l D cA _ (gInj_sub em_e_shXM_shX_0 (gCi C)) (gsub w e_shXM_shX_0) (xs (x3 + (1 : Int32)).toNatClampNeg) q286 hq286) em_e_shXM_shX_0 (by decide) rfl kT_X10_share kl_L_227 kim_X10_share kse_X10_share rfl rfl (i := 0) rfl rfl ⟨by decide, by decide⟩ ⟨Nat.le_refl _, Nat.le_refl _⟩ (Nat.le_of_ble_eq_true rfl) (gdec dt_L_law 1205 rfl) rfl (st2 := [.int q286.1]) (w2 := (gput w e_shXM_shX_0 q286.2)) rfl rfl ?_
      refine g_aload_n C (gdec dt_L_law 1206 rfl) (i := 2) rfl rfl ?_
      refine g_aload_n C (gdec dt_L_law 1207 rfl) (i := 0) rfl rfl ?_
      refine g_iload_n C (gdec dt_L_law 1208 rfl) (i := 3) rfl rfl ?_
      refine g_iconst C (gdec dt_L_law 1209 rfl) ic_1 ?_
      refine g_iadd C (gdec dt_L_law 1210 rfl) ?_
      refine g_sld0 C hX hb hg285 (gdec dt_L_law 1211 rfl) ?_
      obtain ⟨q287, hq287, hf⟩ := Option.bind_eq_some_iff.mp hf
      refine g_invVs e_shXM_shM_138 [.int (xs (x3 + (1 : Int32)).toNatClampNeg)] [.int q286.1] C (c_X11_share l D cA _ (gInj_sub em_e_shXM_shM_138 (gCi C)) (gsub (gput w e_shXM_shX_0 q286.2) e_shXM_shM_138) (xs (x3 + (1 : Int32)).toNatClampNeg) q287 hq287) em_e_shXM_shM_138 (by decide) rfl kT_X11_share kl_L_230 kim_X11_share kse_X11_share rfl rfl (i := 138) rfl rfl ⟨by decide, by decide⟩ ⟨Nat.le_refl _, Nat.le_refl _⟩ (Nat.le_of_ble_eq_true rfl) (gdec dt_L_law 1212 rfl) rfl (st2 := [.int q287.1, .int q286.1]) (w2 := (gput (gput w e_shXM_shX_0 q286.2) e_shXM_shM_138 q287.2)) rfl rfl ?_
      refine g_icmp_eq C (tgt := 1910) (gdec dt_L_law 1213 rfl) (by decide) (fun hc288 => ?_) (fun hc288 => ?_)
      · have hf := (if_pos hc288).symm.trans hf
        refine g_sub [0, 1, 2, 3] (lo2 := [(0, .ref 6000), (1, .ref 0), (2, .ref 138), (3, .int x3)]) rfl ?_
        exact L_L_law_1910 C hX hb hnew hk18 x3 (gput (gput w e_shXM_shX_0 q286.2) e_shXM_shM_138 q287.2) hf
      · have hf := (if_neg hc288).symm.trans hf
        refine g_iconst C (gdec dt_L_law 1214 rfl) ic_0 ?_
        cases hf
    replace hf := (if_neg hc284).symm.trans hf
    by_cases hc289 : ((xs x3.toNatClampNeg) &&& (63 : Int32)) = (51 : Int32)
    · have hf := (if_pos hc289).symm.trans hf
      refine g_tableIn C (tgt := 1782) (off := 1749) (gdec dt_L_law 21 rfl) (by rw [hc289]; decide) (by rw [hc289]; decide) (by rw [hc289]; decide) (by decide) ?_
      refine g_aload_n C (gdec dt_L_law 1216 rfl) (i := 1) rfl rfl ?_
      refine g_aload_n C (gdec dt_L_law 1217 rfl) (i := 0) rfl rfl ?_
      refine g_iload_n C (gdec dt_L_law 1218 rfl) (i := 3) rfl rfl ?_
      refine g_iconst C (gdec dt_L_law 1219 rfl) ic_1 ?_
      refine g_iadd C (gdec dt_L_law 1220 rfl) ?_
      obtain ⟨hg290, hf⟩ := gif hf
      refine g_sld0 C hX hb hg290 (gdec dt_L_law 1221 rfl) ?_
      obtain ⟨q291, hq291, hf⟩ := Option.bind_eq_some_iff.mp hf
      refine g_invVs e_shXM_shX_0 [.int (xs (x3 + (1 : Int32)).toNatClampNeg)] [] C (c_X10_copyGrey l D cA _ (gInj_sub em_e_shXM_shX_0 (gCi C)) (gsub w e_shXM_shX_0) (xs (x3 + (1 : Int32)).toNatClampNeg) q291 hq291) em_e_shXM_shX_0 (by decide) rfl kT_X10_copyGrey kl_L_231 kim_X10_copyGrey kse_X10_copyGrey rfl rfl (i := 0) rfl rfl ⟨by decide, by decide⟩ ⟨Nat.le_refl _, Nat.le_refl _⟩ (Nat.le_of_ble_eq_true rfl) (gdec dt_L_law 1222 rfl) rfl (st2 := [.int q291.1]) (w2 := (gput w e_shXM_shX_0 q291.2)) rfl rfl ?_
      refine g_aload_n C (gdec dt_L_law 1223 rfl) (i := 2) rfl rfl ?_
      refine g_aload_n C (gdec dt_L_law 1224 rfl) (i := 0) rfl rfl ?_
      refine g_iload_n C (gdec dt_L_law 1225 rfl) (i := 3) rfl rfl ?_
      refine g_iconst C (gdec dt_L_law 1226 rfl) ic_1 ?_
      refine g_iadd C (gdec dt_L_law 1227 rfl) ?_
      refine g_sld0 C hX hb hg290 (gdec dt_L_law 1228 rfl) ?_
      obtain ⟨q292, hq292, hf⟩ := Option.bind_eq_some_iff.mp hf
      refine g_invVs e_shXM_shM_138 [.int (xs (x3 + (1 : Int32)).toNatClampNeg)] [.int q291.1] C (c_X11_copyGrey l D cA _ (gInj_sub em_e_shXM_shM_138 (gCi C)) (gsub (gput w e_shXM_shX_0 q291.2) e_shXM_shM_138) (xs (x3 + (1 : Int32)).toNatClampNeg) q292 hq292) em_e_shXM_shM_138 (by decide) rfl kT_X11_copyGrey kl_L_234 kim_X11_copyGrey kse_X11_copyGrey rfl rfl (i := 138) rfl rfl ⟨by decide, by decide⟩ ⟨Nat.le_refl _, Nat.le_refl _⟩ (Nat.le_of_ble_eq_true rfl) (gdec dt_L_law 1229 rfl) rfl (st2 := [.int q292.1, .int q291.1]) (w2 := (gput (gput w e_shXM_shX_0 q291.2) e_shXM_shM_138 q292.2)) rfl rfl ?_
      refine g_icmp_eq C (tgt := 1910) (gdec dt_L_law 1230 rfl) (by decide) (fun hc293 => ?_) (fun hc293 => ?_)
      · have hf := (if_pos hc293).symm.trans hf
        refine g_sub [0, 1, 2, 3] (lo2 := [(0, .ref 6000), (1, .ref 0), (2, .ref 138), (3, .int x3)]) rfl ?_
        exact L_L_law_1910 C hX hb hnew hk18 x3 (gput (gput w e_shXM_shX_0 q291.2) e_shXM_shM_138 q292.2) hf
      · have hf := (if_neg hc293).symm.trans hf
        refine g_iconst C (gdec dt_L_law 1231 rfl) ic_0 ?_
        cases hf
    replace hf := (if_neg hc289).symm.trans hf
    by_cases hc294 : ((xs x3.toNatClampNeg) &&& (63 : Int32)) = (52 : Int32)
    · have hf := (if_pos hc294).symm.trans hf
      refine g_tableIn C (tgt := 1805) (off := 1772) (gdec dt_L_law 21 rfl) (by rw [hc294]; decide) (by rw [hc294]; decide) (by rw [hc294]; decide) (by decide) ?_
      refine g_aload_n C (gdec dt_L_law 1233 rfl) (i := 1) rfl rfl ?_
      refine g_aload_n C (gdec dt_L_law 1234 rfl) (i := 0) rfl rfl ?_
      refine g_iload_n C (gdec dt_L_law 1235 rfl) (i := 3) rfl rfl ?_
      refine g_iconst C (gdec dt_L_law 1236 rfl) ic_1 ?_
      refine g_iadd C (gdec dt_L_law 1237 rfl) ?_
      obtain ⟨hg295, hf⟩ := gif hf
      refine g_sld0 C hX hb hg295 (gdec dt_L_law 1238 rfl) ?_
      obtain ⟨q296, hq296, hf⟩ := Option.bind_eq_some_iff.mp hf
      refine g_invVs e_shXM_shX_0 [.int (xs (x3 + (1 : Int32)).toNatClampNeg)] [] C (c_X10_live l D cA _ (gInj_sub em_e_shXM_shX_0 (gCi C)) (gsub w e_shXM_shX_0) (xs (x3 + (1 : Int32)).toNatClampNeg) q296 hq296) em_e_shXM_shX_0 (by decide) rfl kT_X10_live kl_L_235 kim_X10_live kse_X10_live rfl rfl (i := 0) rfl rfl ⟨by decide, by decide⟩ ⟨Nat.le_refl _, Nat.le_refl _⟩ (Nat.le_of_ble_eq_true rfl) (gdec dt_L_law 1239 rfl) rfl (st2 := [.int q296.1]) (w2 := (gput w e_shXM_shX_0 q296.2)) rfl rfl ?_
      refine g_aload_n C (gdec dt_L_law 1240 rfl) (i := 2) rfl rfl ?_
      refine g_aload_n C (gdec dt_L_law 1241 rfl) (i := 0) rfl rfl ?_
      refine g_iload_n C (gdec dt_L_law 1242 rfl) (i := 3) rfl rfl ?_
      refine g_iconst C (gdec dt_L_law 1243 rfl) ic_1 ?_
      refine g_iadd C (gdec dt_L_law 1244 rfl) ?_
      refine g_sld0 C hX hb hg295 (gdec dt_L_law 1245 rfl) ?_
      obtain ⟨q297, hq297, hf⟩ := Option.bind_eq_some_iff.mp hf
      refine g_invVs e_shXM_shM_138 [.int (xs (x3 + (1 : Int32)).toNatClampNeg)] [.int q296.1] C (c_X11_live l D cA _ (gInj_sub em_e_shXM_shM_138 (gCi C)) (gsub (gput w e_shXM_shX_0 q296.2) e_shXM_shM_138) (xs (x3 + (1 : Int32)).toNatClampNeg) q297 hq297) em_e_shXM_shM_138 (by decide) rfl kT_X11_live kl_L_238 kim_X11_live kse_X11_live rfl rfl (i := 138) rfl rfl ⟨by decide, by decide⟩ ⟨Nat.le_refl _, Nat.le_refl _⟩ (Nat.le_of_ble_eq_true rfl) (gdec dt_L_law 1246 rfl) rfl (st2 := [.int q297.1, .int q296.1]) (w2 := (gput (gput w e_shXM_shX_0 q296.2) e_shXM_shM_138 q297.2)) rfl rfl ?_
      refine g_icmp_eq C (tgt := 1910) (gdec dt_L_law 1247 rfl) (by decide) (fun hc298 => ?_) (fun hc298 => ?_)
      · have hf := (if_pos hc298).symm.trans hf
        refine g_sub [0, 1, 2, 3] (lo2 := [(0, .ref 6000), (1, .ref 0), (2, .ref 138), (3, .int x3)]) rfl ?_
        exact L_L_law_1910 C hX hb hnew hk18 x3 (gput (gput w e_shXM_shX_0 q296.2) e_shXM_shM_138 q297.2) hf
      · have hf := (if_neg hc298).symm.trans hf
        refine g_iconst C (gdec dt_L_law 1248 rfl) ic_0 ?_
        cases hf
    replace hf := (if_neg hc294).symm.trans hf
    by_cases hc299 : ((xs x3.toNatClampNeg) &&& (63 : Int32)) = (53 : Int32)
    · have hf := (if_pos hc299).symm.trans hf
      refine g_tableIn C (tgt := 1828) (off := 1795) (gdec dt_L_law 21 rfl) (by rw [hc299]; decide) (by rw [hc299]; decide) (by rw [hc299]; decide) (by decide) ?_
      refine g_aload_n C (gdec dt_L_law 1250 rfl) (i := 1) rfl rfl ?_
      refine g_aload_n C (gdec dt_L_law 1251 rfl) (i := 0) rfl rfl ?_
      refine g_iload_n C (gdec dt_L_law 1252 rfl) (i := 3) rfl rfl ?_
      refine g_iconst C (gdec dt_L_law 1253 rfl) ic_1 ?_
      refine g_iadd C (gdec dt_L_law 1254 rfl) ?_
      obtain ⟨hg300, hf⟩ := gif hf
      refine g_sld0 C hX hb hg300 (gdec dt_L_law 1255 rfl) ?_
      obtain ⟨q301, hq301, hf⟩ := Option.bind_eq_some_iff.mp hf
      refine g_invVs e_shXM_shX_0 [.int (xs (x3 + (1 : Int32)).toNatClampNeg)] [] C (c_X10_lived l D cA _ (gInj_sub em_e_shXM_shX_0 (gCi C)) (gsub w e_shXM_shX_0) (xs (x3 + (1 : Int32)).toNatClampNeg) q301 hq301) em_e_shXM_shX_0 (by decide) rfl kT_X10_lived kl_L_239 kim_X10_lived kse_X10_lived rfl rfl (i := 0) rfl rfl ⟨by decide, by decide⟩ ⟨Nat.le_refl _, Nat.le_refl _⟩ (Nat.le_of_ble_eq_true rfl) (gdec dt_L_law 1256 rfl) rfl (st2 := [.int q301.1]) (w2 := (gput w e_shXM_shX_0 q301.2)) rfl rfl ?_
      refine g_aload_n C (gdec dt_L_law 1257 rfl) (i := 2) rfl rfl ?_
      refine g_aload_n C (gdec dt_L_law 1258 rfl) (i := 0) rfl rfl ?_
      refine g_iload_n C (gdec dt_L_law 1259 rfl) (i := 3) rfl rfl ?_
      refine g_iconst C (gdec dt_L_law 1260 rfl) ic_1 ?_
      refine g_iadd C (gdec dt_L_law 1261 rfl) ?_
      refine g_sld0 C hX hb hg300 (gdec dt_L_law 1262 rfl) ?_
      obtain ⟨q302, hq302, hf⟩ := Option.bind_eq_some_iff.mp hf
      refine g_invVs e_shXM_shM_138 [.int (xs (x3 + (1 : Int32)).toNatClampNeg)] [.int q301.1] C (c_X11_lived l D cA _ (gInj_sub em_e_shXM_shM_138 (gCi C)) (gsub (gput w e_shXM_shX_0 q301.2) e_shXM_shM_138) (xs (x3 + (1 : Int32)).toNatClampNeg) q302 hq302) em_e_shXM_shM_138 (by decide) rfl kT_X11_lived kl_L_242 kim_X11_lived kse_X11_lived rfl rfl (i := 138) rfl rfl ⟨by decide, by decide⟩ ⟨Nat.le_refl _, Nat.le_refl _⟩ (Nat.le_of_ble_eq_true rfl) (gdec dt_L_law 1263 rfl) rfl (st2 := [.int q302.1, .int q301.1]) (w2 := (gput (gput w e_shXM_shX_0 q301.2) e_shXM_shM_138 q302.2)) rfl rfl ?_
      refine g_icmp_eq C (tgt := 1910) (gdec dt_L_law 1264 rfl) (by decide) (fun hc303 => ?_) (fun hc303 => ?_)
      · have hf := (if_pos hc303).symm.trans hf
        refine g_sub [0, 1, 2, 3] (lo2 := [(0, .ref 6000), (1, .ref 0), (2, .ref 138), (3, .int x3)]) rfl ?_
        exact L_L_law_1910 C hX hb hnew hk18 x3 (gput (gput w e_shXM_shX_0 q301.2) e_shXM_shM_138 q302.2) hf
      · have hf := (if_neg hc303).symm.trans hf
        refine g_iconst C (gdec dt_L_law 1265 rfl) ic_0 ?_
        cases hf
    replace hf := (if_neg hc299).symm.trans hf
    by_cases hc304 : ((xs x3.toNatClampNeg) &&& (63 : Int32)) = (54 : Int32)
    · have hf := (if_pos hc304).symm.trans hf
      refine g_tableIn C (tgt := 1851) (off := 1818) (gdec dt_L_law 21 rfl) (by rw [hc304]; decide) (by rw [hc304]; decide) (by rw [hc304]; decide) (by decide) ?_
      refine g_aload_n C (gdec dt_L_law 1267 rfl) (i := 1) rfl rfl ?_
      refine g_aload_n C (gdec dt_L_law 1268 rfl) (i := 0) rfl rfl ?_
      refine g_iload_n C (gdec dt_L_law 1269 rfl) (i := 3) rfl rfl ?_
      refine g_iconst C (gdec dt_L_law 1270 rfl) ic_1 ?_
      refine g_iadd C (gdec dt_L_law 1271 rfl) ?_
      obtain ⟨hg305, hf⟩ := gif hf
      refine g_sld0 C hX hb hg305 (gdec dt_L_law 1272 rfl) ?_
      refine g_aload_n C (gdec dt_L_law 1273 rfl) (i := 0) rfl rfl ?_
      refine g_iload_n C (gdec dt_L_law 1274 rfl) (i := 3) rfl rfl ?_
      refine g_iconst C (gdec dt_L_law 1275 rfl) ic_2 ?_
      refine g_iadd C (gdec dt_L_law 1276 rfl) ?_
      obtain ⟨hg306, hf⟩ := gif hf
      refine g_sld0 C hX hb hg306 (gdec dt_L_law 1277 rfl) ?_
      obtain ⟨q307, hq307, hf⟩ := Option.bind_eq_some_iff.mp hf
      refine g_invVs e_shXM_shX_0 [.int (xs (x3 + (1 : Int32)).toNatClampNeg), .int (xs (x3 + (2 : Int32)).toNatClampNeg)] [] C (c_X10_mean l D cA _ (gInj_sub em_e_shXM_shX_0 (gCi C)) (gsub w e_shXM_shX_0) (xs (x3 + (1 : Int32)).toNatClampNeg) (xs (x3 + (2 : Int32)).toNatClampNeg) q307 hq307) em_e_shXM_shX_0 (by decide) rfl kT_X10_mean kl_L_243 kim_X10_mean kse_X10_mean rfl rfl (i := 0) rfl rfl ⟨by decide, by decide⟩ ⟨Nat.le_refl _, Nat.le_refl _⟩ (Nat.le_of_ble_eq_true rfl) (gdec dt_L_law 1278 rfl) rfl (st2 := [.int q307.1]) (w2 := (gput w e_shXM_shX_0 q307.2)) rfl rfl ?_
      refine g_aload_n C (gdec dt_L_law 1279 rfl) (i := 2) rfl rfl ?_
      refine g_aload_n C (gdec dt_L_law 1280 rfl) (i := 0) rfl rfl ?_
      refine g_iload_n C (gdec dt_L_law 1281 rfl) (i := 3) rfl rfl ?_
      refine g_iconst C (gdec dt_L_law 1282 rfl) ic_1 ?_
      refine g_iadd C (gdec dt_L_law 1283 rfl) ?_
      refine g_sld0 C hX hb hg305 (gdec dt_L_law 1284 rfl) ?_
      refine g_aload_n C (gdec dt_L_law 1285 rfl) (i := 0) rfl rfl ?_
      refine g_iload_n C (gdec dt_L_law 1286 rfl) (i := 3) rfl rfl ?_
      refine g_iconst C (gdec dt_L_law 1287 rfl) ic_2 ?_
      refine g_iadd C (gdec dt_L_law 1288 rfl) ?_
      refine g_sld0 C hX hb hg306 (gdec dt_L_law 1289 rfl) ?_
      obtain ⟨q308, hq308, hf⟩ := Option.bind_eq_some_iff.mp hf
      refine g_invVs e_shXM_shM_138 [.int (xs (x3 + (1 : Int32)).toNatClampNeg), .int (xs (x3 + (2 : Int32)).toNatClampNeg)] [.int q307.1] C (c_X11_mean l D cA _ (gInj_sub em_e_shXM_shM_138 (gCi C)) (gsub (gput w e_shXM_shX_0 q307.2) e_shXM_shM_138) (xs (x3 + (1 : Int32)).toNatClampNeg) (xs (x3 + (2 : Int32)).toNatClampNeg) q308 hq308) em_e_shXM_shM_138 (by decide) rfl kT_X11_mean kl_L_246 kim_X11_mean kse_X11_mean rfl rfl (i := 138) rfl rfl ⟨by decide, by decide⟩ ⟨Nat.le_refl _, Nat.le_refl _⟩ (Nat.le_of_ble_eq_true rfl) (gdec dt_L_law 1290 rfl) rfl (st2 := [.int q308.1, .int q307.1]) (w2 := (gput (gput w e_shXM_shX_0 q307.2) e_shXM_shM_138 q308.2)) rfl rfl ?_
      refine g_icmp_eq C (tgt := 1910) (gdec dt_L_law 1291 rfl) (by decide) (fun hc309 => ?_) (fun hc309 => ?_)
      · have hf := (if_pos hc309).symm.trans hf
        refine g_sub [0, 1, 2, 3] (lo2 := [(0, .ref 6000), (1, .ref 0), (2, .ref 138), (3, .int x3)]) rfl ?_
        exact L_L_law_1910 C hX hb hnew hk18 x3 (gput (gput w e_shXM_shX_0 q307.2) e_shXM_shM_138 q308.2) hf
      · have hf := (if_neg hc309).symm.trans hf
        refine g_iconst C (gdec dt_L_law 1292 rfl) ic_0 ?_
        cases hf
    replace hf := (if_neg hc304).symm.trans hf
    by_cases hc310 : ((xs x3.toNatClampNeg) &&& (63 : Int32)) = (55 : Int32)
    · have hf := (if_pos hc310).symm.trans hf
      refine g_tableIn C (tgt := 1884) (off := 1851) (gdec dt_L_law 21 rfl) (by rw [hc310]; decide) (by rw [hc310]; decide) (by rw [hc310]; decide) (by decide) ?_
      refine g_aload_n C (gdec dt_L_law 1294 rfl) (i := 1) rfl rfl ?_
      obtain ⟨q311, hq311, hf⟩ := Option.bind_eq_some_iff.mp hf
      refine g_invVs e_shXM_shX_0 [] [] C (c_X10_mark l D cA _ (gInj_sub em_e_shXM_shX_0 (gCi C)) (gsub w e_shXM_shX_0)  q311 hq311) em_e_shXM_shX_0 (by decide) rfl kT_X10_mark kl_L_247 kim_X10_mark kse_X10_mark rfl rfl (i := 0) rfl rfl ⟨by decide, by decide⟩ ⟨Nat.le_refl _, Nat.le_refl _⟩ (Nat.le_of_ble_eq_true rfl) (gdec dt_L_law 1295 rfl) rfl (st2 := [.int q311.1]) (w2 := (gput w e_shXM_shX_0 q311.2)) rfl rfl ?_
      refine g_aload_n C (gdec dt_L_law 1296 rfl) (i := 2) rfl rfl ?_
      obtain ⟨q312, hq312, hf⟩ := Option.bind_eq_some_iff.mp hf
      refine g_invVs e_shXM_shM_138 [] [.int q311.1] C (c_X11_mark l D cA _ (gInj_sub em_e_shXM_shM_138 (gCi C)) (gsub (gput w e_shXM_shX_0 q311.2) e_shXM_shM_138)  q312 hq312) em_e_shXM_shM_138 (by decide) rfl kT_X11_mark kl_L_250 kim_X11_mark kse_X11_mark rfl rfl (i := 138) rfl rfl ⟨by decide, by decide⟩ ⟨Nat.le_refl _, Nat.le_refl _⟩ (Nat.le_of_ble_eq_true rfl) (gdec dt_L_law 1297 rfl) rfl (st2 := [.int q312.1, .int q311.1]) (w2 := (gput (gput w e_shXM_shX_0 q311.2) e_shXM_shM_138 q312.2)) rfl rfl ?_
      refine g_icmp_eq C (tgt := 1910) (gdec dt_L_law 1298 rfl) (by decide) (fun hc313 => ?_) (fun hc313 => ?_)
      · have hf := (if_pos hc313).symm.trans hf
        refine g_sub [0, 1, 2, 3] (lo2 := [(0, .ref 6000), (1, .ref 0), (2, .ref 138), (3, .int x3)]) rfl ?_
        exact L_L_law_1910 C hX hb hnew hk18 x3 (gput (gput w e_shXM_shX_0 q311.2) e_shXM_shM_138 q312.2) hf
      · have hf := (if_neg hc313).symm.trans hf
        refine g_iconst C (gdec dt_L_law 1299 rfl) ic_0 ?_
        cases hf
    replace hf := (if_neg hc310).symm.trans hf
    by_cases hc314 : ((xs x3.toNatClampNeg) &&& (63 : Int32)) = (56 : Int32)
    · have hf := (if_pos hc314).symm.trans hf
      refine g_tableIn C (tgt := 1897) (off := 1864) (gdec dt_L_law 21 rfl) (by rw [hc314]; decide) (by rw [hc314]; decide) (by rw [hc314]; decide) (by decide) ?_
      refine g_aload_n C (gdec dt_L_law 1301 rfl) (i := 1) rfl rfl ?_
      obtain ⟨q315, hq315, hf⟩ := Option.bind_eq_some_iff.mp hf
      refine g_invVs e_shXM_shX_0 [] [] C (c_X10_undo l D cA _ (gInj_sub em_e_shXM_shX_0 (gCi C)) (gsub w e_shXM_shX_0)  q315 hq315) em_e_shXM_shX_0 (by decide) rfl kT_X10_undo kl_L_251 kim_X10_undo kse_X10_undo rfl rfl (i := 0) rfl rfl ⟨by decide, by decide⟩ ⟨Nat.le_refl _, Nat.le_refl _⟩ (Nat.le_of_ble_eq_true rfl) (gdec dt_L_law 1302 rfl) rfl (st2 := [.int q315.1]) (w2 := (gput w e_shXM_shX_0 q315.2)) rfl rfl ?_
      refine g_aload_n C (gdec dt_L_law 1303 rfl) (i := 2) rfl rfl ?_
      obtain ⟨q316, hq316, hf⟩ := Option.bind_eq_some_iff.mp hf
      refine g_invVs e_shXM_shM_138 [] [.int q315.1] C (c_X11_undo l D cA _ (gInj_sub em_e_shXM_shM_138 (gCi C)) (gsub (gput w e_shXM_shX_0 q315.2) e_shXM_shM_138)  q316 hq316) em_e_shXM_shM_138 (by decide) rfl kT_X11_undo kl_L_254 kim_X11_undo kse_X11_undo rfl rfl (i := 138) rfl rfl ⟨by decide, by decide⟩ ⟨Nat.le_refl _, Nat.le_refl _⟩ (Nat.le_of_ble_eq_true rfl) (gdec dt_L_law 1304 rfl) rfl (st2 := [.int q316.1, .int q315.1]) (w2 := (gput (gput w e_shXM_shX_0 q315.2) e_shXM_shM_138 q316.2)) rfl rfl ?_
      refine g_icmp_eq C (tgt := 1910) (gdec dt_L_law 1305 rfl) (by decide) (fun hc317 => ?_) (fun hc317 => ?_)
      · have hf := (if_pos hc317).symm.trans hf
        refine g_sub [0, 1, 2, 3] (lo2 := [(0, .ref 6000), (1, .ref 0), (2, .ref 138), (3, .int x3)]) rfl ?_
        exact L_L_law_1910 C hX hb hnew hk18 x3 (gput (gput w e_shXM_shX_0 q315.2) e_shXM_shM_138 q316.2) hf
      · have hf := (if_neg hc317).symm.trans hf
        refine g_iconst C (gdec dt_L_law 1306 rfl) ic_0 ?_
        cases hf
    replace hf := (if_neg hc314).symm.trans hf
    refine g_tableOut C (tgt := 1910) (gdec dt_L_law 21 rfl) (gtsw_out (fun j hj => ?_)) (by decide) ?_
    · match j, hj with
      | 0, _ => exact lv_neT hc3 (by decide)
      | 1, _ => exact lv_neT hc7 (by decide)
      | 2, _ => exact lv_neT hc11 (by decide)
      | 3, _ => exact lv_neT hc15 (by decide)
      | 4, _ => exact lv_neT hc22 (by decide)
      | 5, _ => exact lv_neT hc30 (by decide)
      | 6, _ => exact lv_neT hc36 (by decide)
      | 7, _ => exact lv_neT hc45 (by decide)
      | 8, _ => exact lv_neT hc54 (by decide)
      | 9, _ => exact lv_neT hc59 (by decide)
      | 10, _ => exact lv_neT hc64 (by decide)
      | 11, _ => exact lv_neT hc69 (by decide)
      | 12, _ => exact lv_neT hc74 (by decide)
      | 13, _ => exact lv_neT hc80 (by decide)
      | 14, _ => exact lv_neT hc86 (by decide)
      | 15, _ => exact lv_neT hc92 (by decide)
      | 16, _ => exact lv_neT hc97 (by decide)
      | 17, _ => exact lv_neT hc103 (by decide)
      | 18, _ => exact lv_neT hc108 (by decide)
      | 19, _ => exact lv_neT hc114 (by decide)
      | 20, _ => exact lv_neT hc120 (by decide)
      | 21, _ => exact lv_neT hc126 (by decide)
      | 22, _ => exact lv_neT hc131 (by decide)
      | 23, _ => exact lv_neT hc136 (by decide)
      | 24, _ => exact lv_neT hc140 (by decide)
      | 25, _ => exact lv_neT hc145 (by decide)
      | 26, _ => exact lv_neT hc151 (by decide)
      | 27, _ => exact lv_neT hc157 (by decide)
      | 28, _ => exact lv_neT hc163 (by decide)
      | 29, _ => exact lv_neT hc169 (by decide)
      | 30, _ => exact lv_neT hc175 (by decide)
      | 31, _ => exact lv_neT hc179 (by decide)
      | 32, _ => exact lv_neT hc184 (by decide)
      | 33, _ => exact lv_neT hc189 (by decide)
      | 34, _ => exact lv_neT hc195 (by decide)
      | 35, _ => exact lv_neT hc200 (by decide)
      | 36, _ => exact lv_neT hc207 (by decide)
      | 37, _ => exact lv_neT hc213 (by decide)
      | 38, _ => exact lv_neT hc219 (by decide)
      | 39, _ => exact lv_neT hc226 (by decide)
      | 40, _ => exact lv_neT hc232 (by decide)
      | 41, _ => exact lv_neT hc238 (by decide)
      | 42, _ => exact lv_neT hc245 (by decide)
      | 43, _ => exact lv_neT hc251 (by decide)
      | 44, _ => exact lv_neT hc255 (by decide)
      | 45, _ => exact lv_neT hc259 (by decide)
      | 46, _ => exact lv_neT hc263 (by decide)
      | 47, _ => exact lv_neT hc267 (by decide)
      | 48, _ => exact lv_neT hc273 (by decide)
      | 49, _ => exact lv_neT hc279 (by decide)
      | 50, _ => exact lv_neT hc284 (by decide)
      | 51, _ => exact lv_neT hc289 (by decide)
      | 52, _ => exact lv_neT hc294 (by decide)
      | 53, _ => exact lv_neT hc299 (by decide)
      | 54, _ => exact lv_neT hc304 (by decide)
      | 55, _ => exact lv_neT hc310 (by decide)
      | 56, _ => exact lv_neT hc314 (by decide)
      | j + 57, hj => exact absurd hj (by simp)
    refine g_sub [0, 1, 2, 3] (lo2 := [(0, .ref 6000), (1, .ref 0), (2, .ref 138), (3, .int x3)]) rfl ?_
    exact L_L_law_1910 C hX hb hnew hk18 x3 w hf
theorem L_L_law_18 {p : Program} {l : Launch} {e : Env} {s : State} {m : MethodId} {below : List Frame} {meth : Method} {c : Code} {D : va_G} {cA ad : Nat → Nat} {q : Unit} (C : gC p c code meth m s #[Value.ref (ad 6000)] 4 ret RL D cA ad shXM) {xs : Nat → Int32} {L : Nat} (hX : va_X (ad 6000) L xs s s.heap) (hb : ad 6000 < s.heap.size ∧ ¬ gA ad shXM.length (ad 6000)) (hnew : ∀ i, i < shXM.length → s.heap.size ≤ ad i) : ∀ (n : Nat) (x3 : Int32) (w : GW), f_L_law_18 xs L n x3 w = some q → gW p l e room_1 s m #[Value.ref (ad 6000)] below meth c D cA ad shXM 4 600000 7302250 (lw_Z below #[Value.ref (ad 6000)] s) 18 [(0, .ref 6000), (1, .ref 0), (2, .ref 138), (3, .int x3)] [] w := by
  intro n
  induction n with
  | zero => intro _ _ hf; cases hf
  | succ n ih => intro x3 w hf; exact Lb_L_law_18 C hX hb hnew ih x3 w hf
