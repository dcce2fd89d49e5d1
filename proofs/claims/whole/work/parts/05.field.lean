/-! the elements modulo P: every element but 0 is a power of 17, so a * a^(P-2) = 1 -/
abbrev ed_K : Type := Fin 1014773761
theorem ed_g_a {n m : Nat} {c c' : ed_K} (h : ed_pw (17 : ed_K) n = c) (hm : n + n = m) (hc : c * c = c') : ed_pw (17 : ed_K) m = c' := by
  rw [← hm, ed_pw_add, h]; exact hc
theorem ed_g_b {n m : Nat} {c c' : ed_K} (h : ed_pw (17 : ed_K) n = c) (hm : n + n + 1 = m) (hc : c * c * 17 = c') : ed_pw (17 : ed_K) m = c' := by
  rw [← hm, ed_pwS, ed_pw_add, h]; exact hc
theorem ed_go1 : ed_pw (17 : ed_K) 1014773760 = 1 := by
  have h0 : ed_pw (17 : ed_K) 1 = 17 := ed_pw1 17
  have h1 : ed_pw (17 : ed_K) 3 = 4913 := ed_g_b h0 (by decide) (by decide +kernel)
  have h2 : ed_pw (17 : ed_K) 7 = 410338673 := ed_g_b h1 (by decide) (by decide +kernel)
  have h3 : ed_pw (17 : ed_K) 15 = 686147428 := ed_g_b h2 (by decide) (by decide +kernel)
  have h4 : ed_pw (17 : ed_K) 30 = 803671411 := ed_g_a h3 (by decide) (by decide +kernel)
  have h5 : ed_pw (17 : ed_K) 60 = 463060534 := ed_g_a h4 (by decide) (by decide +kernel)
  have h6 : ed_pw (17 : ed_K) 120 = 503594963 := ed_g_a h5 (by decide) (by decide +kernel)
  have h7 : ed_pw (17 : ed_K) 241 = 938633869 := ed_g_b h6 (by decide) (by decide +kernel)
  have h8 : ed_pw (17 : ed_K) 483 = 719559288 := ed_g_b h7 (by decide) (by decide +kernel)
  have h9 : ed_pw (17 : ed_K) 967 = 489734004 := ed_g_b h8 (by decide) (by decide +kernel)
  have h10 : ed_pw (17 : ed_K) 1935 = 421246046 := ed_g_b h9 (by decide) (by decide +kernel)
  have h11 : ed_pw (17 : ed_K) 3871 = 570662349 := ed_g_b h10 (by decide) (by decide +kernel)
  have h12 : ed_pw (17 : ed_K) 7742 = 874818118 := ed_g_a h11 (by decide) (by decide +kernel)
  have h13 : ed_pw (17 : ed_K) 15484 = 785931917 := ed_g_a h12 (by decide) (by decide +kernel)
  have h14 : ed_pw (17 : ed_K) 30968 = 314067444 := ed_g_a h13 (by decide) (by decide +kernel)
  have h15 : ed_pw (17 : ed_K) 61936 = 610236421 := ed_g_a h14 (by decide) (by decide +kernel)
  have h16 : ed_pw (17 : ed_K) 123873 = 284603104 := ed_g_b h15 (by decide) (by decide +kernel)
  have h17 : ed_pw (17 : ed_K) 247747 = 374867386 := ed_g_b h16 (by decide) (by decide +kernel)
  have h18 : ed_pw (17 : ed_K) 495495 = 836526182 := ed_g_b h17 (by decide) (by decide +kernel)
  have h19 : ed_pw (17 : ed_K) 990990 = 310552723 := ed_g_a h18 (by decide) (by decide +kernel)
  have h20 : ed_pw (17 : ed_K) 1981980 = 605900458 := ed_g_a h19 (by decide) (by decide +kernel)
  have h21 : ed_pw (17 : ed_K) 3963960 = 869921353 := ed_g_a h20 (by decide) (by decide +kernel)
  have h22 : ed_pw (17 : ed_K) 7927920 = 799736758 := ed_g_a h21 (by decide) (by decide +kernel)
  have h23 : ed_pw (17 : ed_K) 15855840 = 261459743 := ed_g_a h22 (by decide) (by decide +kernel)
  have h24 : ed_pw (17 : ed_K) 31711680 = 794335621 := ed_g_a h23 (by decide) (by decide +kernel)
  have h25 : ed_pw (17 : ed_K) 63423360 = 279723836 := ed_g_a h24 (by decide) (by decide +kernel)
  have h26 : ed_pw (17 : ed_K) 126846720 = 762878382 := ed_g_a h25 (by decide) (by decide +kernel)
  have h27 : ed_pw (17 : ed_K) 253693440 = 399019726 := ed_g_a h26 (by decide) (by decide +kernel)
  have h28 : ed_pw (17 : ed_K) 507386880 = 1014773760 := ed_g_a h27 (by decide) (by decide +kernel)
  have h29 : ed_pw (17 : ed_K) 1014773760 = 1 := ed_g_a h28 (by decide) (by decide +kernel)
  exact h29
theorem ed_go2 : ed_pw (17 : ed_K) 507386880 = 1014773760 := by
  have h0 : ed_pw (17 : ed_K) 1 = 17 := ed_pw1 17
  have h1 : ed_pw (17 : ed_K) 3 = 4913 := ed_g_b h0 (by decide) (by decide +kernel)
  have h2 : ed_pw (17 : ed_K) 7 = 410338673 := ed_g_b h1 (by decide) (by decide +kernel)
  have h3 : ed_pw (17 : ed_K) 15 = 686147428 := ed_g_b h2 (by decide) (by decide +kernel)
  have h4 : ed_pw (17 : ed_K) 30 = 803671411 := ed_g_a h3 (by decide) (by decide +kernel)
  have h5 : ed_pw (17 : ed_K) 60 = 463060534 := ed_g_a h4 (by decide) (by decide +kernel)
  have h6 : ed_pw (17 : ed_K) 120 = 503594963 := ed_g_a h5 (by decide) (by decide +kernel)
  have h7 : ed_pw (17 : ed_K) 241 = 938633869 := ed_g_b h6 (by decide) (by decide +kernel)
  have h8 : ed_pw (17 : ed_K) 483 = 719559288 := ed_g_b h7 (by decide) (by decide +kernel)
  have h9 : ed_pw (17 : ed_K) 967 = 489734004 := ed_g_b h8 (by decide) (by decide +kernel)
  have h10 : ed_pw (17 : ed_K) 1935 = 421246046 := ed_g_b h9 (by decide) (by decide +kernel)
  have h11 : ed_pw (17 : ed_K) 3871 = 570662349 := ed_g_b h10 (by decide) (by decide +kernel)
  have h12 : ed_pw (17 : ed_K) 7742 = 874818118 := ed_g_a h11 (by decide) (by decide +kernel)
  have h13 : ed_pw (17 : ed_K) 15484 = 785931917 := ed_g_a h12 (by decide) (by decide +kernel)
  have h14 : ed_pw (17 : ed_K) 30968 = 314067444 := ed_g_a h13 (by decide) (by decide +kernel)
  have h15 : ed_pw (17 : ed_K) 61936 = 610236421 := ed_g_a h14 (by decide) (by decide +kernel)
  have h16 : ed_pw (17 : ed_K) 123873 = 284603104 := ed_g_b h15 (by decide) (by decide +kernel)
  have h17 : ed_pw (17 : ed_K) 247747 = 374867386 := ed_g_b h16 (by decide) (by decide +kernel)
  have h18 : ed_pw (17 : ed_K) 495495 = 836526182 := ed_g_b h17 (by decide) (by decide +kernel)
  have h19 : ed_pw (17 : ed_K) 990990 = 310552723 := ed_g_a h18 (by decide) (by decide +kernel)
  have h20 : ed_pw (17 : ed_K) 1981980 = 605900458 := ed_g_a h19 (by decide) (by decide +kernel)
  have h21 : ed_pw (17 : ed_K) 3963960 = 869921353 := ed_g_a h20 (by decide) (by decide +kernel)
  have h22 : ed_pw (17 : ed_K) 7927920 = 799736758 := ed_g_a h21 (by decide) (by decide +kernel)
  have h23 : ed_pw (17 : ed_K) 15855840 = 261459743 := ed_g_a h22 (by decide) (by decide +kernel)
  have h24 : ed_pw (17 : ed_K) 31711680 = 794335621 := ed_g_a h23 (by decide) (by decide +kernel)
  have h25 : ed_pw (17 : ed_K) 63423360 = 279723836 := ed_g_a h24 (by decide) (by decide +kernel)
  have h26 : ed_pw (17 : ed_K) 126846720 = 762878382 := ed_g_a h25 (by decide) (by decide +kernel)
  have h27 : ed_pw (17 : ed_K) 253693440 = 399019726 := ed_g_a h26 (by decide) (by decide +kernel)
  have h28 : ed_pw (17 : ed_K) 507386880 = 1014773760 := ed_g_a h27 (by decide) (by decide +kernel)
  exact h28
theorem ed_go3 : ed_pw (17 : ed_K) 338257920 = 304403814 := by
  have h0 : ed_pw (17 : ed_K) 1 = 17 := ed_pw1 17
  have h1 : ed_pw (17 : ed_K) 2 = 289 := ed_g_a h0 (by decide) (by decide +kernel)
  have h2 : ed_pw (17 : ed_K) 5 = 1419857 := ed_g_b h1 (by decide) (by decide +kernel)
  have h3 : ed_pw (17 : ed_K) 10 = 653211103 := ed_g_a h2 (by decide) (by decide +kernel)
  have h4 : ed_pw (17 : ed_K) 20 = 723751029 := ed_g_a h3 (by decide) (by decide +kernel)
  have h5 : ed_pw (17 : ed_K) 40 = 807813190 := ed_g_a h4 (by decide) (by decide +kernel)
  have h6 : ed_pw (17 : ed_K) 80 = 940958551 := ed_g_a h5 (by decide) (by decide +kernel)
  have h7 : ed_pw (17 : ed_K) 161 = 65095707 := ed_g_b h6 (by decide) (by decide +kernel)
  have h8 : ed_pw (17 : ed_K) 322 = 404370250 := ed_g_a h7 (by decide) (by decide +kernel)
  have h9 : ed_pw (17 : ed_K) 645 = 865668679 := ed_g_b h8 (by decide) (by decide +kernel)
  have h10 : ed_pw (17 : ed_K) 1290 = 289746552 := ed_g_a h9 (by decide) (by decide +kernel)
  have h11 : ed_pw (17 : ed_K) 2580 = 48648445 := ed_g_a h10 (by decide) (by decide +kernel)
  have h12 : ed_pw (17 : ed_K) 5161 = 288688360 := ed_g_b h11 (by decide) (by decide +kernel)
  have h13 : ed_pw (17 : ed_K) 10322 = 148504365 := ed_g_a h12 (by decide) (by decide +kernel)
  have h14 : ed_pw (17 : ed_K) 20645 = 300746813 := ed_g_b h13 (by decide) (by decide +kernel)
  have h15 : ed_pw (17 : ed_K) 41291 = 204644430 := ed_g_b h14 (by decide) (by decide +kernel)
  have h16 : ed_pw (17 : ed_K) 82582 = 5977665 := ed_g_a h15 (by decide) (by decide +kernel)
  have h17 : ed_pw (17 : ed_K) 165165 = 448963137 := ed_g_b h16 (by decide) (by decide +kernel)
  have h18 : ed_pw (17 : ed_K) 330330 = 952184073 := ed_g_a h17 (by decide) (by decide +kernel)
  have h19 : ed_pw (17 : ed_K) 660660 = 899891309 := ed_g_a h18 (by decide) (by decide +kernel)
  have h20 : ed_pw (17 : ed_K) 1321320 = 723958152 := ed_g_a h19 (by decide) (by decide +kernel)
  have h21 : ed_pw (17 : ed_K) 2642640 = 192645324 := ed_g_a h20 (by decide) (by decide +kernel)
  have h22 : ed_pw (17 : ed_K) 5285280 = 112768900 := ed_g_a h21 (by decide) (by decide +kernel)
  have h23 : ed_pw (17 : ed_K) 10570560 = 702866476 := ed_g_a h22 (by decide) (by decide +kernel)
  have h24 : ed_pw (17 : ed_K) 21141120 = 982848469 := ed_g_a h23 (by decide) (by decide +kernel)
  have h25 : ed_pw (17 : ed_K) 42282240 = 725343279 := ed_g_a h24 (by decide) (by decide +kernel)
  have h26 : ed_pw (17 : ed_K) 84564480 = 690901421 := ed_g_a h25 (by decide) (by decide +kernel)
  have h27 : ed_pw (17 : ed_K) 169128960 = 304403815 := ed_g_a h26 (by decide) (by decide +kernel)
  have h28 : ed_pw (17 : ed_K) 338257920 = 304403814 := ed_g_a h27 (by decide) (by decide +kernel)
  exact h28
theorem ed_go5 : ed_pw (17 : ed_K) 202954752 = 155690573 := by
  have h0 : ed_pw (17 : ed_K) 1 = 17 := ed_pw1 17
  have h1 : ed_pw (17 : ed_K) 3 = 4913 := ed_g_b h0 (by decide) (by decide +kernel)
  have h2 : ed_pw (17 : ed_K) 6 = 24137569 := ed_g_a h1 (by decide) (by decide +kernel)
  have h3 : ed_pw (17 : ed_K) 12 = 30089221 := ed_g_a h2 (by decide) (by decide +kernel)
  have h4 : ed_pw (17 : ed_K) 24 = 366297861 := ed_g_a h3 (by decide) (by decide +kernel)
  have h5 : ed_pw (17 : ed_K) 48 = 582778596 := ed_g_a h4 (by decide) (by decide +kernel)
  have h6 : ed_pw (17 : ed_K) 96 = 313176740 := ed_g_a h5 (by decide) (by decide +kernel)
  have h7 : ed_pw (17 : ed_K) 193 = 964073753 := ed_g_b h6 (by decide) (by decide +kernel)
  have h8 : ed_pw (17 : ed_K) 387 = 833833655 := ed_g_b h7 (by decide) (by decide +kernel)
  have h9 : ed_pw (17 : ed_K) 774 = 835751756 := ed_g_a h8 (by decide) (by decide +kernel)
  have h10 : ed_pw (17 : ed_K) 1548 = 84701096 := ed_g_a h9 (by decide) (by decide +kernel)
  have h11 : ed_pw (17 : ed_K) 3096 = 729191869 := ed_g_a h10 (by decide) (by decide +kernel)
  have h12 : ed_pw (17 : ed_K) 6193 = 397286314 := ed_g_b h11 (by decide) (by decide +kernel)
  have h13 : ed_pw (17 : ed_K) 12387 = 739840226 := ed_g_b h12 (by decide) (by decide +kernel)
  have h14 : ed_pw (17 : ed_K) 24774 = 38929684 := ed_g_a h13 (by decide) (by decide +kernel)
  have h15 : ed_pw (17 : ed_K) 49549 = 609772475 := ed_g_b h14 (by decide) (by decide +kernel)
  have h16 : ed_pw (17 : ed_K) 99099 = 162698574 := ed_g_b h15 (by decide) (by decide +kernel)
  have h17 : ed_pw (17 : ed_K) 198198 = 851624831 := ed_g_a h16 (by decide) (by decide +kernel)
  have h18 : ed_pw (17 : ed_K) 396396 = 781784284 := ed_g_a h17 (by decide) (by decide +kernel)
  have h19 : ed_pw (17 : ed_K) 792792 = 909515578 := ed_g_a h18 (by decide) (by decide +kernel)
  have h20 : ed_pw (17 : ed_K) 1585584 = 387469904 := ed_g_a h19 (by decide) (by decide +kernel)
  have h21 : ed_pw (17 : ed_K) 3171168 = 80087626 := ed_g_a h20 (by decide) (by decide +kernel)
  have h22 : ed_pw (17 : ed_K) 6342336 = 95398748 := ed_g_a h21 (by decide) (by decide +kernel)
  have h23 : ed_pw (17 : ed_K) 12684672 = 782018601 := ed_g_a h22 (by decide) (by decide +kernel)
  have h24 : ed_pw (17 : ed_K) 25369344 = 837986872 := ed_g_a h23 (by decide) (by decide +kernel)
  have h25 : ed_pw (17 : ed_K) 50738688 = 70180048 := ed_g_a h24 (by decide) (by decide +kernel)
  have h26 : ed_pw (17 : ed_K) 101477376 = 185960930 := ed_g_a h25 (by decide) (by decide +kernel)
  have h27 : ed_pw (17 : ed_K) 202954752 = 155690573 := ed_g_a h26 (by decide) (by decide +kernel)
  exact h27
theorem ed_go7 : ed_pw (17 : ed_K) 144967680 = 698706450 := by
  have h0 : ed_pw (17 : ed_K) 1 = 17 := ed_pw1 17
  have h1 : ed_pw (17 : ed_K) 2 = 289 := ed_g_a h0 (by decide) (by decide +kernel)
  have h2 : ed_pw (17 : ed_K) 4 = 83521 := ed_g_a h1 (by decide) (by decide +kernel)
  have h3 : ed_pw (17 : ed_K) 8 = 887114875 := ed_g_a h2 (by decide) (by decide +kernel)
  have h4 : ed_pw (17 : ed_K) 17 = 415723297 := ed_g_b h3 (by decide) (by decide +kernel)
  have h5 : ed_pw (17 : ed_K) 34 = 214723025 := ed_g_a h4 (by decide) (by decide +kernel)
  have h6 : ed_pw (17 : ed_K) 69 = 202795081 := ed_g_b h5 (by decide) (by decide +kernel)
  have h7 : ed_pw (17 : ed_K) 138 = 84957134 := ed_g_a h6 (by decide) (by decide +kernel)
  have h8 : ed_pw (17 : ed_K) 276 = 262697482 := ed_g_a h7 (by decide) (by decide +kernel)
  have h9 : ed_pw (17 : ed_K) 553 = 696033141 := ed_g_b h8 (by decide) (by decide +kernel)
  have h10 : ed_pw (17 : ed_K) 1106 = 816434315 := ed_g_a h9 (by decide) (by decide +kernel)
  have h11 : ed_pw (17 : ed_K) 2212 = 909485418 := ed_g_a h10 (by decide) (by decide +kernel)
  have h12 : ed_pw (17 : ed_K) 4424 = 16497726 := ed_g_a h11 (by decide) (by decide +kernel)
  have h13 : ed_pw (17 : ed_K) 8848 = 463185744 := ed_g_a h12 (by decide) (by decide +kernel)
  have h14 : ed_pw (17 : ed_K) 17696 = 351239936 := ed_g_a h13 (by decide) (by decide +kernel)
  have h15 : ed_pw (17 : ed_K) 35392 = 344821740 := ed_g_a h14 (by decide) (by decide +kernel)
  have h16 : ed_pw (17 : ed_K) 70785 = 389494122 := ed_g_b h15 (by decide) (by decide +kernel)
  have h17 : ed_pw (17 : ed_K) 141570 = 577704727 := ed_g_a h16 (by decide) (by decide +kernel)
  have h18 : ed_pw (17 : ed_K) 283140 = 477570390 := ed_g_a h17 (by decide) (by decide +kernel)
  have h19 : ed_pw (17 : ed_K) 566280 = 870280031 := ed_g_a h18 (by decide) (by decide +kernel)
  have h20 : ed_pw (17 : ed_K) 1132560 = 632962425 := ed_g_a h19 (by decide) (by decide +kernel)
  have h21 : ed_pw (17 : ed_K) 2265120 = 224939522 := ed_g_a h20 (by decide) (by decide +kernel)
  have h22 : ed_pw (17 : ed_K) 4530240 = 829529573 := ed_g_a h21 (by decide) (by decide +kernel)
  have h23 : ed_pw (17 : ed_K) 9060480 = 315532802 := ed_g_a h22 (by decide) (by decide +kernel)
  have h24 : ed_pw (17 : ed_K) 18120960 = 684511251 := ed_g_a h23 (by decide) (by decide +kernel)
  have h25 : ed_pw (17 : ed_K) 36241920 = 462313618 := ed_g_a h24 (by decide) (by decide +kernel)
  have h26 : ed_pw (17 : ed_K) 72483840 = 358929485 := ed_g_a h25 (by decide) (by decide +kernel)
  have h27 : ed_pw (17 : ed_K) 144967680 = 698706450 := ed_g_a h26 (by decide) (by decide +kernel)
  exact h27
theorem ed_go11 : ed_pw (17 : ed_K) 92252160 = 859333570 := by
  have h0 : ed_pw (17 : ed_K) 1 = 17 := ed_pw1 17
  have h1 : ed_pw (17 : ed_K) 2 = 289 := ed_g_a h0 (by decide) (by decide +kernel)
  have h2 : ed_pw (17 : ed_K) 5 = 1419857 := ed_g_b h1 (by decide) (by decide +kernel)
  have h3 : ed_pw (17 : ed_K) 10 = 653211103 := ed_g_a h2 (by decide) (by decide +kernel)
  have h4 : ed_pw (17 : ed_K) 21 = 126482361 := ed_g_b h3 (by decide) (by decide +kernel)
  have h5 : ed_pw (17 : ed_K) 43 = 6023199 := ed_g_b h4 (by decide) (by decide +kernel)
  have h6 : ed_pw (17 : ed_K) 87 = 814758335 := ed_g_b h5 (by decide) (by decide +kernel)
  have h7 : ed_pw (17 : ed_K) 175 = 899099378 := ed_g_b h6 (by decide) (by decide +kernel)
  have h8 : ed_pw (17 : ed_K) 351 = 568400920 := ed_g_b h7 (by decide) (by decide +kernel)
  have h9 : ed_pw (17 : ed_K) 703 = 990620246 := ed_g_b h8 (by decide) (by decide +kernel)
  have h10 : ed_pw (17 : ed_K) 1407 = 773632745 := ed_g_b h9 (by decide) (by decide +kernel)
  have h11 : ed_pw (17 : ed_K) 2815 = 439900057 := ed_g_b h10 (by decide) (by decide +kernel)
  have h12 : ed_pw (17 : ed_K) 5630 = 30161908 := ed_g_a h11 (by decide) (by decide +kernel)
  have h13 : ed_pw (17 : ed_K) 11261 = 286729375 := ed_g_b h12 (by decide) (by decide +kernel)
  have h14 : ed_pw (17 : ed_K) 22522 = 485194454 := ed_g_a h13 (by decide) (by decide +kernel)
  have h15 : ed_pw (17 : ed_K) 45045 = 816921028 := ed_g_b h14 (by decide) (by decide +kernel)
  have h16 : ed_pw (17 : ed_K) 90090 = 394628055 := ed_g_a h15 (by decide) (by decide +kernel)
  have h17 : ed_pw (17 : ed_K) 180180 = 448553365 := ed_g_a h16 (by decide) (by decide +kernel)
  have h18 : ed_pw (17 : ed_K) 360360 = 156135671 := ed_g_a h17 (by decide) (by decide +kernel)
  have h19 : ed_pw (17 : ed_K) 720720 = 330626250 := ed_g_a h18 (by decide) (by decide +kernel)
  have h20 : ed_pw (17 : ed_K) 1441440 = 354085206 := ed_g_a h19 (by decide) (by decide +kernel)
  have h21 : ed_pw (17 : ed_K) 2882880 = 882049977 := ed_g_a h20 (by decide) (by decide +kernel)
  have h22 : ed_pw (17 : ed_K) 5765760 = 9431833 := ed_g_a h21 (by decide) (by decide +kernel)
  have h23 : ed_pw (17 : ed_K) 11531520 = 346755585 := ed_g_a h22 (by decide) (by decide +kernel)
  have h24 : ed_pw (17 : ed_K) 23063040 = 920749237 := ed_g_a h23 (by decide) (by decide +kernel)
  have h25 : ed_pw (17 : ed_K) 46126080 = 540649393 := ed_g_a h24 (by decide) (by decide +kernel)
  have h26 : ed_pw (17 : ed_K) 92252160 = 859333570 := ed_g_a h25 (by decide) (by decide +kernel)
  exact h26
theorem ed_go13 : ed_pw (17 : ed_K) 78059520 = 747993741 := by
  have h0 : ed_pw (17 : ed_K) 1 = 17 := ed_pw1 17
  have h1 : ed_pw (17 : ed_K) 2 = 289 := ed_g_a h0 (by decide) (by decide +kernel)
  have h2 : ed_pw (17 : ed_K) 4 = 83521 := ed_g_a h1 (by decide) (by decide +kernel)
  have h3 : ed_pw (17 : ed_K) 9 = 874120221 := ed_g_b h2 (by decide) (by decide +kernel)
  have h4 : ed_pw (17 : ed_K) 18 = 978653483 := ed_g_a h3 (by decide) (by decide +kernel)
  have h5 : ed_pw (17 : ed_K) 37 = 584284146 := ed_g_b h4 (by decide) (by decide +kernel)
  have h6 : ed_pw (17 : ed_K) 74 = 1004960950 := ed_g_a h5 (by decide) (by decide +kernel)
  have h7 : ed_pw (17 : ed_K) 148 = 392314192 := ed_g_a h6 (by decide) (by decide +kernel)
  have h8 : ed_pw (17 : ed_K) 297 = 534471020 := ed_g_b h7 (by decide) (by decide +kernel)
  have h9 : ed_pw (17 : ed_K) 595 = 245682496 := ed_g_b h8 (by decide) (by decide +kernel)
  have h10 : ed_pw (17 : ed_K) 1191 = 612196682 := ed_g_b h9 (by decide) (by decide +kernel)
  have h11 : ed_pw (17 : ed_K) 2382 = 836280397 := ed_g_a h10 (by decide) (by decide +kernel)
  have h12 : ed_pw (17 : ed_K) 4764 = 356408773 := ed_g_a h11 (by decide) (by decide +kernel)
  have h13 : ed_pw (17 : ed_K) 9528 = 611365264 := ed_g_a h12 (by decide) (by decide +kernel)
  have h14 : ed_pw (17 : ed_K) 19057 = 832295277 := ed_g_b h13 (by decide) (by decide +kernel)
  have h15 : ed_pw (17 : ed_K) 38115 = 96606550 := ed_g_b h14 (by decide) (by decide +kernel)
  have h16 : ed_pw (17 : ed_K) 76230 = 946899789 := ed_g_a h15 (by decide) (by decide +kernel)
  have h17 : ed_pw (17 : ed_K) 152460 = 66226418 := ed_g_a h16 (by decide) (by decide +kernel)
  have h18 : ed_pw (17 : ed_K) 304920 = 1005072800 := ed_g_a h17 (by decide) (by decide +kernel)
  have h19 : ed_pw (17 : ed_K) 609840 = 555275903 := ed_g_a h18 (by decide) (by decide +kernel)
  have h20 : ed_pw (17 : ed_K) 1219680 = 980438657 := ed_g_a h19 (by decide) (by decide +kernel)
  have h21 : ed_pw (17 : ed_K) 2439360 = 156681720 := ed_g_a h20 (by decide) (by decide +kernel)
  have h22 : ed_pw (17 : ed_K) 4878720 = 131296562 := ed_g_a h21 (by decide) (by decide +kernel)
  have h23 : ed_pw (17 : ed_K) 9757440 = 303845151 := ed_g_a h22 (by decide) (by decide +kernel)
  have h24 : ed_pw (17 : ed_K) 19514880 = 645670850 := ed_g_a h23 (by decide) (by decide +kernel)
  have h25 : ed_pw (17 : ed_K) 39029760 = 357821352 := ed_g_a h24 (by decide) (by decide +kernel)
  have h26 : ed_pw (17 : ed_K) 78059520 = 747993741 := ed_g_a h25 (by decide) (by decide +kernel)
  exact h26
theorem ed_gcd1 {K : Type} [Lean.Grind.CommRing K] (g : K) (m n : Nat) : ed_pw g m = 1 → ed_pw g n = 1 → ed_pw g (Nat.gcd m n) = 1 := by
  induction m, n using Nat.gcd.induction with
  | H0 n => intro _ h; rw [Nat.gcd_zero_left]; exact h
  | H1 m n hm ih =>
    intro h1 h2
    rw [Nat.gcd_rec]
    refine ih ?_ h1
    have e : ed_pw g n = ed_pw g (n % m + m * (n / m)) := by rw [Nat.mod_add_div]
    rw [h2, ed_pw_add, ed_pw_mul, h1, ed_pw_one] at e
    grind
theorem ed_inv_g {K : Type} [Lean.Grind.CommRing K] (g : K) (N : Nat) (hN : ed_pw g (N + 1) = 1) (k : Nat) : ed_pw g k * ed_pw (ed_pw g k) N = 1 := by
  have h : ed_pw (ed_pw g k) (N + 1) = 1 := by rw [← ed_pw_mul, Nat.mul_comm, ed_pw_mul, hN, ed_pw_one]
  rw [ed_pwS] at h
  grind
theorem ed_inj_g {K : Type} [Lean.Grind.CommRing K] (g : K) (N : Nat) (hN : ed_pw g N = 1) (i j : Nat) (hij : i ≤ j) (hj : j ≤ N) (h : ed_pw g i = ed_pw g j) : ed_pw g (j - i) = 1 := by
  have a := ed_pw_add g i (j - i)
  have b := ed_pw_add g (N - i) i
  rw [show i + (j - i) = j by omega] at a
  rw [show N - i + i = N by omega, hN] at b
  rw [← h] at a
  grind
theorem ed_nz_g {K : Type} [Lean.Grind.CommRing K] (h1 : (1 : K) ≠ 0) (g : K) (N : Nat) (hN : ed_pw g N = 1) (i : Nat) (hi : i ≤ N) : ed_pw g i ≠ 0 := by
  intro e
  have b := ed_pw_add g (N - i) i
  rw [show N - i + i = N by omega, hN, e] at b
  exact h1 (by grind)
theorem ed_zd {K : Type} [Lean.Grind.CommRing K] (iv : K → K) (hiv : ∀ a : K, a ≠ 0 → a * iv a = 1) (a b : K) (h : a * b = 0) : a = 0 ∨ b = 0 := by
  by_cases c : a = 0
  · exact Or.inl c
  · have := hiv a c
    exact Or.inr (by grind)
theorem ed_key {e m q Q : Nat} (hg : ed_pw (17 : ed_K) e = 1) (hm : 1014773760 = e * m) (hq : q ∣ m) (h0 : 0 < q) (hQ : 1014773760 = q * Q) : ed_pw (17 : ed_K) Q = 1 := by
  obtain ⟨m', rfl⟩ := hq
  have e1 : q * Q = q * (e * m') := by rw [← hQ, hm, Nat.mul_left_comm]
  have e2 : Q = e * m' := Nat.eq_of_mul_eq_mul_left h0 e1
  rw [e2, ed_pw_mul, hg, ed_pw_one]
theorem ed_cop {m q : Nat} (hq : ∀ x, x < q + 1 → x ∣ q → x = 1 ∨ x = q) (h0 : 0 < q) (h : ¬ q ∣ m) : Nat.Coprime m q := by
  rcases hq (Nat.gcd m q) (Nat.lt_succ_of_le (Nat.le_of_dvd h0 (Nat.gcd_dvd_right m q))) (Nat.gcd_dvd_right m q) with e | e
  · exact e
  · have := Nat.gcd_dvd_left m q
    rw [e] at this
    exact absurd this h
theorem ed_ord (d : Nat) (h0 : 0 < d) (h1 : d < 1014773760) : ed_pw (17 : ed_K) d ≠ 1 := by
  intro h
  have hg := ed_gcd1 (17 : ed_K) d 1014773760 h ed_go1
  have hle : Nat.gcd d 1014773760 ≤ d := Nat.gcd_le_left _ h0
  obtain ⟨m, hm⟩ := Nat.gcd_dvd_right d 1014773760
  generalize Nat.gcd d 1014773760 = e at hg hle hm
  have n2 : ¬ 2 ∣ m := fun z => absurd ((ed_key hg hm z (by decide) (Q := 507386880) (by decide)).symm.trans ed_go2) (by decide +kernel)
  have n3 : ¬ 3 ∣ m := fun z => absurd ((ed_key hg hm z (by decide) (Q := 338257920) (by decide)).symm.trans ed_go3) (by decide +kernel)
  have n5 : ¬ 5 ∣ m := fun z => absurd ((ed_key hg hm z (by decide) (Q := 202954752) (by decide)).symm.trans ed_go5) (by decide +kernel)
  have n7 : ¬ 7 ∣ m := fun z => absurd ((ed_key hg hm z (by decide) (Q := 144967680) (by decide)).symm.trans ed_go7) (by decide +kernel)
  have n11 : ¬ 11 ∣ m := fun z => absurd ((ed_key hg hm z (by decide) (Q := 92252160) (by decide)).symm.trans ed_go11) (by decide +kernel)
  have n13 : ¬ 13 ∣ m := fun z => absurd ((ed_key hg hm z (by decide) (Q := 78059520) (by decide)).symm.trans ed_go13) (by decide +kernel)
  have c : Nat.Coprime m (2 ^ 11 * (3 ^ 2 * (5 * (7 * (11 ^ 2 * 13))))) :=
    Nat.Coprime.mul_right (Nat.Coprime.pow_right 11 (ed_cop (by decide) (by decide) n2)) (Nat.Coprime.mul_right (Nat.Coprime.pow_right 2 (ed_cop (by decide) (by decide) n3)) (Nat.Coprime.mul_right (ed_cop (by decide) (by decide) n5) (Nat.Coprime.mul_right (ed_cop (by decide) (by decide) n7) (Nat.Coprime.mul_right (Nat.Coprime.pow_right 2 (ed_cop (by decide) (by decide) n11)) (ed_cop (by decide) (by decide) n13)))))
  rw [show 2 ^ 11 * (3 ^ 2 * (5 * (7 * (11 ^ 2 * 13)))) = 1014773760 by decide] at c
  have m1 := Nat.Coprime.eq_one_of_dvd c ⟨e, by rw [Nat.mul_comm]; exact hm⟩
  rw [m1] at hm
  omega
theorem ed_php : ∀ (n : Nat) (f : Nat → Nat), (∀ i, i < n → f i < n) → (∀ i j, i < n → j < n → f i = f j → i = j) → ∀ y, y < n → ∃ i, i < n ∧ f i = y := by
  intro n
  induction n with
  | zero => intro f _ _ y hy; omega
  | succ n ih =>
    intro f hf hi y hy
    have g1 : ∀ i, i < n → (if f i = n then f n else f i) < n := fun i h => by
      by_cases c : f i = n
      · rw [if_pos c]
        have a := hf n (by omega)
        have b : f n ≠ n := fun z => by
          have := hi i n (by omega) (by omega) (c.trans z.symm)
          omega
        omega
      · rw [if_neg c]
        have a := hf i (by omega)
        omega
    have g2 : ∀ i j, i < n → j < n → (if f i = n then f n else f i) = (if f j = n then f n else f j) → i = j := fun i j h1 h2 e => by
      by_cases c : f i = n
      · by_cases c2 : f j = n
        · exact hi i j (by omega) (by omega) (c.trans c2.symm)
        · rw [if_pos c, if_neg c2] at e
          have := hi n j (by omega) (by omega) e
          omega
      · by_cases c2 : f j = n
        · rw [if_neg c, if_pos c2] at e
          have := hi i n (by omega) (by omega) e
          omega
        · rw [if_neg c, if_neg c2] at e
          exact hi i j (by omega) (by omega) e
    have G := ih (fun i => if f i = n then f n else f i) g1 g2
    by_cases c0 : y = f n
    · exact ⟨n, by omega, c0.symm⟩
    · by_cases c1 : y < n
      · obtain ⟨i, h, e⟩ := G y c1
        have e : (if f i = n then f n else f i) = y := e
        by_cases c : f i = n
        · rw [if_pos c] at e
          exact absurd e.symm c0
        · rw [if_neg c] at e
          exact ⟨i, by omega, e⟩
      · have ey : y = n := by omega
        have a := hf n (by omega)
        obtain ⟨i, h, e⟩ := G (f n) (by omega)
        have e : (if f i = n then f n else f i) = f n := e
        by_cases c : f i = n
        · exact ⟨i, by omega, c.trans ey.symm⟩
        · rw [if_neg c] at e
          have := hi i n (by omega) (by omega) e
          omega
theorem ed_10 : (1 : ed_K) ≠ 0 := by decide +kernel
theorem ed_v0 {a : ed_K} (h : a ≠ 0) : 0 < a.val := by
  apply Nat.pos_of_ne_zero
  intro e
  exact h (Fin.ext e)
theorem ed_sur (a : ed_K) (ha : a ≠ 0) : ∃ k, ed_pw (17 : ed_K) k = a := by
  have hv : ∀ k, k < 1014773760 → 0 < (ed_pw (17 : ed_K) k).val := fun k hk => ed_v0 (ed_nz_g ed_10 17 1014773760 ed_go1 k (by omega))
  have a0 := ed_v0 ha
  have al := a.isLt
  obtain ⟨k, hk, e⟩ := ed_php 1014773760 (fun k => (ed_pw (17 : ed_K) k).val - 1) (fun i hi => by
    have h1 := hv i hi
    have h2 := (ed_pw (17 : ed_K) i).isLt
    show (ed_pw (17 : ed_K) i).val - 1 < 1014773760
    omega) (fun i j hi hj e => by
    have e : (ed_pw (17 : ed_K) i).val - 1 = (ed_pw (17 : ed_K) j).val - 1 := e
    have h1 := hv i hi
    have h2 := hv j hj
    have e2 : ed_pw (17 : ed_K) i = ed_pw (17 : ed_K) j := Fin.ext (by omega)
    apply Classical.byContradiction
    intro c
    by_cases l : i ≤ j
    · exact ed_ord (j - i) (by omega) (by omega) (ed_inj_g 17 1014773760 ed_go1 i j l (by omega) e2)
    · exact ed_ord (i - j) (by omega) (by omega) (ed_inj_g 17 1014773760 ed_go1 j i (by omega) (by omega) e2.symm)) (a.val - 1) (by omega)
  have e : (ed_pw (17 : ed_K) k).val - 1 = a.val - 1 := e
  have h1 := hv k hk
  exact ⟨k, Fin.ext (by omega)⟩
def ed_iv (a : ed_K) : ed_K := ed_pw a 1014773759
theorem ed_hiv (a : ed_K) (ha : a ≠ 0) : a * ed_iv a = 1 := by
  obtain ⟨k, rfl⟩ := ed_sur a ha
  exact ed_inv_g (17 : ed_K) 1014773759 ed_go1 k
theorem ed_hz (a b : ed_K) (h : a * b = 0) : a = 0 ∨ b = 0 := ed_zd ed_iv ed_hiv a b h
