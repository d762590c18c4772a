/-! the code lists are the code (by program) -/
set_option maxRecDepth 100000 in
theorem vk0 : (vt0.all fun y => vokB 0 y && vdecB 0 y && vparB y) = true := by decide +kernel
set_option maxRecDepth 100000 in
theorem vk1 : (vt1.all fun y => vokB 1 y && vdecB 1 y && vparB y) = true := by decide +kernel
set_option maxRecDepth 100000 in
theorem vk2 : (vt2.all fun y => vokB 2 y && vdecB 2 y && vparB y) = true := by decide +kernel
set_option maxRecDepth 100000 in
theorem vk3 : (vt3.all fun y => vokB 3 y && vdecB 3 y && vparB y) = true := by decide +kernel
set_option maxRecDepth 100000 in
theorem vk4 : (vt4.all fun y => vokB 4 y && vdecB 4 y && vparB y) = true := by decide +kernel
set_option maxRecDepth 100000 in
theorem vk5 : (vt5.all fun y => vokB 5 y && vdecB 5 y && vparB y) = true := by decide +kernel
set_option maxRecDepth 100000 in
theorem vk6 : (vt6.all fun y => vokB 6 y && vdecB 6 y && vparB y) = true := by decide +kernel
set_option maxRecDepth 100000 in
theorem vk7 : (vt7.all fun y => vokB 7 y && vdecB 7 y && vparB y) = true := by decide +kernel
set_option maxRecDepth 100000 in
theorem vk8 : (vt8.all fun y => vokB 8 y && vdecB 8 y && vparB y) = true := by decide +kernel
set_option maxRecDepth 100000 in
theorem vk9 : (vt9.all fun y => vokB 9 y && vdecB 9 y && vparB y) = true := by decide +kernel
set_option maxRecDepth 100000 in
theorem vk10 : (vt10.all fun y => vokB 10 y && vdecB 10 y && vparB y) = true := by decide +kernel
set_option maxRecDepth 100000 in
theorem vk11 : (vt11.all fun y => vokB 11 y && vdecB 11 y && vparB y) = true := by decide +kernel
set_option maxRecDepth 100000 in
theorem vk12 : (vt12.all fun y => vokB 12 y && vdecB 12 y && vparB y) = true := by decide +kernel
set_option maxRecDepth 100000 in
theorem vk13 : (vt13.all fun y => vokB 13 y && vdecB 13 y && vparB y) = true := by decide +kernel
set_option maxRecDepth 100000 in
theorem vk14 : (vt14.all fun y => vokB 14 y && vdecB 14 y && vparB y) = true := by decide +kernel
set_option maxRecDepth 100000 in
theorem vk15 : (vt15.all fun y => vokB 15 y && vdecB 15 y && vparB y) = true := by decide +kernel
set_option maxRecDepth 100000 in
theorem vk16 : (vt16.all fun y => vokB 16 y && vdecB 16 y && vparB y) = true := by decide +kernel
set_option maxRecDepth 100000 in
theorem vk17 : (vt17.all fun y => vokB 17 y && vdecB 17 y && vparB y) = true := by decide +kernel
set_option maxRecDepth 100000 in
theorem vk18 : (vt18.all fun y => vokB 18 y && vdecB 18 y && vparB y) = true := by decide +kernel
set_option maxRecDepth 100000 in
theorem vk19 : (vt19.all fun y => vokB 19 y && vdecB 19 y && vparB y) = true := by decide +kernel
set_option maxRecDepth 100000 in
theorem vk20 : (vt20.all fun y => vokB 20 y && vdecB 20 y && vparB y) = true := by decide +kernel
set_option maxRecDepth 100000 in
theorem vk21 : (vt21.all fun y => vokB 21 y && vdecB 21 y && vparB y) = true := by decide +kernel
set_option maxRecDepth 100000 in
theorem vk22 : (vt22.all fun y => vokB 22 y && vdecB 22 y && vparB y) = true := by decide +kernel
set_option maxRecDepth 100000 in
theorem vk23 : (vt23.all fun y => vokB 23 y && vdecB 23 y && vparB y) = true := by decide +kernel
set_option maxRecDepth 100000 in
theorem vk24 : (vt24.all fun y => vokB 24 y && vdecB 24 y && vparB y) = true := by decide +kernel
set_option maxRecDepth 100000 in
theorem vk25 : (vt25.all fun y => vokB 25 y && vdecB 25 y && vparB y) = true := by decide +kernel
set_option maxRecDepth 100000 in
theorem vk26 : (vt26.all fun y => vokB 26 y && vdecB 26 y && vparB y) = true := by decide +kernel
set_option maxRecDepth 100000 in
theorem vk27 : (vt27.all fun y => vokB 27 y && vdecB 27 y && vparB y) = true := by decide +kernel
set_option maxRecDepth 100000 in
theorem vk28 : (vt28.all fun y => vokB 28 y && vdecB 28 y && vparB y) = true := by decide +kernel
set_option maxRecDepth 100000 in
theorem vk29 : (vt29.all fun y => vokB 29 y && vdecB 29 y && vparB y) = true := by decide +kernel
set_option maxRecDepth 100000 in
theorem vk30 : (vt30.all fun y => vokB 30 y && vdecB 30 y && vparB y) = true := by decide +kernel
set_option maxRecDepth 100000 in
theorem vk31 : (vt31.all fun y => vokB 31 y && vdecB 31 y && vparB y) = true := by decide +kernel
set_option maxRecDepth 100000 in
theorem vk32 : (vt32.all fun y => vokB 32 y && vdecB 32 y && vparB y) = true := by decide +kernel
set_option maxRecDepth 100000 in
theorem vk33 : (vt33.all fun y => vokB 33 y && vdecB 33 y && vparB y) = true := by decide +kernel
set_option maxRecDepth 100000 in
theorem vk34 : (vt34.all fun y => vokB 34 y && vdecB 34 y && vparB y) = true := by decide +kernel
set_option maxRecDepth 100000 in
theorem vk35 : (vt35.all fun y => vokB 35 y && vdecB 35 y && vparB y) = true := by decide +kernel
set_option maxRecDepth 100000 in
theorem vk36 : (vt36.all fun y => vokB 36 y && vdecB 36 y && vparB y) = true := by decide +kernel
set_option maxRecDepth 100000 in
theorem vk37 : (vt37.all fun y => vokB 37 y && vdecB 37 y && vparB y) = true := by decide +kernel
set_option maxRecDepth 100000 in
theorem vk38 : (vt38.all fun y => vokB 38 y && vdecB 38 y && vparB y) = true := by decide +kernel
set_option maxRecDepth 100000 in
theorem vk39 : (vt39.all fun y => vokB 39 y && vdecB 39 y && vparB y) = true := by decide +kernel
set_option maxRecDepth 100000 in
theorem vk40 : (vt40.all fun y => vokB 40 y && vdecB 40 y && vparB y) = true := by decide +kernel
set_option maxRecDepth 100000 in
theorem vk41 : (vt41.all fun y => vokB 41 y && vdecB 41 y && vparB y) = true := by decide +kernel
set_option maxRecDepth 100000 in
theorem vk42 : (vt42.all fun y => vokB 42 y && vdecB 42 y && vparB y) = true := by decide +kernel
set_option maxRecDepth 100000 in
theorem vk43 : (vt43.all fun y => vokB 43 y && vdecB 43 y && vparB y) = true := by decide +kernel
set_option maxRecDepth 100000 in
theorem vk44 : (vt44.all fun y => vokB 44 y && vdecB 44 y && vparB y) = true := by decide +kernel
set_option maxRecDepth 100000 in
theorem vk45 : (vt45.all fun y => vokB 45 y && vdecB 45 y && vparB y) = true := by decide +kernel
set_option maxRecDepth 100000 in
theorem vk46 : (vt46.all fun y => vokB 46 y && vdecB 46 y && vparB y) = true := by decide +kernel
set_option maxRecDepth 100000 in
theorem vk47 : (vt47.all fun y => vokB 47 y && vdecB 47 y && vparB y) = true := by decide +kernel
set_option maxRecDepth 100000 in
theorem vk48 : (vt48.all fun y => vokB 48 y && vdecB 48 y && vparB y) = true := by decide +kernel
set_option maxRecDepth 100000 in
theorem vk49 : (vt49.all fun y => vokB 49 y && vdecB 49 y && vparB y) = true := by decide +kernel
set_option maxRecDepth 100000 in
theorem vk50 : (vt50.all fun y => vokB 50 y && vdecB 50 y && vparB y) = true := by decide +kernel
set_option maxRecDepth 100000 in
theorem vk51 : (vt51.all fun y => vokB 51 y && vdecB 51 y && vparB y) = true := by decide +kernel
set_option maxRecDepth 100000 in
theorem vk52 : (vt52.all fun y => vokB 52 y && vdecB 52 y && vparB y) = true := by decide +kernel
set_option maxRecDepth 100000 in
theorem vk53 : (vt53.all fun y => vokB 53 y && vdecB 53 y && vparB y) = true := by decide +kernel
set_option maxRecDepth 100000 in
theorem vk54 : (vt54.all fun y => vokB 54 y && vdecB 54 y && vparB y) = true := by decide +kernel
set_option maxRecDepth 100000 in
theorem vk55 : (vt55.all fun y => vokB 55 y && vdecB 55 y && vparB y) = true := by decide +kernel
set_option maxRecDepth 100000 in
theorem vk56 : (vt56.all fun y => vokB 56 y && vdecB 56 y && vparB y) = true := by decide +kernel
set_option maxRecDepth 100000 in
theorem vk57 : (vt57.all fun y => vokB 57 y && vdecB 57 y && vparB y) = true := by decide +kernel
set_option maxRecDepth 100000 in
theorem vk58 : (vt58.all fun y => vokB 58 y && vdecB 58 y && vparB y) = true := by decide +kernel
set_option maxRecDepth 100000 in
theorem vk59 : (vt59.all fun y => vokB 59 y && vdecB 59 y && vparB y) = true := by decide +kernel
set_option maxRecDepth 100000 in
theorem vk60 : (vt60.all fun y => vokB 60 y && vdecB 60 y && vparB y) = true := by decide +kernel
set_option maxRecDepth 100000 in
theorem vk61 : (vt61.all fun y => vokB 61 y && vdecB 61 y && vparB y) = true := by decide +kernel
set_option maxRecDepth 100000 in
theorem vk62 : (vt62.all fun y => vokB 62 y && vdecB 62 y && vparB y) = true := by decide +kernel
set_option maxRecDepth 100000 in
theorem vk63 : (vt63.all fun y => vokB 63 y && vdecB 63 y && vparB y) = true := by decide +kernel
set_option maxRecDepth 100000 in
theorem vk64 : (vt64.all fun y => vokB 64 y && vdecB 64 y && vparB y) = true := by decide +kernel
set_option maxRecDepth 100000 in
theorem vk65 : (vt65.all fun y => vokB 65 y && vdecB 65 y && vparB y) = true := by decide +kernel
set_option maxRecDepth 100000 in
theorem vk66 : (vt66.all fun y => vokB 66 y && vdecB 66 y && vparB y) = true := by decide +kernel
