theorem kw_1288 : Cond.methodLink RX11 233 yX11_needLeave ∈ mx_tbl := mx_in (mx_t6 (List.mem_of_getElem? (i := 88) (by decide +kernel))) (by decide +kernel)
theorem kw_1289 : Cond.static yX11_needLeave ∈ mx_tbl := mx_in (mx_t6 (List.mem_of_getElem? (i := 89) (by decide +kernel))) (by decide +kernel)
theorem kw_1290 : Cond.code yX11_needLeave cX11_needLeave 1 none ∈ mx_tbl := mx_in (mx_t6 (List.mem_of_getElem? (i := 90) rfl)) rfl
theorem kw_1291 : Cond.classLink RX11 344 "java/lang/IllegalStateException" ∈ mx_tbl := mx_in (mx_t6 (List.mem_of_getElem? (i := 91) (by decide +kernel))) (by decide +kernel)
theorem kw_1292 : Cond.instantiable "java/lang/IllegalStateException" 6 ∈ mx_tbl := mx_in (mx_t6 (List.mem_of_getElem? (i := 92) (by decide +kernel))) (by decide +kernel)
theorem kw_1294 : Cond.selects "java/lang/IllegalStateException" ⟨"java/lang/Throwable", "fillInStackTrace", "(I)Ljava/lang/Throwable;"⟩ ⟨"java/lang/Throwable", "fillInStackTrace", "(I)Ljava/lang/Throwable;"⟩ ∈ mx_tbl := mx_in (mx_t6 (List.mem_of_getElem? (i := 94) (by decide +kernel))) (by decide +kernel)
theorem kw_1300 : Cond.methodLink RX11 346 ⟨"java/lang/IllegalStateException", "<init>", "()V"⟩ ∈ mx_tbl := mx_in (mx_t6 (List.mem_of_getElem? (i := 100) (by decide +kernel))) (by decide +kernel)
theorem kw_1301 : Cond.instanceMethod ⟨"java/lang/IllegalStateException", "<init>", "()V"⟩ ∈ mx_tbl := mx_in (mx_t6 (List.mem_of_getElem? (i := 101) (by decide +kernel))) (by decide +kernel)
theorem kw_1303 : Cond.methodLink "java/lang/IllegalStateException" 1 ⟨"java/lang/RuntimeException", "<init>", "()V"⟩ ∈ mx_tbl := mx_in (mx_t6 (List.mem_of_getElem? (i := 103) (by decide +kernel))) (by decide +kernel)
theorem kw_1306 : Cond.methodLink RX11 160 yX7_walk ∈ mx_tbl := mx_in (mx_t6 (List.mem_of_getElem? (i := 106) (by decide +kernel))) (by decide +kernel)
theorem kw_1307 : Cond.instanceMethod yX7_walk ∈ mx_tbl := mx_in (mx_t6 (List.mem_of_getElem? (i := 107) (by decide +kernel))) (by decide +kernel)
theorem kw_1308 : Cond.selects RX7 yX7_walk yX7_walk ∈ mx_tbl := mx_in (mx_t6 (List.mem_of_getElem? (i := 108) (by decide +kernel))) (by decide +kernel)
theorem kw_1309 : Cond.code yX7_walk cX7_walk 7 none ∈ mx_tbl := mx_in (mx_t6 (List.mem_of_getElem? (i := 109) rfl)) rfl
theorem kw_1310 : Cond.methodLink RLn 191 yL_range ∈ mx_tbl := mx_in (mx_t6 (List.mem_of_getElem? (i := 110) (by decide +kernel))) (by decide +kernel)
theorem kw_1311 : Cond.static yL_range ∈ mx_tbl := mx_in (mx_t6 (List.mem_of_getElem? (i := 111) (by decide +kernel))) (by decide +kernel)
theorem kw_1313 : Cond.methodLink RLn 47 yX11_range ∈ mx_tbl := mx_in (mx_t6 (List.mem_of_getElem? (i := 113) (by decide +kernel))) (by decide +kernel)
theorem kw_1314 : Cond.instanceMethod yX11_range ∈ mx_tbl := mx_in (mx_t6 (List.mem_of_getElem? (i := 114) (by decide +kernel))) (by decide +kernel)
theorem kw_1315 : Cond.selects RX11 yX11_range yX11_range ∈ mx_tbl := mx_in (mx_t6 (List.mem_of_getElem? (i := 115) (by decide +kernel))) (by decide +kernel)
theorem kw_1316 : Cond.code yX11_range cX11_range 4 (some .int) ∈ mx_tbl := mx_in (mx_t6 (List.mem_of_getElem? (i := 116) rfl)) rfl
theorem kw_1317 : Cond.methodLink RX11 166 yX7_runsOf ∈ mx_tbl := mx_in (mx_t6 (List.mem_of_getElem? (i := 117) (by decide +kernel))) (by decide +kernel)
theorem kw_1318 : Cond.instanceMethod yX7_runsOf ∈ mx_tbl := mx_in (mx_t6 (List.mem_of_getElem? (i := 118) (by decide +kernel))) (by decide +kernel)
theorem kw_1319 : Cond.selects RX7 yX7_runsOf yX7_runsOf ∈ mx_tbl := mx_in (mx_t6 (List.mem_of_getElem? (i := 119) (by decide +kernel))) (by decide +kernel)
theorem kw_1320 : Cond.code yX7_runsOf cX7_runsOf 11 (some .int) ∈ mx_tbl := mx_in (mx_t6 (List.mem_of_getElem? (i := 120) rfl)) rfl
theorem kw_1321 : Cond.methodLink RLn 194 yL_spread ∈ mx_tbl := mx_in (mx_t6 (List.mem_of_getElem? (i := 121) (by decide +kernel))) (by decide +kernel)
theorem kw_1322 : Cond.static yL_spread ∈ mx_tbl := mx_in (mx_t6 (List.mem_of_getElem? (i := 122) (by decide +kernel))) (by decide +kernel)
theorem kw_1324 : Cond.methodLink RLn 50 yX11_spread ∈ mx_tbl := mx_in (mx_t6 (List.mem_of_getElem? (i := 124) (by decide +kernel))) (by decide +kernel)
theorem kw_1325 : Cond.instanceMethod yX11_spread ∈ mx_tbl := mx_in (mx_t6 (List.mem_of_getElem? (i := 125) (by decide +kernel))) (by decide +kernel)
theorem kw_1326 : Cond.selects RX11 yX11_spread yX11_spread ∈ mx_tbl := mx_in (mx_t6 (List.mem_of_getElem? (i := 126) (by decide +kernel))) (by decide +kernel)
theorem kw_1327 : Cond.code yX11_spread cX11_spread 6 (some .long) ∈ mx_tbl := mx_in (mx_t6 (List.mem_of_getElem? (i := 127) rfl)) rfl
theorem kw_1328 : Cond.methodLink RX11 170 yX7_sweep ∈ mx_tbl := mx_in (mx_t6 (List.mem_of_getElem? (i := 128) (by decide +kernel))) (by decide +kernel)
theorem kw_1329 : Cond.instanceMethod yX7_sweep ∈ mx_tbl := mx_in (mx_t6 (List.mem_of_getElem? (i := 129) (by decide +kernel))) (by decide +kernel)
theorem kw_1330 : Cond.selects RX7 yX7_sweep yX7_sweep ∈ mx_tbl := mx_in (mx_t6 (List.mem_of_getElem? (i := 130) (by decide +kernel))) (by decide +kernel)
theorem kw_1331 : Cond.code yX7_sweep cX7_sweep 9 none ∈ mx_tbl := mx_in (mx_t6 (List.mem_of_getElem? (i := 131) rfl)) rfl
theorem kw_1332 : Cond.methodLink RX7 342 yX0_shut ∈ mx_tbl := mx_in (mx_t6 (List.mem_of_getElem? (i := 132) (by decide +kernel))) (by decide +kernel)
theorem kw_1333 : Cond.methodLink RX7 343 yJ9_min_f86c9 ∈ mx_tbl := mx_in (mx_t6 (List.mem_of_getElem? (i := 133) (by decide +kernel))) (by decide +kernel)
theorem kw_1334 : Cond.methodLink RX7 347 yJ9_max_f86c9 ∈ mx_tbl := mx_in (mx_t6 (List.mem_of_getElem? (i := 134) (by decide +kernel))) (by decide +kernel)
theorem kw_1335 : Cond.methodLink RLn 197 yL_least ∈ mx_tbl := mx_in (mx_t6 (List.mem_of_getElem? (i := 135) (by decide +kernel))) (by decide +kernel)
theorem kw_1336 : Cond.static yL_least ∈ mx_tbl := mx_in (mx_t6 (List.mem_of_getElem? (i := 136) (by decide +kernel))) (by decide +kernel)
theorem kw_1338 : Cond.methodLink RLn 54 yX11_least ∈ mx_tbl := mx_in (mx_t6 (List.mem_of_getElem? (i := 138) (by decide +kernel))) (by decide +kernel)
theorem kw_1339 : Cond.instanceMethod yX11_least ∈ mx_tbl := mx_in (mx_t6 (List.mem_of_getElem? (i := 139) (by decide +kernel))) (by decide +kernel)
theorem kw_1340 : Cond.selects RX11 yX11_least yX11_least ∈ mx_tbl := mx_in (mx_t6 (List.mem_of_getElem? (i := 140) (by decide +kernel))) (by decide +kernel)
theorem kw_1341 : Cond.code yX11_least cX11_least 6 (some .long) ∈ mx_tbl := mx_in (mx_t6 (List.mem_of_getElem? (i := 141) rfl)) rfl
theorem kw_1342 : Cond.methodLink RX11 188 yX7_approach ∈ mx_tbl := mx_in (mx_t6 (List.mem_of_getElem? (i := 142) (by decide +kernel))) (by decide +kernel)
theorem kw_1343 : Cond.instanceMethod yX7_approach ∈ mx_tbl := mx_in (mx_t6 (List.mem_of_getElem? (i := 143) (by decide +kernel))) (by decide +kernel)
theorem kw_1344 : Cond.selects RX7 yX7_approach yX7_approach ∈ mx_tbl := mx_in (mx_t6 (List.mem_of_getElem? (i := 144) (by decide +kernel))) (by decide +kernel)
theorem kw_1345 : Cond.code yX7_approach cX7_approach 7 none ∈ mx_tbl := mx_in (mx_t6 (List.mem_of_getElem? (i := 145) rfl)) rfl
theorem kw_1346 : Cond.methodLink RX7 350 yX7_offerLeast ∈ mx_tbl := mx_in (mx_t6 (List.mem_of_getElem? (i := 146) (by decide +kernel))) (by decide +kernel)
theorem kw_1348 : Cond.instanceMethod yX7_offerLeast ∈ mx_tbl := mx_in (mx_t6 (List.mem_of_getElem? (i := 148) (by decide +kernel))) (by decide +kernel)
theorem kw_1349 : Cond.code yX7_offerLeast cX7_offerLeast 2 none ∈ mx_tbl := mx_in (mx_t6 (List.mem_of_getElem? (i := 149) rfl)) rfl
theorem kw_1350 : Cond.methodLink RLn 200 yL_speed ∈ mx_tbl := mx_in (mx_t6 (List.mem_of_getElem? (i := 150) (by decide +kernel))) (by decide +kernel)
theorem kw_1351 : Cond.static yL_speed ∈ mx_tbl := mx_in (mx_t6 (List.mem_of_getElem? (i := 151) (by decide +kernel))) (by decide +kernel)
theorem kw_1353 : Cond.methodLink RLn 57 yX11_speed ∈ mx_tbl := mx_in (mx_t6 (List.mem_of_getElem? (i := 153) (by decide +kernel))) (by decide +kernel)
theorem kw_1354 : Cond.instanceMethod yX11_speed ∈ mx_tbl := mx_in (mx_t6 (List.mem_of_getElem? (i := 154) (by decide +kernel))) (by decide +kernel)
theorem kw_1355 : Cond.selects RX11 yX11_speed yX11_speed ∈ mx_tbl := mx_in (mx_t6 (List.mem_of_getElem? (i := 155) (by decide +kernel))) (by decide +kernel)
theorem kw_1356 : Cond.code yX11_speed cX11_speed 6 (some .long) ∈ mx_tbl := mx_in (mx_t6 (List.mem_of_getElem? (i := 156) rfl)) rfl
theorem kw_1357 : Cond.methodLink RX11 191 yX7_reckonSpeeds ∈ mx_tbl := mx_in (mx_t6 (List.mem_of_getElem? (i := 157) (by decide +kernel))) (by decide +kernel)
theorem kw_1358 : Cond.instanceMethod yX7_reckonSpeeds ∈ mx_tbl := mx_in (mx_t6 (List.mem_of_getElem? (i := 158) (by decide +kernel))) (by decide +kernel)
theorem kw_1359 : Cond.selects RX7 yX7_reckonSpeeds yX7_reckonSpeeds ∈ mx_tbl := mx_in (mx_t6 (List.mem_of_getElem? (i := 159) (by decide +kernel))) (by decide +kernel)
theorem kw_1360 : Cond.code yX7_reckonSpeeds cX7_reckonSpeeds 4 none ∈ mx_tbl := mx_in (mx_t6 (List.mem_of_getElem? (i := 160) rfl)) rfl
theorem kw_1361 : Cond.methodLink RX7 353 yX7_speedCrank ∈ mx_tbl := mx_in (mx_t6 (List.mem_of_getElem? (i := 161) (by decide +kernel))) (by decide +kernel)
theorem kw_1363 : Cond.instanceMethod yX7_speedCrank ∈ mx_tbl := mx_in (mx_t6 (List.mem_of_getElem? (i := 163) (by decide +kernel))) (by decide +kernel)
theorem kw_1364 : Cond.code yX7_speedCrank cX7_speedCrank 3 none ∈ mx_tbl := mx_in (mx_t6 (List.mem_of_getElem? (i := 164) rfl)) rfl
theorem kw_1365 : Cond.methodLink RX7 357 yX7_speedDyad ∈ mx_tbl := mx_in (mx_t6 (List.mem_of_getElem? (i := 165) (by decide +kernel))) (by decide +kernel)
theorem kw_1367 : Cond.instanceMethod yX7_speedDyad ∈ mx_tbl := mx_in (mx_t6 (List.mem_of_getElem? (i := 167) (by decide +kernel))) (by decide +kernel)
theorem kw_1368 : Cond.code yX7_speedDyad cX7_speedDyad 4 none ∈ mx_tbl := mx_in (mx_t6 (List.mem_of_getElem? (i := 168) rfl)) rfl
theorem kw_1369 : Cond.methodLink RX7 369 yX7_meet ∈ mx_tbl := mx_in (mx_t6 (List.mem_of_getElem? (i := 169) (by decide +kernel))) (by decide +kernel)
theorem kw_1371 : Cond.instanceMethod yX7_meet ∈ mx_tbl := mx_in (mx_t6 (List.mem_of_getElem? (i := 171) (by decide +kernel))) (by decide +kernel)
theorem kw_1372 : Cond.code yX7_meet cX7_meet 4 none ∈ mx_tbl := mx_in (mx_t6 (List.mem_of_getElem? (i := 172) rfl)) rfl
theorem kw_1373 : Cond.methodLink RX7 360 yX7_speedSlide ∈ mx_tbl := mx_in (mx_t6 (List.mem_of_getElem? (i := 173) (by decide +kernel))) (by decide +kernel)
theorem kw_1375 : Cond.instanceMethod yX7_speedSlide ∈ mx_tbl := mx_in (mx_t6 (List.mem_of_getElem? (i := 175) (by decide +kernel))) (by decide +kernel)
theorem kw_1376 : Cond.code yX7_speedSlide cX7_speedSlide 3 none ∈ mx_tbl := mx_in (mx_t6 (List.mem_of_getElem? (i := 176) rfl)) rfl
theorem kw_1377 : Cond.methodLink RX7 373 yX7_drift ∈ mx_tbl := mx_in (mx_t6 (List.mem_of_getElem? (i := 177) (by decide +kernel))) (by decide +kernel)
theorem kw_1379 : Cond.instanceMethod yX7_drift ∈ mx_tbl := mx_in (mx_t6 (List.mem_of_getElem? (i := 179) (by decide +kernel))) (by decide +kernel)
theorem kw_1380 : Cond.code yX7_drift cX7_drift 6 none ∈ mx_tbl := mx_in (mx_t6 (List.mem_of_getElem? (i := 180) rfl)) rfl
theorem kw_1381 : Cond.methodLink RX7 366 yX7_speedCross ∈ mx_tbl := mx_in (mx_t6 (List.mem_of_getElem? (i := 181) (by decide +kernel))) (by decide +kernel)
theorem kw_1383 : Cond.instanceMethod yX7_speedCross ∈ mx_tbl := mx_in (mx_t6 (List.mem_of_getElem? (i := 183) (by decide +kernel))) (by decide +kernel)
theorem kw_1384 : Cond.code yX7_speedCross cX7_speedCross 2 none ∈ mx_tbl := mx_in (mx_t6 (List.mem_of_getElem? (i := 184) rfl)) rfl
theorem kw_1385 : Cond.methodLink RLn 203 yL_pole ∈ mx_tbl := mx_in (mx_t6 (List.mem_of_getElem? (i := 185) (by decide +kernel))) (by decide +kernel)
theorem kw_1386 : Cond.static yL_pole ∈ mx_tbl := mx_in (mx_t6 (List.mem_of_getElem? (i := 186) (by decide +kernel))) (by decide +kernel)
theorem kw_1388 : Cond.methodLink RLn 60 yX11_pole ∈ mx_tbl := mx_in (mx_t6 (List.mem_of_getElem? (i := 188) (by decide +kernel))) (by decide +kernel)
theorem kw_1389 : Cond.instanceMethod yX11_pole ∈ mx_tbl := mx_in (mx_t6 (List.mem_of_getElem? (i := 189) (by decide +kernel))) (by decide +kernel)
theorem kw_1390 : Cond.selects RX11 yX11_pole yX11_pole ∈ mx_tbl := mx_in (mx_t6 (List.mem_of_getElem? (i := 190) (by decide +kernel))) (by decide +kernel)
theorem kw_1391 : Cond.code yX11_pole cX11_pole 7 (some .long) ∈ mx_tbl := mx_in (mx_t6 (List.mem_of_getElem? (i := 191) rfl)) rfl
theorem kw_1392 : Cond.methodLink RX11 197 yX7_poleOf ∈ mx_tbl := mx_in (mx_t6 (List.mem_of_getElem? (i := 192) (by decide +kernel))) (by decide +kernel)
theorem kw_1393 : Cond.instanceMethod yX7_poleOf ∈ mx_tbl := mx_in (mx_t6 (List.mem_of_getElem? (i := 193) (by decide +kernel))) (by decide +kernel)
theorem kw_1394 : Cond.selects RX7 yX7_poleOf yX7_poleOf ∈ mx_tbl := mx_in (mx_t6 (List.mem_of_getElem? (i := 194) (by decide +kernel))) (by decide +kernel)
theorem kw_1395 : Cond.code yX7_poleOf cX7_poleOf 3 (some (.object "MechanismHouse$Pair")) ∈ mx_tbl := mx_in (mx_t6 (List.mem_of_getElem? (i := 195) rfl)) rfl
theorem kw_1396 : Cond.methodLink RLn 207 yL_load ∈ mx_tbl := mx_in (mx_t6 (List.mem_of_getElem? (i := 196) (by decide +kernel))) (by decide +kernel)
theorem kw_1397 : Cond.static yL_load ∈ mx_tbl := mx_in (mx_t6 (List.mem_of_getElem? (i := 197) (by decide +kernel))) (by decide +kernel)
theorem kw_1399 : Cond.methodLink RLn 64 yX11_load ∈ mx_tbl := mx_in (mx_t6 (List.mem_of_getElem? (i := 199) (by decide +kernel))) (by decide +kernel)
theorem kw_1400 : Cond.instanceMethod yX11_load ∈ mx_tbl := mx_in (mx_t6 (List.mem_of_getElem? (i := 200) (by decide +kernel))) (by decide +kernel)
theorem kw_1401 : Cond.selects RX11 yX11_load yX11_load ∈ mx_tbl := mx_in (mx_t6 (List.mem_of_getElem? (i := 201) (by decide +kernel))) (by decide +kernel)
theorem kw_1402 : Cond.code yX11_load cX11_load 4 none ∈ mx_tbl := mx_in (mx_t6 (List.mem_of_getElem? (i := 202) rfl)) rfl
theorem kw_1403 : Cond.methodLink RLn 211 yL_mass ∈ mx_tbl := mx_in (mx_t6 (List.mem_of_getElem? (i := 203) (by decide +kernel))) (by decide +kernel)
theorem kw_1404 : Cond.static yL_mass ∈ mx_tbl := mx_in (mx_t6 (List.mem_of_getElem? (i := 204) (by decide +kernel))) (by decide +kernel)
theorem kw_1406 : Cond.methodLink RLn 68 yX11_mass ∈ mx_tbl := mx_in (mx_t6 (List.mem_of_getElem? (i := 206) (by decide +kernel))) (by decide +kernel)
theorem kw_1407 : Cond.instanceMethod yX11_mass ∈ mx_tbl := mx_in (mx_t6 (List.mem_of_getElem? (i := 207) (by decide +kernel))) (by decide +kernel)
theorem kw_1408 : Cond.selects RX11 yX11_mass yX11_mass ∈ mx_tbl := mx_in (mx_t6 (List.mem_of_getElem? (i := 208) (by decide +kernel))) (by decide +kernel)
theorem kw_1409 : Cond.code yX11_mass cX11_mass 3 none ∈ mx_tbl := mx_in (mx_t6 (List.mem_of_getElem? (i := 209) rfl)) rfl
theorem kw_1410 : Cond.methodLink RLn 214 yL_moment ∈ mx_tbl := mx_in (mx_t6 (List.mem_of_getElem? (i := 210) (by decide +kernel))) (by decide +kernel)
theorem kw_1411 : Cond.static yL_moment ∈ mx_tbl := mx_in (mx_t6 (List.mem_of_getElem? (i := 211) (by decide +kernel))) (by decide +kernel)
theorem kw_1413 : Cond.methodLink RLn 71 yX11_moment ∈ mx_tbl := mx_in (mx_t6 (List.mem_of_getElem? (i := 213) (by decide +kernel))) (by decide +kernel)
theorem kw_1414 : Cond.instanceMethod yX11_moment ∈ mx_tbl := mx_in (mx_t6 (List.mem_of_getElem? (i := 214) (by decide +kernel))) (by decide +kernel)
theorem kw_1415 : Cond.selects RX11 yX11_moment yX11_moment ∈ mx_tbl := mx_in (mx_t6 (List.mem_of_getElem? (i := 215) (by decide +kernel))) (by decide +kernel)
theorem kw_1416 : Cond.code yX11_moment cX11_moment 4 (some .long) ∈ mx_tbl := mx_in (mx_t6 (List.mem_of_getElem? (i := 216) rfl)) rfl
theorem kw_1417 : Cond.methodLink RX11 210 yX7_reckonMoment ∈ mx_tbl := mx_in (mx_t6 (List.mem_of_getElem? (i := 217) (by decide +kernel))) (by decide +kernel)
theorem kw_1418 : Cond.instanceMethod yX7_reckonMoment ∈ mx_tbl := mx_in (mx_t6 (List.mem_of_getElem? (i := 218) (by decide +kernel))) (by decide +kernel)
theorem kw_1419 : Cond.selects RX7 yX7_reckonMoment yX7_reckonMoment ∈ mx_tbl := mx_in (mx_t6 (List.mem_of_getElem? (i := 219) (by decide +kernel))) (by decide +kernel)
theorem kw_1420 : Cond.code yX7_reckonMoment cX7_reckonMoment 3 none ∈ mx_tbl := mx_in (mx_t6 (List.mem_of_getElem? (i := 220) rfl)) rfl
theorem kw_1421 : Cond.methodLink RX7 383 yX0_addWhole ∈ mx_tbl := mx_in (mx_t6 (List.mem_of_getElem? (i := 221) (by decide +kernel))) (by decide +kernel)
theorem kw_1422 : Cond.instanceMethod yX0_addWhole ∈ mx_tbl := mx_in (mx_t6 (List.mem_of_getElem? (i := 222) (by decide +kernel))) (by decide +kernel)
theorem kw_1423 : Cond.selects RX0 yX0_addWhole yX0_addWhole ∈ mx_tbl := mx_in (mx_t6 (List.mem_of_getElem? (i := 223) (by decide +kernel))) (by decide +kernel)
theorem kw_1424 : Cond.code yX0_addWhole cX0_addWhole 8 none ∈ mx_tbl := mx_in (mx_t6 (List.mem_of_getElem? (i := 224) rfl)) rfl
theorem kw_1425 : Cond.methodLink RLn 217 yL_middle ∈ mx_tbl := mx_in (mx_t6 (List.mem_of_getElem? (i := 225) (by decide +kernel))) (by decide +kernel)
theorem kw_1426 : Cond.static yL_middle ∈ mx_tbl := mx_in (mx_t6 (List.mem_of_getElem? (i := 226) (by decide +kernel))) (by decide +kernel)
theorem kw_1428 : Cond.methodLink RLn 75 yX11_middle ∈ mx_tbl := mx_in (mx_t6 (List.mem_of_getElem? (i := 228) (by decide +kernel))) (by decide +kernel)
theorem kw_1429 : Cond.instanceMethod yX11_middle ∈ mx_tbl := mx_in (mx_t6 (List.mem_of_getElem? (i := 229) (by decide +kernel))) (by decide +kernel)
theorem kw_1430 : Cond.selects RX11 yX11_middle yX11_middle ∈ mx_tbl := mx_in (mx_t6 (List.mem_of_getElem? (i := 230) (by decide +kernel))) (by decide +kernel)
theorem kw_1431 : Cond.code yX11_middle cX11_middle 4 (some .long) ∈ mx_tbl := mx_in (mx_t6 (List.mem_of_getElem? (i := 231) rfl)) rfl
theorem kw_1432 : Cond.methodLink RX11 213 yX7_massInAll ∈ mx_tbl := mx_in (mx_t6 (List.mem_of_getElem? (i := 232) (by decide +kernel))) (by decide +kernel)
theorem kw_1433 : Cond.instanceMethod yX7_massInAll ∈ mx_tbl := mx_in (mx_t6 (List.mem_of_getElem? (i := 233) (by decide +kernel))) (by decide +kernel)
theorem kw_1434 : Cond.selects RX7 yX7_massInAll yX7_massInAll ∈ mx_tbl := mx_in (mx_t6 (List.mem_of_getElem? (i := 234) (by decide +kernel))) (by decide +kernel)
theorem kw_1435 : Cond.code yX7_massInAll cX7_massInAll 3 (some .int) ∈ mx_tbl := mx_in (mx_t6 (List.mem_of_getElem? (i := 235) rfl)) rfl
theorem kw_1436 : Cond.methodLink RX11 217 yX7_reckonMiddle ∈ mx_tbl := mx_in (mx_t6 (List.mem_of_getElem? (i := 236) (by decide +kernel))) (by decide +kernel)
theorem kw_1437 : Cond.instanceMethod yX7_reckonMiddle ∈ mx_tbl := mx_in (mx_t6 (List.mem_of_getElem? (i := 237) (by decide +kernel))) (by decide +kernel)
theorem kw_1438 : Cond.selects RX7 yX7_reckonMiddle yX7_reckonMiddle ∈ mx_tbl := mx_in (mx_t6 (List.mem_of_getElem? (i := 238) (by decide +kernel))) (by decide +kernel)
theorem kw_1439 : Cond.code yX7_reckonMiddle cX7_reckonMiddle 4 none ∈ mx_tbl := mx_in (mx_t6 (List.mem_of_getElem? (i := 239) rfl)) rfl
theorem kw_1440 : Cond.methodLink RX7 390 yX7_massInAll ∈ mx_tbl := mx_in (mx_t7 (List.mem_of_getElem? (i := 0) (by decide +kernel))) (by decide +kernel)
theorem kw_1441 : Cond.methodLink RLn 220 yL_gear ∈ mx_tbl := mx_in (mx_t7 (List.mem_of_getElem? (i := 1) (by decide +kernel))) (by decide +kernel)
theorem kw_1442 : Cond.static yL_gear ∈ mx_tbl := mx_in (mx_t7 (List.mem_of_getElem? (i := 2) (by decide +kernel))) (by decide +kernel)
theorem kw_1444 : Cond.methodLink RLn 78 yX11_gear ∈ mx_tbl := mx_in (mx_t7 (List.mem_of_getElem? (i := 4) (by decide +kernel))) (by decide +kernel)
theorem kw_1445 : Cond.instanceMethod yX11_gear ∈ mx_tbl := mx_in (mx_t7 (List.mem_of_getElem? (i := 5) (by decide +kernel))) (by decide +kernel)
theorem kw_1446 : Cond.selects RX11 yX11_gear yX11_gear ∈ mx_tbl := mx_in (mx_t7 (List.mem_of_getElem? (i := 6) (by decide +kernel))) (by decide +kernel)
theorem kw_1447 : Cond.code yX11_gear cX11_gear 3 (some .int) ∈ mx_tbl := mx_in (mx_t7 (List.mem_of_getElem? (i := 7) rfl)) rfl
theorem kw_1448 : Cond.methodLink RX11 223 yX11_needRoom ∈ mx_tbl := mx_in (mx_t7 (List.mem_of_getElem? (i := 8) (by decide +kernel))) (by decide +kernel)
theorem kw_1449 : Cond.static yX11_needRoom ∈ mx_tbl := mx_in (mx_t7 (List.mem_of_getElem? (i := 9) (by decide +kernel))) (by decide +kernel)
theorem kw_1450 : Cond.code yX11_needRoom cX11_needRoom 1 none ∈ mx_tbl := mx_in (mx_t7 (List.mem_of_getElem? (i := 10) rfl)) rfl
theorem kw_1451 : Cond.methodLink RX11 226 yX4_addGear ∈ mx_tbl := mx_in (mx_t7 (List.mem_of_getElem? (i := 11) (by decide +kernel))) (by decide +kernel)
theorem kw_1452 : Cond.instanceMethod yX4_addGear ∈ mx_tbl := mx_in (mx_t7 (List.mem_of_getElem? (i := 12) (by decide +kernel))) (by decide +kernel)
theorem kw_1453 : Cond.selects RX4 yX4_addGear yX4_addGear ∈ mx_tbl := mx_in (mx_t7 (List.mem_of_getElem? (i := 13) (by decide +kernel))) (by decide +kernel)
theorem kw_1454 : Cond.code yX4_addGear cX4_addGear 3 (some .int) ∈ mx_tbl := mx_in (mx_t7 (List.mem_of_getElem? (i := 14) rfl)) rfl
theorem kw_1455 : Cond.methodLink RLn 223 yL_mesh ∈ mx_tbl := mx_in (mx_t7 (List.mem_of_getElem? (i := 15) (by decide +kernel))) (by decide +kernel)
theorem kw_1456 : Cond.static yL_mesh ∈ mx_tbl := mx_in (mx_t7 (List.mem_of_getElem? (i := 16) (by decide +kernel))) (by decide +kernel)
theorem kw_1458 : Cond.methodLink RLn 81 yX11_mesh ∈ mx_tbl := mx_in (mx_t7 (List.mem_of_getElem? (i := 18) (by decide +kernel))) (by decide +kernel)
theorem kw_1459 : Cond.instanceMethod yX11_mesh ∈ mx_tbl := mx_in (mx_t7 (List.mem_of_getElem? (i := 19) (by decide +kernel))) (by decide +kernel)
theorem kw_1460 : Cond.selects RX11 yX11_mesh yX11_mesh ∈ mx_tbl := mx_in (mx_t7 (List.mem_of_getElem? (i := 20) (by decide +kernel))) (by decide +kernel)
theorem kw_1461 : Cond.code yX11_mesh cX11_mesh 5 (some .int) ∈ mx_tbl := mx_in (mx_t7 (List.mem_of_getElem? (i := 21) rfl)) rfl
theorem kw_1462 : Cond.methodLink RX11 239 yX4_addMesh ∈ mx_tbl := mx_in (mx_t7 (List.mem_of_getElem? (i := 22) (by decide +kernel))) (by decide +kernel)
theorem kw_1463 : Cond.instanceMethod yX4_addMesh ∈ mx_tbl := mx_in (mx_t7 (List.mem_of_getElem? (i := 23) (by decide +kernel))) (by decide +kernel)
theorem kw_1464 : Cond.selects RX4 yX4_addMesh yX4_addMesh ∈ mx_tbl := mx_in (mx_t7 (List.mem_of_getElem? (i := 24) (by decide +kernel))) (by decide +kernel)
theorem kw_1465 : Cond.code yX4_addMesh cX4_addMesh 6 (some .int) ∈ mx_tbl := mx_in (mx_t7 (List.mem_of_getElem? (i := 25) rfl)) rfl
theorem kw_1466 : Cond.methodLink RLn 227 yL_shaft ∈ mx_tbl := mx_in (mx_t7 (List.mem_of_getElem? (i := 26) (by decide +kernel))) (by decide +kernel)
theorem kw_1467 : Cond.static yL_shaft ∈ mx_tbl := mx_in (mx_t7 (List.mem_of_getElem? (i := 27) (by decide +kernel))) (by decide +kernel)
theorem kw_1469 : Cond.methodLink RLn 85 yX11_shaft ∈ mx_tbl := mx_in (mx_t7 (List.mem_of_getElem? (i := 29) (by decide +kernel))) (by decide +kernel)
theorem kw_1470 : Cond.instanceMethod yX11_shaft ∈ mx_tbl := mx_in (mx_t7 (List.mem_of_getElem? (i := 30) (by decide +kernel))) (by decide +kernel)
theorem kw_1471 : Cond.selects RX11 yX11_shaft yX11_shaft ∈ mx_tbl := mx_in (mx_t7 (List.mem_of_getElem? (i := 31) (by decide +kernel))) (by decide +kernel)
theorem kw_1472 : Cond.code yX11_shaft cX11_shaft 5 none ∈ mx_tbl := mx_in (mx_t7 (List.mem_of_getElem? (i := 32) rfl)) rfl
theorem kw_1473 : Cond.methodLink RX11 243 yX4_setShaft ∈ mx_tbl := mx_in (mx_t7 (List.mem_of_getElem? (i := 33) (by decide +kernel))) (by decide +kernel)
theorem kw_1474 : Cond.instanceMethod yX4_setShaft ∈ mx_tbl := mx_in (mx_t7 (List.mem_of_getElem? (i := 34) (by decide +kernel))) (by decide +kernel)
theorem kw_1475 : Cond.selects RX4 yX4_setShaft yX4_setShaft ∈ mx_tbl := mx_in (mx_t7 (List.mem_of_getElem? (i := 35) (by decide +kernel))) (by decide +kernel)
theorem kw_1476 : Cond.code yX4_setShaft cX4_setShaft 5 none ∈ mx_tbl := mx_in (mx_t7 (List.mem_of_getElem? (i := 36) rfl)) rfl
theorem kw_1477 : Cond.methodLink RLn 239 yL_turns ∈ mx_tbl := mx_in (mx_t7 (List.mem_of_getElem? (i := 37) (by decide +kernel))) (by decide +kernel)
theorem kw_1478 : Cond.static yL_turns ∈ mx_tbl := mx_in (mx_t7 (List.mem_of_getElem? (i := 38) (by decide +kernel))) (by decide +kernel)
theorem kw_1480 : Cond.methodLink RLn 89 yX11_turns ∈ mx_tbl := mx_in (mx_t7 (List.mem_of_getElem? (i := 40) (by decide +kernel))) (by decide +kernel)
theorem kw_1481 : Cond.instanceMethod yX11_turns ∈ mx_tbl := mx_in (mx_t7 (List.mem_of_getElem? (i := 41) (by decide +kernel))) (by decide +kernel)
theorem kw_1482 : Cond.selects RX11 yX11_turns yX11_turns ∈ mx_tbl := mx_in (mx_t7 (List.mem_of_getElem? (i := 42) (by decide +kernel))) (by decide +kernel)
theorem kw_1483 : Cond.code yX11_turns cX11_turns 3 (some .long) ∈ mx_tbl := mx_in (mx_t7 (List.mem_of_getElem? (i := 43) rfl)) rfl
theorem kw_1484 : Cond.methodLink RX11 252 yX4_isKnown ∈ mx_tbl := mx_in (mx_t7 (List.mem_of_getElem? (i := 44) (by decide +kernel))) (by decide +kernel)
theorem kw_1485 : Cond.instanceMethod yX4_isKnown ∈ mx_tbl := mx_in (mx_t7 (List.mem_of_getElem? (i := 45) (by decide +kernel))) (by decide +kernel)
theorem kw_1486 : Cond.selects RX4 yX4_isKnown yX4_isKnown ∈ mx_tbl := mx_in (mx_t7 (List.mem_of_getElem? (i := 46) (by decide +kernel))) (by decide +kernel)
theorem kw_1487 : Cond.code yX4_isKnown cX4_isKnown 4 (some .boolean) ∈ mx_tbl := mx_in (mx_t7 (List.mem_of_getElem? (i := 47) rfl)) rfl
theorem kw_1488 : Cond.methodLink RX11 256 yX3_number ∈ mx_tbl := mx_in (mx_t7 (List.mem_of_getElem? (i := 48) (by decide +kernel))) (by decide +kernel)
theorem kw_1489 : Cond.instanceMethod yX3_number ∈ mx_tbl := mx_in (mx_t7 (List.mem_of_getElem? (i := 49) (by decide +kernel))) (by decide +kernel)
theorem kw_1490 : Cond.selects RX3 yX3_number yX3_number ∈ mx_tbl := mx_in (mx_t7 (List.mem_of_getElem? (i := 50) (by decide +kernel))) (by decide +kernel)
theorem kw_1491 : Cond.code yX3_number cX3_number 2 (some .long) ∈ mx_tbl := mx_in (mx_t7 (List.mem_of_getElem? (i := 51) rfl)) rfl
theorem kw_1492 : Cond.methodLink RLn 242 yL_interference ∈ mx_tbl := mx_in (mx_t7 (List.mem_of_getElem? (i := 52) (by decide +kernel))) (by decide +kernel)
theorem kw_1493 : Cond.static yL_interference ∈ mx_tbl := mx_in (mx_t7 (List.mem_of_getElem? (i := 53) (by decide +kernel))) (by decide +kernel)
theorem kw_1495 : Cond.methodLink RLn 93 yX11_interference ∈ mx_tbl := mx_in (mx_t7 (List.mem_of_getElem? (i := 55) (by decide +kernel))) (by decide +kernel)
theorem kw_1496 : Cond.instanceMethod yX11_interference ∈ mx_tbl := mx_in (mx_t7 (List.mem_of_getElem? (i := 56) (by decide +kernel))) (by decide +kernel)
theorem kw_1497 : Cond.selects RX11 yX11_interference yX11_interference ∈ mx_tbl := mx_in (mx_t7 (List.mem_of_getElem? (i := 57) (by decide +kernel))) (by decide +kernel)
theorem kw_1498 : Cond.code yX11_interference cX11_interference 4 (some .int) ∈ mx_tbl := mx_in (mx_t7 (List.mem_of_getElem? (i := 58) rfl)) rfl
theorem kw_1499 : Cond.methodLink RX11 257 yX4_clash ∈ mx_tbl := mx_in (mx_t7 (List.mem_of_getElem? (i := 59) (by decide +kernel))) (by decide +kernel)
theorem kw_1500 : Cond.instanceMethod yX4_clash ∈ mx_tbl := mx_in (mx_t7 (List.mem_of_getElem? (i := 60) (by decide +kernel))) (by decide +kernel)
theorem kw_1501 : Cond.selects RX4 yX4_clash yX4_clash ∈ mx_tbl := mx_in (mx_t7 (List.mem_of_getElem? (i := 61) (by decide +kernel))) (by decide +kernel)
theorem kw_1502 : Cond.code yX4_clash cX4_clash 9 (some .int) ∈ mx_tbl := mx_in (mx_t7 (List.mem_of_getElem? (i := 62) rfl)) rfl
theorem kw_1503 : Cond.methodLink RX4 151 yJ9_min_7cf53 ∈ mx_tbl := mx_in (mx_t7 (List.mem_of_getElem? (i := 63) (by decide +kernel))) (by decide +kernel)
theorem kw_1504 : Cond.static yJ9_min_7cf53 ∈ mx_tbl := mx_in (mx_t7 (List.mem_of_getElem? (i := 64) (by decide +kernel))) (by decide +kernel)
theorem kw_1505 : Cond.code yJ9_min_7cf53 cJ9_min_7cf53 2 (some .int) ∈ mx_tbl := mx_in (mx_t7 (List.mem_of_getElem? (i := 65) rfl)) rfl
theorem kw_1506 : Cond.methodLink RX4 154 yJ9_max_7cf53 ∈ mx_tbl := mx_in (mx_t7 (List.mem_of_getElem? (i := 66) (by decide +kernel))) (by decide +kernel)
theorem kw_1507 : Cond.static yJ9_max_7cf53 ∈ mx_tbl := mx_in (mx_t7 (List.mem_of_getElem? (i := 67) (by decide +kernel))) (by decide +kernel)
theorem kw_1508 : Cond.code yJ9_max_7cf53 cJ9_max_7cf53 2 (some .int) ∈ mx_tbl := mx_in (mx_t7 (List.mem_of_getElem? (i := 68) rfl)) rfl
theorem kw_1509 : Cond.constantLong RX4 157 (116978) ∈ mx_tbl := mx_in (mx_t7 (List.mem_of_getElem? (i := 69) (by decide +kernel))) (by decide +kernel)
theorem kw_1510 : Cond.constantLong RX4 159 (2000000) ∈ mx_tbl := mx_in (mx_t7 (List.mem_of_getElem? (i := 70) (by decide +kernel))) (by decide +kernel)
theorem kw_1511 : Cond.constantLong RX4 161 (8) ∈ mx_tbl := mx_in (mx_t7 (List.mem_of_getElem? (i := 71) (by decide +kernel))) (by decide +kernel)
theorem kw_1512 : Cond.constantLong RX4 163 (4000000) ∈ mx_tbl := mx_in (mx_t7 (List.mem_of_getElem? (i := 72) (by decide +kernel))) (by decide +kernel)
theorem kw_1513 : Cond.constantLong RX4 165 (2) ∈ mx_tbl := mx_in (mx_t7 (List.mem_of_getElem? (i := 73) (by decide +kernel))) (by decide +kernel)
theorem kw_1514 : Cond.methodLink RLn 246 yL_trains ∈ mx_tbl := mx_in (mx_t7 (List.mem_of_getElem? (i := 74) (by decide +kernel))) (by decide +kernel)
theorem kw_1515 : Cond.static yL_trains ∈ mx_tbl := mx_in (mx_t7 (List.mem_of_getElem? (i := 75) (by decide +kernel))) (by decide +kernel)
theorem kw_1517 : Cond.methodLink RLn 97 yX11_trains ∈ mx_tbl := mx_in (mx_t7 (List.mem_of_getElem? (i := 77) (by decide +kernel))) (by decide +kernel)
theorem kw_1518 : Cond.instanceMethod yX11_trains ∈ mx_tbl := mx_in (mx_t7 (List.mem_of_getElem? (i := 78) (by decide +kernel))) (by decide +kernel)
theorem kw_1519 : Cond.selects RX11 yX11_trains yX11_trains ∈ mx_tbl := mx_in (mx_t7 (List.mem_of_getElem? (i := 79) (by decide +kernel))) (by decide +kernel)
theorem kw_1520 : Cond.code yX11_trains cX11_trains 5 (some .int) ∈ mx_tbl := mx_in (mx_t7 (List.mem_of_getElem? (i := 80) rfl)) rfl
theorem kw_1521 : Cond.methodLink RX11 261 yX4_findTrains ∈ mx_tbl := mx_in (mx_t7 (List.mem_of_getElem? (i := 81) (by decide +kernel))) (by decide +kernel)
theorem kw_1522 : Cond.instanceMethod yX4_findTrains ∈ mx_tbl := mx_in (mx_t7 (List.mem_of_getElem? (i := 82) (by decide +kernel))) (by decide +kernel)
theorem kw_1523 : Cond.selects RX4 yX4_findTrains yX4_findTrains ∈ mx_tbl := mx_in (mx_t7 (List.mem_of_getElem? (i := 83) (by decide +kernel))) (by decide +kernel)
theorem kw_1524 : Cond.code yX4_findTrains cX4_findTrains 9 (some .int) ∈ mx_tbl := mx_in (mx_t7 (List.mem_of_getElem? (i := 84) rfl)) rfl
theorem kw_1525 : Cond.methodLink RX4 170 yX4_findDrivers ∈ mx_tbl := mx_in (mx_t7 (List.mem_of_getElem? (i := 85) (by decide +kernel))) (by decide +kernel)
theorem kw_1527 : Cond.instanceMethod yX4_findDrivers ∈ mx_tbl := mx_in (mx_t7 (List.mem_of_getElem? (i := 87) (by decide +kernel))) (by decide +kernel)
theorem kw_1528 : Cond.code yX4_findDrivers cX4_findDrivers 9 (some .int) ∈ mx_tbl := mx_in (mx_t7 (List.mem_of_getElem? (i := 88) rfl)) rfl
theorem kw_1529 : Cond.methodLink RX4 174 yX4_keepTrain ∈ mx_tbl := mx_in (mx_t7 (List.mem_of_getElem? (i := 89) (by decide +kernel))) (by decide +kernel)
theorem kw_1531 : Cond.instanceMethod yX4_keepTrain ∈ mx_tbl := mx_in (mx_t7 (List.mem_of_getElem? (i := 91) (by decide +kernel))) (by decide +kernel)
theorem kw_1532 : Cond.code yX4_keepTrain cX4_keepTrain 6 none ∈ mx_tbl := mx_in (mx_t7 (List.mem_of_getElem? (i := 92) rfl)) rfl
theorem kw_1533 : Cond.methodLink RLn 249 yL_train ∈ mx_tbl := mx_in (mx_t7 (List.mem_of_getElem? (i := 93) (by decide +kernel))) (by decide +kernel)
theorem kw_1534 : Cond.static yL_train ∈ mx_tbl := mx_in (mx_t7 (List.mem_of_getElem? (i := 94) (by decide +kernel))) (by decide +kernel)
theorem kw_1536 : Cond.methodLink RLn 101 yX11_train ∈ mx_tbl := mx_in (mx_t7 (List.mem_of_getElem? (i := 96) (by decide +kernel))) (by decide +kernel)
theorem kw_1537 : Cond.instanceMethod yX11_train ∈ mx_tbl := mx_in (mx_t7 (List.mem_of_getElem? (i := 97) (by decide +kernel))) (by decide +kernel)
theorem kw_1538 : Cond.selects RX11 yX11_train yX11_train ∈ mx_tbl := mx_in (mx_t7 (List.mem_of_getElem? (i := 98) (by decide +kernel))) (by decide +kernel)
theorem kw_1539 : Cond.code yX11_train cX11_train 3 (some .int) ∈ mx_tbl := mx_in (mx_t7 (List.mem_of_getElem? (i := 99) rfl)) rfl
theorem kw_1540 : Cond.methodLink RLn 252 yL_cam ∈ mx_tbl := mx_in (mx_t7 (List.mem_of_getElem? (i := 100) (by decide +kernel))) (by decide +kernel)
theorem kw_1541 : Cond.static yL_cam ∈ mx_tbl := mx_in (mx_t7 (List.mem_of_getElem? (i := 101) (by decide +kernel))) (by decide +kernel)
theorem kw_1543 : Cond.methodLink RLn 104 yX11_cam ∈ mx_tbl := mx_in (mx_t7 (List.mem_of_getElem? (i := 103) (by decide +kernel))) (by decide +kernel)
theorem kw_1544 : Cond.instanceMethod yX11_cam ∈ mx_tbl := mx_in (mx_t7 (List.mem_of_getElem? (i := 104) (by decide +kernel))) (by decide +kernel)
theorem kw_1545 : Cond.selects RX11 yX11_cam yX11_cam ∈ mx_tbl := mx_in (mx_t7 (List.mem_of_getElem? (i := 105) (by decide +kernel))) (by decide +kernel)
theorem kw_1546 : Cond.code yX11_cam cX11_cam 3 (some .int) ∈ mx_tbl := mx_in (mx_t7 (List.mem_of_getElem? (i := 106) rfl)) rfl
theorem kw_1547 : Cond.methodLink RX11 271 yX1_isRead ∈ mx_tbl := mx_in (mx_t7 (List.mem_of_getElem? (i := 107) (by decide +kernel))) (by decide +kernel)
theorem kw_1548 : Cond.instanceMethod yX1_isRead ∈ mx_tbl := mx_in (mx_t7 (List.mem_of_getElem? (i := 108) (by decide +kernel))) (by decide +kernel)
theorem kw_1549 : Cond.selects RX1 yX1_isRead yX1_isRead ∈ mx_tbl := mx_in (mx_t7 (List.mem_of_getElem? (i := 109) (by decide +kernel))) (by decide +kernel)
theorem kw_1550 : Cond.code yX1_isRead cX1_isRead 4 (some .boolean) ∈ mx_tbl := mx_in (mx_t7 (List.mem_of_getElem? (i := 110) rfl)) rfl
theorem kw_1552 : Cond.methodLink RX1 42 yX10_isGrammatical ∈ mx_tbl := mx_in (mx_t7 (List.mem_of_getElem? (i := 112) (by decide +kernel))) (by decide +kernel)
theorem kw_1553 : Cond.methodLink RX1 48 yX10_hasStatement ∈ mx_tbl := mx_in (mx_t7 (List.mem_of_getElem? (i := 113) (by decide +kernel))) (by decide +kernel)
theorem kw_1554 : Cond.methodLink RX1 51 yX1_isTaken ∈ mx_tbl := mx_in (mx_t7 (List.mem_of_getElem? (i := 114) (by decide +kernel))) (by decide +kernel)
theorem kw_1556 : Cond.instanceMethod yX1_isTaken ∈ mx_tbl := mx_in (mx_t7 (List.mem_of_getElem? (i := 116) (by decide +kernel))) (by decide +kernel)
theorem kw_1557 : Cond.code yX1_isTaken cX1_isTaken 4 (some .boolean) ∈ mx_tbl := mx_in (mx_t7 (List.mem_of_getElem? (i := 117) rfl)) rfl
theorem kw_1558 : Cond.methodLink RX1 65 yX10_note ∈ mx_tbl := mx_in (mx_t7 (List.mem_of_getElem? (i := 118) (by decide +kernel))) (by decide +kernel)
theorem kw_1559 : Cond.methodLink RX1 72 yX10_isInRange ∈ mx_tbl := mx_in (mx_t7 (List.mem_of_getElem? (i := 119) (by decide +kernel))) (by decide +kernel)
theorem kw_1560 : Cond.methodLink RX1 79 yX10_whole ∈ mx_tbl := mx_in (mx_t7 (List.mem_of_getElem? (i := 120) (by decide +kernel))) (by decide +kernel)
theorem kw_1561 : Cond.methodLink RX1 90 yX3_set ∈ mx_tbl := mx_in (mx_t7 (List.mem_of_getElem? (i := 121) (by decide +kernel))) (by decide +kernel)
theorem kw_1562 : Cond.methodLink RX1 58 yX1_checkSums ∈ mx_tbl := mx_in (mx_t7 (List.mem_of_getElem? (i := 122) (by decide +kernel))) (by decide +kernel)
theorem kw_1564 : Cond.instanceMethod yX1_checkSums ∈ mx_tbl := mx_in (mx_t7 (List.mem_of_getElem? (i := 124) (by decide +kernel))) (by decide +kernel)
theorem kw_1565 : Cond.code yX1_checkSums cX1_checkSums 4 none ∈ mx_tbl := mx_in (mx_t7 (List.mem_of_getElem? (i := 125) rfl)) rfl
theorem kw_1566 : Cond.methodLink RX1 101 yX1_addWhole ∈ mx_tbl := mx_in (mx_t7 (List.mem_of_getElem? (i := 126) (by decide +kernel))) (by decide +kernel)
theorem kw_1568 : Cond.instanceMethod yX1_addWhole ∈ mx_tbl := mx_in (mx_t7 (List.mem_of_getElem? (i := 128) (by decide +kernel))) (by decide +kernel)
theorem kw_1569 : Cond.code yX1_addWhole cX1_addWhole 3 none ∈ mx_tbl := mx_in (mx_t7 (List.mem_of_getElem? (i := 129) rfl)) rfl
theorem kw_1570 : Cond.methodLink RX1 112 yX3_add ∈ mx_tbl := mx_in (mx_t7 (List.mem_of_getElem? (i := 130) (by decide +kernel))) (by decide +kernel)
theorem kw_1571 : Cond.methodLink RLn 255 yL_lift ∈ mx_tbl := mx_in (mx_t7 (List.mem_of_getElem? (i := 131) (by decide +kernel))) (by decide +kernel)
theorem kw_1572 : Cond.static yL_lift ∈ mx_tbl := mx_in (mx_t7 (List.mem_of_getElem? (i := 132) (by decide +kernel))) (by decide +kernel)
theorem kw_1574 : Cond.methodLink RLn 107 yX11_lift ∈ mx_tbl := mx_in (mx_t7 (List.mem_of_getElem? (i := 134) (by decide +kernel))) (by decide +kernel)
theorem kw_1575 : Cond.instanceMethod yX11_lift ∈ mx_tbl := mx_in (mx_t7 (List.mem_of_getElem? (i := 135) (by decide +kernel))) (by decide +kernel)
theorem kw_1576 : Cond.selects RX11 yX11_lift yX11_lift ∈ mx_tbl := mx_in (mx_t7 (List.mem_of_getElem? (i := 136) (by decide +kernel))) (by decide +kernel)
theorem kw_1577 : Cond.code yX11_lift cX11_lift 4 (some .long) ∈ mx_tbl := mx_in (mx_t7 (List.mem_of_getElem? (i := 137) rfl)) rfl
theorem kw_1578 : Cond.methodLink RX11 273 yX1_reckonLift ∈ mx_tbl := mx_in (mx_t7 (List.mem_of_getElem? (i := 138) (by decide +kernel))) (by decide +kernel)
theorem kw_1579 : Cond.instanceMethod yX1_reckonLift ∈ mx_tbl := mx_in (mx_t7 (List.mem_of_getElem? (i := 139) (by decide +kernel))) (by decide +kernel)
theorem kw_1580 : Cond.selects RX1 yX1_reckonLift yX1_reckonLift ∈ mx_tbl := mx_in (mx_t7 (List.mem_of_getElem? (i := 140) (by decide +kernel))) (by decide +kernel)
theorem kw_1581 : Cond.code yX1_reckonLift cX1_reckonLift 9 none ∈ mx_tbl := mx_in (mx_t7 (List.mem_of_getElem? (i := 141) rfl)) rfl
theorem kw_1582 : Cond.methodLink RX1 115 yX1_addPart ∈ mx_tbl := mx_in (mx_t7 (List.mem_of_getElem? (i := 142) (by decide +kernel))) (by decide +kernel)
theorem kw_1584 : Cond.instanceMethod yX1_addPart ∈ mx_tbl := mx_in (mx_t7 (List.mem_of_getElem? (i := 144) (by decide +kernel))) (by decide +kernel)
theorem kw_1585 : Cond.code yX1_addPart cX1_addPart 7 none ∈ mx_tbl := mx_in (mx_t7 (List.mem_of_getElem? (i := 145) rfl)) rfl
theorem kw_1586 : Cond.methodLink RX1 119 yX3_times ∈ mx_tbl := mx_in (mx_t7 (List.mem_of_getElem? (i := 146) (by decide +kernel))) (by decide +kernel)
theorem kw_1587 : Cond.methodLink RX1 122 yX1_reckonParabola ∈ mx_tbl := mx_in (mx_t7 (List.mem_of_getElem? (i := 147) (by decide +kernel))) (by decide +kernel)
theorem kw_1589 : Cond.instanceMethod yX1_reckonParabola ∈ mx_tbl := mx_in (mx_t7 (List.mem_of_getElem? (i := 149) (by decide +kernel))) (by decide +kernel)
theorem kw_1590 : Cond.code yX1_reckonParabola cX1_reckonParabola 2 none ∈ mx_tbl := mx_in (mx_t7 (List.mem_of_getElem? (i := 150) rfl)) rfl
theorem kw_1591 : Cond.constantLong RX1 135 (2) ∈ mx_tbl := mx_in (mx_t7 (List.mem_of_getElem? (i := 151) (by decide +kernel))) (by decide +kernel)
theorem kw_1592 : Cond.methodLink RX1 137 yX1_climb ∈ mx_tbl := mx_in (mx_t7 (List.mem_of_getElem? (i := 152) (by decide +kernel))) (by decide +kernel)
theorem kw_1594 : Cond.instanceMethod yX1_climb ∈ mx_tbl := mx_in (mx_t7 (List.mem_of_getElem? (i := 154) (by decide +kernel))) (by decide +kernel)
theorem kw_1595 : Cond.code yX1_climb cX1_climb 3 none ∈ mx_tbl := mx_in (mx_t7 (List.mem_of_getElem? (i := 155) rfl)) rfl
theorem kw_1596 : Cond.methodLink RX1 125 yX1_reckonFifth ∈ mx_tbl := mx_in (mx_t7 (List.mem_of_getElem? (i := 156) (by decide +kernel))) (by decide +kernel)
theorem kw_1598 : Cond.instanceMethod yX1_reckonFifth ∈ mx_tbl := mx_in (mx_t7 (List.mem_of_getElem? (i := 158) (by decide +kernel))) (by decide +kernel)
theorem kw_1599 : Cond.code yX1_reckonFifth cX1_reckonFifth 1 none ∈ mx_tbl := mx_in (mx_t7 (List.mem_of_getElem? (i := 159) rfl)) rfl
theorem kw_1600 : Cond.constantLong RX1 141 (6) ∈ mx_tbl := mx_in (mx_t7 (List.mem_of_getElem? (i := 160) (by decide +kernel))) (by decide +kernel)
theorem kw_1601 : Cond.constantLong RX1 143 (-15) ∈ mx_tbl := mx_in (mx_t7 (List.mem_of_getElem? (i := 161) (by decide +kernel))) (by decide +kernel)
theorem kw_1602 : Cond.constantLong RX1 145 (10) ∈ mx_tbl := mx_in (mx_t7 (List.mem_of_getElem? (i := 162) (by decide +kernel))) (by decide +kernel)
theorem kw_1603 : Cond.methodLink RX1 128 yX1_reckonSeventh ∈ mx_tbl := mx_in (mx_t7 (List.mem_of_getElem? (i := 163) (by decide +kernel))) (by decide +kernel)
theorem kw_1605 : Cond.instanceMethod yX1_reckonSeventh ∈ mx_tbl := mx_in (mx_t7 (List.mem_of_getElem? (i := 165) (by decide +kernel))) (by decide +kernel)
theorem kw_1606 : Cond.code yX1_reckonSeventh cX1_reckonSeventh 1 none ∈ mx_tbl := mx_in (mx_t7 (List.mem_of_getElem? (i := 166) rfl)) rfl
theorem kw_1607 : Cond.constantLong RX1 147 (-20) ∈ mx_tbl := mx_in (mx_t7 (List.mem_of_getElem? (i := 167) (by decide +kernel))) (by decide +kernel)
theorem kw_1608 : Cond.constantLong RX1 149 (70) ∈ mx_tbl := mx_in (mx_t7 (List.mem_of_getElem? (i := 168) (by decide +kernel))) (by decide +kernel)
theorem kw_1609 : Cond.constantLong RX1 151 (-84) ∈ mx_tbl := mx_in (mx_t7 (List.mem_of_getElem? (i := 169) (by decide +kernel))) (by decide +kernel)
theorem kw_1610 : Cond.constantLong RX1 153 (35) ∈ mx_tbl := mx_in (mx_t7 (List.mem_of_getElem? (i := 170) (by decide +kernel))) (by decide +kernel)
theorem kw_1611 : Cond.methodLink RX1 131 yX3_copy ∈ mx_tbl := mx_in (mx_t7 (List.mem_of_getElem? (i := 171) (by decide +kernel))) (by decide +kernel)
theorem kw_1612 : Cond.methodLink RLn 258 yL_camAbout ∈ mx_tbl := mx_in (mx_t7 (List.mem_of_getElem? (i := 172) (by decide +kernel))) (by decide +kernel)
theorem kw_1613 : Cond.static yL_camAbout ∈ mx_tbl := mx_in (mx_t7 (List.mem_of_getElem? (i := 173) (by decide +kernel))) (by decide +kernel)
theorem kw_1615 : Cond.methodLink RLn 110 yX11_camAbout ∈ mx_tbl := mx_in (mx_t7 (List.mem_of_getElem? (i := 175) (by decide +kernel))) (by decide +kernel)
theorem kw_1616 : Cond.instanceMethod yX11_camAbout ∈ mx_tbl := mx_in (mx_t7 (List.mem_of_getElem? (i := 176) (by decide +kernel))) (by decide +kernel)
theorem kw_1617 : Cond.selects RX11 yX11_camAbout yX11_camAbout ∈ mx_tbl := mx_in (mx_t7 (List.mem_of_getElem? (i := 177) (by decide +kernel))) (by decide +kernel)
theorem kw_1618 : Cond.code yX11_camAbout cX11_camAbout 2 (some .long) ∈ mx_tbl := mx_in (mx_t7 (List.mem_of_getElem? (i := 178) rfl)) rfl
theorem kw_1619 : Cond.methodLink RX11 280 yX1_smoothness ∈ mx_tbl := mx_in (mx_t7 (List.mem_of_getElem? (i := 179) (by decide +kernel))) (by decide +kernel)
theorem kw_1620 : Cond.instanceMethod yX1_smoothness ∈ mx_tbl := mx_in (mx_t7 (List.mem_of_getElem? (i := 180) (by decide +kernel))) (by decide +kernel)
theorem kw_1621 : Cond.selects RX1 yX1_smoothness yX1_smoothness ∈ mx_tbl := mx_in (mx_t7 (List.mem_of_getElem? (i := 181) (by decide +kernel))) (by decide +kernel)
theorem kw_1622 : Cond.code yX1_smoothness cX1_smoothness 3 (some .int) ∈ mx_tbl := mx_in (mx_t7 (List.mem_of_getElem? (i := 182) rfl)) rfl
theorem kw_1623 : Cond.methodLink RX11 283 yX1_findSteepest ∈ mx_tbl := mx_in (mx_t7 (List.mem_of_getElem? (i := 183) (by decide +kernel))) (by decide +kernel)
theorem kw_1624 : Cond.instanceMethod yX1_findSteepest ∈ mx_tbl := mx_in (mx_t7 (List.mem_of_getElem? (i := 184) (by decide +kernel))) (by decide +kernel)
theorem kw_1625 : Cond.selects RX1 yX1_findSteepest yX1_findSteepest ∈ mx_tbl := mx_in (mx_t7 (List.mem_of_getElem? (i := 185) (by decide +kernel))) (by decide +kernel)
theorem kw_1626 : Cond.code yX1_findSteepest cX1_findSteepest 3 none ∈ mx_tbl := mx_in (mx_t7 (List.mem_of_getElem? (i := 186) rfl)) rfl
theorem kw_1627 : Cond.fieldLink RX1 155 "MechanismHouse$Cam" "STEEP_TOPS" "[I" ∈ mx_tbl := mx_in (mx_t7 (List.mem_of_getElem? (i := 187) (by decide +kernel))) (by decide +kernel)
theorem kw_1629 : Cond.fieldLink RX1 158 "MechanismHouse$Cam" "STEEP_BOTTOMS" "[I" ∈ mx_tbl := mx_in (mx_t7 (List.mem_of_getElem? (i := 189) (by decide +kernel))) (by decide +kernel)
theorem kw_1631 : Cond.methodLink RX1 161 yX3_isAbove ∈ mx_tbl := mx_in (mx_t7 (List.mem_of_getElem? (i := 191) (by decide +kernel))) (by decide +kernel)
theorem kw_1632 : Cond.instanceMethod yX3_isAbove ∈ mx_tbl := mx_in (mx_t7 (List.mem_of_getElem? (i := 192) (by decide +kernel))) (by decide +kernel)
theorem kw_1633 : Cond.selects RX3 yX3_isAbove yX3_isAbove ∈ mx_tbl := mx_in (mx_t7 (List.mem_of_getElem? (i := 193) (by decide +kernel))) (by decide +kernel)
theorem kw_1634 : Cond.code yX3_isAbove cX3_isAbove 5 (some .boolean) ∈ mx_tbl := mx_in (mx_t7 (List.mem_of_getElem? (i := 194) rfl)) rfl
theorem kw_1635 : Cond.methodLink RLn 261 yL_corner ∈ mx_tbl := mx_in (mx_t7 (List.mem_of_getElem? (i := 195) (by decide +kernel))) (by decide +kernel)
theorem kw_1636 : Cond.static yL_corner ∈ mx_tbl := mx_in (mx_t7 (List.mem_of_getElem? (i := 196) (by decide +kernel))) (by decide +kernel)
theorem kw_1638 : Cond.methodLink RLn 114 yX11_corner ∈ mx_tbl := mx_in (mx_t7 (List.mem_of_getElem? (i := 198) (by decide +kernel))) (by decide +kernel)
theorem kw_1639 : Cond.instanceMethod yX11_corner ∈ mx_tbl := mx_in (mx_t7 (List.mem_of_getElem? (i := 199) (by decide +kernel))) (by decide +kernel)
theorem kw_1640 : Cond.selects RX11 yX11_corner yX11_corner ∈ mx_tbl := mx_in (mx_t7 (List.mem_of_getElem? (i := 200) (by decide +kernel))) (by decide +kernel)
theorem kw_1641 : Cond.code yX11_corner cX11_corner 4 (some .int) ∈ mx_tbl := mx_in (mx_t7 (List.mem_of_getElem? (i := 201) rfl)) rfl
theorem kw_1642 : Cond.methodLink RX11 288 yX9_addCorner ∈ mx_tbl := mx_in (mx_t7 (List.mem_of_getElem? (i := 202) (by decide +kernel))) (by decide +kernel)
theorem kw_1643 : Cond.instanceMethod yX9_addCorner ∈ mx_tbl := mx_in (mx_t7 (List.mem_of_getElem? (i := 203) (by decide +kernel))) (by decide +kernel)
theorem kw_1644 : Cond.selects RX9 yX9_addCorner yX9_addCorner ∈ mx_tbl := mx_in (mx_t7 (List.mem_of_getElem? (i := 204) (by decide +kernel))) (by decide +kernel)
theorem kw_1645 : Cond.code yX9_addCorner cX9_addCorner 3 (some .int) ∈ mx_tbl := mx_in (mx_t7 (List.mem_of_getElem? (i := 205) rfl)) rfl
theorem kw_1646 : Cond.methodLink RLn 264 yL_empty ∈ mx_tbl := mx_in (mx_t7 (List.mem_of_getElem? (i := 206) (by decide +kernel))) (by decide +kernel)
theorem kw_1647 : Cond.static yL_empty ∈ mx_tbl := mx_in (mx_t7 (List.mem_of_getElem? (i := 207) (by decide +kernel))) (by decide +kernel)
theorem kw_1649 : Cond.methodLink RLn 117 yX11_empty ∈ mx_tbl := mx_in (mx_t7 (List.mem_of_getElem? (i := 209) (by decide +kernel))) (by decide +kernel)
theorem kw_1650 : Cond.instanceMethod yX11_empty ∈ mx_tbl := mx_in (mx_t7 (List.mem_of_getElem? (i := 210) (by decide +kernel))) (by decide +kernel)
theorem kw_1651 : Cond.selects RX11 yX11_empty yX11_empty ∈ mx_tbl := mx_in (mx_t7 (List.mem_of_getElem? (i := 211) (by decide +kernel))) (by decide +kernel)
theorem kw_1652 : Cond.code yX11_empty cX11_empty 2 none ∈ mx_tbl := mx_in (mx_t7 (List.mem_of_getElem? (i := 212) rfl)) rfl
theorem kw_1653 : Cond.methodLink RLn 268 yL_plate ∈ mx_tbl := mx_in (mx_t7 (List.mem_of_getElem? (i := 213) (by decide +kernel))) (by decide +kernel)
theorem kw_1654 : Cond.static yL_plate ∈ mx_tbl := mx_in (mx_t7 (List.mem_of_getElem? (i := 214) (by decide +kernel))) (by decide +kernel)
theorem kw_1656 : Cond.methodLink RLn 121 yX11_plate ∈ mx_tbl := mx_in (mx_t7 (List.mem_of_getElem? (i := 216) (by decide +kernel))) (by decide +kernel)
theorem kw_1657 : Cond.instanceMethod yX11_plate ∈ mx_tbl := mx_in (mx_t7 (List.mem_of_getElem? (i := 217) (by decide +kernel))) (by decide +kernel)
theorem kw_1658 : Cond.selects RX11 yX11_plate yX11_plate ∈ mx_tbl := mx_in (mx_t7 (List.mem_of_getElem? (i := 218) (by decide +kernel))) (by decide +kernel)
theorem kw_1659 : Cond.code yX11_plate cX11_plate 4 (some .long) ∈ mx_tbl := mx_in (mx_t7 (List.mem_of_getElem? (i := 219) rfl)) rfl
theorem kw_1660 : Cond.methodLink RX11 291 yX9_twiceArea ∈ mx_tbl := mx_in (mx_t7 (List.mem_of_getElem? (i := 220) (by decide +kernel))) (by decide +kernel)
theorem kw_1661 : Cond.instanceMethod yX9_twiceArea ∈ mx_tbl := mx_in (mx_t7 (List.mem_of_getElem? (i := 221) (by decide +kernel))) (by decide +kernel)
theorem kw_1662 : Cond.selects RX9 yX9_twiceArea yX9_twiceArea ∈ mx_tbl := mx_in (mx_t7 (List.mem_of_getElem? (i := 222) (by decide +kernel))) (by decide +kernel)
theorem kw_1663 : Cond.code yX9_twiceArea cX9_twiceArea 4 (some .long) ∈ mx_tbl := mx_in (mx_t7 (List.mem_of_getElem? (i := 223) rfl)) rfl
theorem kw_1664 : Cond.methodLink RX9 24 yX9_crossAt ∈ mx_tbl := mx_in (mx_t7 (List.mem_of_getElem? (i := 224) (by decide +kernel))) (by decide +kernel)
theorem kw_1666 : Cond.instanceMethod yX9_crossAt ∈ mx_tbl := mx_in (mx_t7 (List.mem_of_getElem? (i := 226) (by decide +kernel))) (by decide +kernel)
theorem kw_1667 : Cond.code yX9_crossAt cX9_crossAt 3 (some .long) ∈ mx_tbl := mx_in (mx_t7 (List.mem_of_getElem? (i := 227) rfl)) rfl
theorem kw_1668 : Cond.methodLink RX9 20 yX9_after ∈ mx_tbl := mx_in (mx_t7 (List.mem_of_getElem? (i := 228) (by decide +kernel))) (by decide +kernel)
theorem kw_1670 : Cond.instanceMethod yX9_after ∈ mx_tbl := mx_in (mx_t7 (List.mem_of_getElem? (i := 230) (by decide +kernel))) (by decide +kernel)
theorem kw_1671 : Cond.code yX9_after cX9_after 2 (some .int) ∈ mx_tbl := mx_in (mx_t7 (List.mem_of_getElem? (i := 231) rfl)) rfl
theorem kw_1672 : Cond.methodLink RX11 294 yX9_crossing ∈ mx_tbl := mx_in (mx_t7 (List.mem_of_getElem? (i := 232) (by decide +kernel))) (by decide +kernel)
theorem kw_1673 : Cond.instanceMethod yX9_crossing ∈ mx_tbl := mx_in (mx_t7 (List.mem_of_getElem? (i := 233) (by decide +kernel))) (by decide +kernel)
theorem kw_1674 : Cond.selects RX9 yX9_crossing yX9_crossing ∈ mx_tbl := mx_in (mx_t7 (List.mem_of_getElem? (i := 234) (by decide +kernel))) (by decide +kernel)
theorem kw_1675 : Cond.code yX9_crossing cX9_crossing 5 (some .int) ∈ mx_tbl := mx_in (mx_t7 (List.mem_of_getElem? (i := 235) rfl)) rfl
theorem kw_1676 : Cond.methodLink RX9 46 yX9_touches ∈ mx_tbl := mx_in (mx_t7 (List.mem_of_getElem? (i := 236) (by decide +kernel))) (by decide +kernel)
theorem kw_1678 : Cond.instanceMethod yX9_touches ∈ mx_tbl := mx_in (mx_t7 (List.mem_of_getElem? (i := 238) (by decide +kernel))) (by decide +kernel)
theorem kw_1679 : Cond.code yX9_touches cX9_touches 6 (some .boolean) ∈ mx_tbl := mx_in (mx_t7 (List.mem_of_getElem? (i := 239) rfl)) rfl
theorem kw_1680 : Cond.methodLink RX9 63 yX9_parts ∈ mx_tbl := mx_in (mx_t8 (List.mem_of_getElem? (i := 0) (by decide +kernel))) (by decide +kernel)
theorem kw_1682 : Cond.instanceMethod yX9_parts ∈ mx_tbl := mx_in (mx_t8 (List.mem_of_getElem? (i := 2) (by decide +kernel))) (by decide +kernel)
theorem kw_1683 : Cond.code yX9_parts cX9_parts 9 (some .boolean) ∈ mx_tbl := mx_in (mx_t8 (List.mem_of_getElem? (i := 3) rfl)) rfl
theorem kw_1684 : Cond.methodLink RX9 50 yX9_sideOf ∈ mx_tbl := mx_in (mx_t8 (List.mem_of_getElem? (i := 4) (by decide +kernel))) (by decide +kernel)
theorem kw_1686 : Cond.instanceMethod yX9_sideOf ∈ mx_tbl := mx_in (mx_t8 (List.mem_of_getElem? (i := 6) (by decide +kernel))) (by decide +kernel)
theorem kw_1687 : Cond.code yX9_sideOf cX9_sideOf 7 (some .long) ∈ mx_tbl := mx_in (mx_t8 (List.mem_of_getElem? (i := 7) rfl)) rfl
theorem kw_1688 : Cond.methodLink RX9 66 yX9_holds ∈ mx_tbl := mx_in (mx_t8 (List.mem_of_getElem? (i := 8) (by decide +kernel))) (by decide +kernel)
theorem kw_1690 : Cond.instanceMethod yX9_holds ∈ mx_tbl := mx_in (mx_t8 (List.mem_of_getElem? (i := 10) (by decide +kernel))) (by decide +kernel)
theorem kw_1691 : Cond.code yX9_holds cX9_holds 7 (some .boolean) ∈ mx_tbl := mx_in (mx_t8 (List.mem_of_getElem? (i := 11) rfl)) rfl
theorem kw_1692 : Cond.methodLink RX9 54 yJ9_min_f86c9 ∈ mx_tbl := mx_in (mx_t8 (List.mem_of_getElem? (i := 12) (by decide +kernel))) (by decide +kernel)
theorem kw_1693 : Cond.methodLink RX9 60 yJ9_max_f86c9 ∈ mx_tbl := mx_in (mx_t8 (List.mem_of_getElem? (i := 13) (by decide +kernel))) (by decide +kernel)
theorem kw_1694 : Cond.methodLink RX11 298 yX9_reckon ∈ mx_tbl := mx_in (mx_t8 (List.mem_of_getElem? (i := 14) (by decide +kernel))) (by decide +kernel)
theorem kw_1695 : Cond.instanceMethod yX9_reckon ∈ mx_tbl := mx_in (mx_t8 (List.mem_of_getElem? (i := 15) (by decide +kernel))) (by decide +kernel)
theorem kw_1696 : Cond.selects RX9 yX9_reckon yX9_reckon ∈ mx_tbl := mx_in (mx_t8 (List.mem_of_getElem? (i := 16) (by decide +kernel))) (by decide +kernel)
theorem kw_1697 : Cond.code yX9_reckon cX9_reckon 6 none ∈ mx_tbl := mx_in (mx_t8 (List.mem_of_getElem? (i := 17) rfl)) rfl
theorem kw_1698 : Cond.methodLink RX9 28 yX9_weightAt ∈ mx_tbl := mx_in (mx_t8 (List.mem_of_getElem? (i := 18) (by decide +kernel))) (by decide +kernel)
theorem kw_1700 : Cond.instanceMethod yX9_weightAt ∈ mx_tbl := mx_in (mx_t8 (List.mem_of_getElem? (i := 20) (by decide +kernel))) (by decide +kernel)
theorem kw_1701 : Cond.code yX9_weightAt cX9_weightAt 4 (some .long) ∈ mx_tbl := mx_in (mx_t8 (List.mem_of_getElem? (i := 21) rfl)) rfl
theorem kw_1702 : Cond.constantLong RX9 32 (12) ∈ mx_tbl := mx_in (mx_t8 (List.mem_of_getElem? (i := 22) (by decide +kernel))) (by decide +kernel)
theorem kw_1703 : Cond.constantLong RX9 34 (3) ∈ mx_tbl := mx_in (mx_t8 (List.mem_of_getElem? (i := 23) (by decide +kernel))) (by decide +kernel)
theorem kw_1704 : Cond.methodLink RX9 36 yX9_twiceArea ∈ mx_tbl := mx_in (mx_t8 (List.mem_of_getElem? (i := 24) (by decide +kernel))) (by decide +kernel)
theorem kw_1705 : Cond.methodLink RX9 40 yX3_set ∈ mx_tbl := mx_in (mx_t8 (List.mem_of_getElem? (i := 25) (by decide +kernel))) (by decide +kernel)
theorem kw_1706 : Cond.methodLink RLn 271 yL_inside ∈ mx_tbl := mx_in (mx_t8 (List.mem_of_getElem? (i := 26) (by decide +kernel))) (by decide +kernel)
theorem kw_1707 : Cond.static yL_inside ∈ mx_tbl := mx_in (mx_t8 (List.mem_of_getElem? (i := 27) (by decide +kernel))) (by decide +kernel)
theorem kw_1709 : Cond.methodLink RLn 124 yX11_inside ∈ mx_tbl := mx_in (mx_t8 (List.mem_of_getElem? (i := 29) (by decide +kernel))) (by decide +kernel)
theorem kw_1710 : Cond.instanceMethod yX11_inside ∈ mx_tbl := mx_in (mx_t8 (List.mem_of_getElem? (i := 30) (by decide +kernel))) (by decide +kernel)
theorem kw_1711 : Cond.selects RX11 yX11_inside yX11_inside ∈ mx_tbl := mx_in (mx_t8 (List.mem_of_getElem? (i := 31) (by decide +kernel))) (by decide +kernel)
theorem kw_1712 : Cond.code yX11_inside cX11_inside 4 (some .int) ∈ mx_tbl := mx_in (mx_t8 (List.mem_of_getElem? (i := 32) rfl)) rfl
theorem kw_1713 : Cond.methodLink RX11 302 yX9_standing ∈ mx_tbl := mx_in (mx_t8 (List.mem_of_getElem? (i := 33) (by decide +kernel))) (by decide +kernel)
theorem kw_1714 : Cond.instanceMethod yX9_standing ∈ mx_tbl := mx_in (mx_t8 (List.mem_of_getElem? (i := 34) (by decide +kernel))) (by decide +kernel)
theorem kw_1715 : Cond.selects RX9 yX9_standing yX9_standing ∈ mx_tbl := mx_in (mx_t8 (List.mem_of_getElem? (i := 35) (by decide +kernel))) (by decide +kernel)
theorem kw_1716 : Cond.code yX9_standing cX9_standing 9 (some .int) ∈ mx_tbl := mx_in (mx_t8 (List.mem_of_getElem? (i := 36) rfl)) rfl
theorem kw_1717 : Cond.methodLink RLn 274 yL_distance ∈ mx_tbl := mx_in (mx_t8 (List.mem_of_getElem? (i := 37) (by decide +kernel))) (by decide +kernel)
theorem kw_1718 : Cond.static yL_distance ∈ mx_tbl := mx_in (mx_t8 (List.mem_of_getElem? (i := 38) (by decide +kernel))) (by decide +kernel)
theorem kw_1720 : Cond.methodLink RLn 127 yX11_distance ∈ mx_tbl := mx_in (mx_t8 (List.mem_of_getElem? (i := 40) (by decide +kernel))) (by decide +kernel)
theorem kw_1721 : Cond.instanceMethod yX11_distance ∈ mx_tbl := mx_in (mx_t8 (List.mem_of_getElem? (i := 41) (by decide +kernel))) (by decide +kernel)
theorem kw_1722 : Cond.selects RX11 yX11_distance yX11_distance ∈ mx_tbl := mx_in (mx_t8 (List.mem_of_getElem? (i := 42) (by decide +kernel))) (by decide +kernel)
theorem kw_1723 : Cond.code yX11_distance cX11_distance 4 (some .long) ∈ mx_tbl := mx_in (mx_t8 (List.mem_of_getElem? (i := 43) rfl)) rfl
theorem kw_1724 : Cond.methodLink RX11 306 yX9_reckonGap ∈ mx_tbl := mx_in (mx_t8 (List.mem_of_getElem? (i := 44) (by decide +kernel))) (by decide +kernel)
theorem kw_1725 : Cond.instanceMethod yX9_reckonGap ∈ mx_tbl := mx_in (mx_t8 (List.mem_of_getElem? (i := 45) (by decide +kernel))) (by decide +kernel)
theorem kw_1726 : Cond.selects RX9 yX9_reckonGap yX9_reckonGap ∈ mx_tbl := mx_in (mx_t8 (List.mem_of_getElem? (i := 46) (by decide +kernel))) (by decide +kernel)
theorem kw_1727 : Cond.code yX9_reckonGap cX9_reckonGap 9 none ∈ mx_tbl := mx_in (mx_t8 (List.mem_of_getElem? (i := 47) rfl)) rfl
theorem kw_1728 : Cond.methodLink RX9 70 yX9_isInReach ∈ mx_tbl := mx_in (mx_t8 (List.mem_of_getElem? (i := 48) (by decide +kernel))) (by decide +kernel)
theorem kw_1730 : Cond.instanceMethod yX9_isInReach ∈ mx_tbl := mx_in (mx_t8 (List.mem_of_getElem? (i := 50) (by decide +kernel))) (by decide +kernel)
theorem kw_1731 : Cond.code yX9_isInReach cX9_isInReach 4 (some .boolean) ∈ mx_tbl := mx_in (mx_t8 (List.mem_of_getElem? (i := 51) rfl)) rfl
theorem kw_1732 : Cond.methodLink RX9 78 yX9_standing ∈ mx_tbl := mx_in (mx_t8 (List.mem_of_getElem? (i := 52) (by decide +kernel))) (by decide +kernel)
theorem kw_1733 : Cond.methodLink RX9 74 yX9_offerFoot ∈ mx_tbl := mx_in (mx_t8 (List.mem_of_getElem? (i := 53) (by decide +kernel))) (by decide +kernel)
theorem kw_1735 : Cond.instanceMethod yX9_offerFoot ∈ mx_tbl := mx_in (mx_t8 (List.mem_of_getElem? (i := 55) (by decide +kernel))) (by decide +kernel)
theorem kw_1736 : Cond.code yX9_offerFoot cX9_offerFoot 22 none ∈ mx_tbl := mx_in (mx_t8 (List.mem_of_getElem? (i := 56) rfl)) rfl
theorem kw_1737 : Cond.methodLink RX9 82 yX9_offer ∈ mx_tbl := mx_in (mx_t8 (List.mem_of_getElem? (i := 57) (by decide +kernel))) (by decide +kernel)
theorem kw_1738 : Cond.static yX9_offer ∈ mx_tbl := mx_in (mx_t8 (List.mem_of_getElem? (i := 58) (by decide +kernel))) (by decide +kernel)
theorem kw_1739 : Cond.code yX9_offer cX9_offer 5 none ∈ mx_tbl := mx_in (mx_t8 (List.mem_of_getElem? (i := 59) rfl)) rfl
theorem kw_1740 : Cond.methodLink RX9 86 yX3_isAbove ∈ mx_tbl := mx_in (mx_t8 (List.mem_of_getElem? (i := 60) (by decide +kernel))) (by decide +kernel)
theorem kw_1741 : Cond.methodLink RLn 277 yL_kinds ∈ mx_tbl := mx_in (mx_t8 (List.mem_of_getElem? (i := 61) (by decide +kernel))) (by decide +kernel)
theorem kw_1742 : Cond.static yL_kinds ∈ mx_tbl := mx_in (mx_t8 (List.mem_of_getElem? (i := 62) (by decide +kernel))) (by decide +kernel)
theorem kw_1744 : Cond.methodLink RLn 130 yX11_kinds ∈ mx_tbl := mx_in (mx_t8 (List.mem_of_getElem? (i := 64) (by decide +kernel))) (by decide +kernel)
theorem kw_1745 : Cond.instanceMethod yX11_kinds ∈ mx_tbl := mx_in (mx_t8 (List.mem_of_getElem? (i := 65) (by decide +kernel))) (by decide +kernel)
theorem kw_1746 : Cond.selects RX11 yX11_kinds yX11_kinds ∈ mx_tbl := mx_in (mx_t8 (List.mem_of_getElem? (i := 66) (by decide +kernel))) (by decide +kernel)
theorem kw_1747 : Cond.code yX11_kinds cX11_kinds 3 (some .int) ∈ mx_tbl := mx_in (mx_t8 (List.mem_of_getElem? (i := 67) rfl)) rfl
theorem kw_1748 : Cond.methodLink RX11 310 yX6_listAll ∈ mx_tbl := mx_in (mx_t8 (List.mem_of_getElem? (i := 68) (by decide +kernel))) (by decide +kernel)
theorem kw_1749 : Cond.instanceMethod yX6_listAll ∈ mx_tbl := mx_in (mx_t8 (List.mem_of_getElem? (i := 69) (by decide +kernel))) (by decide +kernel)
theorem kw_1750 : Cond.selects RX6 yX6_listAll yX6_listAll ∈ mx_tbl := mx_in (mx_t8 (List.mem_of_getElem? (i := 70) (by decide +kernel))) (by decide +kernel)
theorem kw_1751 : Cond.code yX6_listAll cX6_listAll 4 none ∈ mx_tbl := mx_in (mx_t8 (List.mem_of_getElem? (i := 71) rfl)) rfl
theorem kw_1752 : Cond.methodLink RX6 38 yX6_numberPairs ∈ mx_tbl := mx_in (mx_t8 (List.mem_of_getElem? (i := 72) (by decide +kernel))) (by decide +kernel)
theorem kw_1754 : Cond.instanceMethod yX6_numberPairs ∈ mx_tbl := mx_in (mx_t8 (List.mem_of_getElem? (i := 74) (by decide +kernel))) (by decide +kernel)
theorem kw_1755 : Cond.code yX6_numberPairs cX6_numberPairs 4 none ∈ mx_tbl := mx_in (mx_t8 (List.mem_of_getElem? (i := 75) rfl)) rfl
theorem kw_1756 : Cond.methodLink RX6 41 yJ7_fill_53178 ∈ mx_tbl := mx_in (mx_t8 (List.mem_of_getElem? (i := 76) (by decide +kernel))) (by decide +kernel)
theorem kw_1757 : Cond.methodLink RX6 50 yJ6_bitCount_0f7a4 ∈ mx_tbl := mx_in (mx_t8 (List.mem_of_getElem? (i := 77) (by decide +kernel))) (by decide +kernel)
theorem kw_1758 : Cond.static yJ6_bitCount_0f7a4 ∈ mx_tbl := mx_in (mx_t8 (List.mem_of_getElem? (i := 78) (by decide +kernel))) (by decide +kernel)
theorem kw_1759 : Cond.code yJ6_bitCount_0f7a4 cJ6_bitCount_0f7a4 1 (some .int) ∈ mx_tbl := mx_in (mx_t8 (List.mem_of_getElem? (i := 79) rfl)) rfl
theorem kw_1760 : Cond.constant RJ6 265 (1431655765) ∈ mx_tbl := mx_in (mx_t8 (List.mem_of_getElem? (i := 80) (by decide +kernel))) (by decide +kernel)
theorem kw_1761 : Cond.constant RJ6 266 (858993459) ∈ mx_tbl := mx_in (mx_t8 (List.mem_of_getElem? (i := 81) (by decide +kernel))) (by decide +kernel)
theorem kw_1762 : Cond.constant RJ6 267 (252645135) ∈ mx_tbl := mx_in (mx_t8 (List.mem_of_getElem? (i := 82) (by decide +kernel))) (by decide +kernel)
theorem kw_1763 : Cond.methodLink RX6 56 yX6_isSeen ∈ mx_tbl := mx_in (mx_t8 (List.mem_of_getElem? (i := 83) (by decide +kernel))) (by decide +kernel)
theorem kw_1765 : Cond.instanceMethod yX6_isSeen ∈ mx_tbl := mx_in (mx_t8 (List.mem_of_getElem? (i := 85) (by decide +kernel))) (by decide +kernel)
theorem kw_1766 : Cond.code yX6_isSeen cX6_isSeen 2 (some .boolean) ∈ mx_tbl := mx_in (mx_t8 (List.mem_of_getElem? (i := 86) rfl)) rfl
theorem kw_1767 : Cond.methodLink RX6 60 yX6_isChain ∈ mx_tbl := mx_in (mx_t8 (List.mem_of_getElem? (i := 87) (by decide +kernel))) (by decide +kernel)
theorem kw_1769 : Cond.instanceMethod yX6_isChain ∈ mx_tbl := mx_in (mx_t8 (List.mem_of_getElem? (i := 89) (by decide +kernel))) (by decide +kernel)
theorem kw_1770 : Cond.code yX6_isChain cX6_isChain 3 (some .boolean) ∈ mx_tbl := mx_in (mx_t8 (List.mem_of_getElem? (i := 90) rfl)) rfl
theorem kw_1771 : Cond.methodLink RX6 67 yX6_isInOnePiece ∈ mx_tbl := mx_in (mx_t8 (List.mem_of_getElem? (i := 91) (by decide +kernel))) (by decide +kernel)
theorem kw_1773 : Cond.instanceMethod yX6_isInOnePiece ∈ mx_tbl := mx_in (mx_t8 (List.mem_of_getElem? (i := 93) (by decide +kernel))) (by decide +kernel)
theorem kw_1774 : Cond.code yX6_isInOnePiece cX6_isInOnePiece 4 (some .boolean) ∈ mx_tbl := mx_in (mx_t8 (List.mem_of_getElem? (i := 94) rfl)) rfl
theorem kw_1775 : Cond.methodLink RX6 71 yX6_hasStiffPart ∈ mx_tbl := mx_in (mx_t8 (List.mem_of_getElem? (i := 95) (by decide +kernel))) (by decide +kernel)
theorem kw_1777 : Cond.instanceMethod yX6_hasStiffPart ∈ mx_tbl := mx_in (mx_t8 (List.mem_of_getElem? (i := 97) (by decide +kernel))) (by decide +kernel)
theorem kw_1778 : Cond.code yX6_hasStiffPart cX6_hasStiffPart 4 (some .boolean) ∈ mx_tbl := mx_in (mx_t8 (List.mem_of_getElem? (i := 98) rfl)) rfl
theorem kw_1779 : Cond.methodLink RX6 63 yX6_seeAllLike ∈ mx_tbl := mx_in (mx_t8 (List.mem_of_getElem? (i := 99) (by decide +kernel))) (by decide +kernel)
theorem kw_1781 : Cond.instanceMethod yX6_seeAllLike ∈ mx_tbl := mx_in (mx_t8 (List.mem_of_getElem? (i := 101) (by decide +kernel))) (by decide +kernel)
theorem kw_1782 : Cond.code yX6_seeAllLike cX6_seeAllLike 5 none ∈ mx_tbl := mx_in (mx_t8 (List.mem_of_getElem? (i := 102) rfl)) rfl
theorem kw_1783 : Cond.methodLink RX6 74 yX6_writeSequence ∈ mx_tbl := mx_in (mx_t8 (List.mem_of_getElem? (i := 103) (by decide +kernel))) (by decide +kernel)
theorem kw_1785 : Cond.instanceMethod yX6_writeSequence ∈ mx_tbl := mx_in (mx_t8 (List.mem_of_getElem? (i := 105) (by decide +kernel))) (by decide +kernel)
theorem kw_1786 : Cond.code yX6_writeSequence cX6_writeSequence 6 none ∈ mx_tbl := mx_in (mx_t8 (List.mem_of_getElem? (i := 106) rfl)) rfl
theorem kw_1787 : Cond.methodLink RX6 77 yX6_renumbered ∈ mx_tbl := mx_in (mx_t8 (List.mem_of_getElem? (i := 107) (by decide +kernel))) (by decide +kernel)
theorem kw_1789 : Cond.instanceMethod yX6_renumbered ∈ mx_tbl := mx_in (mx_t8 (List.mem_of_getElem? (i := 109) (by decide +kernel))) (by decide +kernel)
theorem kw_1790 : Cond.code yX6_renumbered cX6_renumbered 4 (some .int) ∈ mx_tbl := mx_in (mx_t8 (List.mem_of_getElem? (i := 110) rfl)) rfl
theorem kw_1791 : Cond.methodLink RLn 280 yL_kind ∈ mx_tbl := mx_in (mx_t8 (List.mem_of_getElem? (i := 111) (by decide +kernel))) (by decide +kernel)
theorem kw_1792 : Cond.static yL_kind ∈ mx_tbl := mx_in (mx_t8 (List.mem_of_getElem? (i := 112) (by decide +kernel))) (by decide +kernel)
theorem kw_1794 : Cond.methodLink RLn 133 yX11_kind ∈ mx_tbl := mx_in (mx_t8 (List.mem_of_getElem? (i := 114) (by decide +kernel))) (by decide +kernel)
theorem kw_1795 : Cond.instanceMethod yX11_kind ∈ mx_tbl := mx_in (mx_t8 (List.mem_of_getElem? (i := 115) (by decide +kernel))) (by decide +kernel)
theorem kw_1796 : Cond.selects RX11 yX11_kind yX11_kind ∈ mx_tbl := mx_in (mx_t8 (List.mem_of_getElem? (i := 116) (by decide +kernel))) (by decide +kernel)
theorem kw_1797 : Cond.code yX11_kind cX11_kind 2 (some .int) ∈ mx_tbl := mx_in (mx_t8 (List.mem_of_getElem? (i := 117) rfl)) rfl
theorem kw_1798 : Cond.methodLink RLn 283 yL_drive ∈ mx_tbl := mx_in (mx_t8 (List.mem_of_getElem? (i := 118) (by decide +kernel))) (by decide +kernel)
theorem kw_1799 : Cond.static yL_drive ∈ mx_tbl := mx_in (mx_t8 (List.mem_of_getElem? (i := 119) (by decide +kernel))) (by decide +kernel)
theorem kw_1801 : Cond.methodLink RLn 136 yX11_drive ∈ mx_tbl := mx_in (mx_t8 (List.mem_of_getElem? (i := 121) (by decide +kernel))) (by decide +kernel)
theorem kw_1802 : Cond.instanceMethod yX11_drive ∈ mx_tbl := mx_in (mx_t8 (List.mem_of_getElem? (i := 122) (by decide +kernel))) (by decide +kernel)
theorem kw_1803 : Cond.selects RX11 yX11_drive yX11_drive ∈ mx_tbl := mx_in (mx_t8 (List.mem_of_getElem? (i := 123) (by decide +kernel))) (by decide +kernel)
theorem kw_1804 : Cond.code yX11_drive cX11_drive 2 (some .int) ∈ mx_tbl := mx_in (mx_t8 (List.mem_of_getElem? (i := 124) rfl)) rfl
theorem kw_1805 : Cond.methodLink RX11 317 yX2_isRead ∈ mx_tbl := mx_in (mx_t8 (List.mem_of_getElem? (i := 125) (by decide +kernel))) (by decide +kernel)
theorem kw_1806 : Cond.instanceMethod yX2_isRead ∈ mx_tbl := mx_in (mx_t8 (List.mem_of_getElem? (i := 126) (by decide +kernel))) (by decide +kernel)
theorem kw_1807 : Cond.selects RX2 yX2_isRead yX2_isRead ∈ mx_tbl := mx_in (mx_t8 (List.mem_of_getElem? (i := 127) (by decide +kernel))) (by decide +kernel)
theorem kw_1808 : Cond.code yX2_isRead cX2_isRead 5 (some .boolean) ∈ mx_tbl := mx_in (mx_t8 (List.mem_of_getElem? (i := 128) rfl)) rfl
theorem kw_1810 : Cond.methodLink RX2 48 yX10_isGrammatical ∈ mx_tbl := mx_in (mx_t8 (List.mem_of_getElem? (i := 130) (by decide +kernel))) (by decide +kernel)
theorem kw_1811 : Cond.methodLink RX2 54 yX10_hasStatement ∈ mx_tbl := mx_in (mx_t8 (List.mem_of_getElem? (i := 131) (by decide +kernel))) (by decide +kernel)
theorem kw_1812 : Cond.methodLink RX2 57 yX2_isTaken ∈ mx_tbl := mx_in (mx_t8 (List.mem_of_getElem? (i := 132) (by decide +kernel))) (by decide +kernel)
theorem kw_1814 : Cond.instanceMethod yX2_isTaken ∈ mx_tbl := mx_in (mx_t8 (List.mem_of_getElem? (i := 134) (by decide +kernel))) (by decide +kernel)
theorem kw_1815 : Cond.code yX2_isTaken cX2_isTaken 5 (some .boolean) ∈ mx_tbl := mx_in (mx_t8 (List.mem_of_getElem? (i := 135) rfl)) rfl
theorem kw_1816 : Cond.methodLink RX2 67 yX10_note ∈ mx_tbl := mx_in (mx_t8 (List.mem_of_getElem? (i := 136) (by decide +kernel))) (by decide +kernel)
theorem kw_1817 : Cond.methodLink RX2 80 yX7_numberOf ∈ mx_tbl := mx_in (mx_t8 (List.mem_of_getElem? (i := 137) (by decide +kernel))) (by decide +kernel)
theorem kw_1818 : Cond.methodLink RX2 89 yX10_isInRange ∈ mx_tbl := mx_in (mx_t8 (List.mem_of_getElem? (i := 138) (by decide +kernel))) (by decide +kernel)
theorem kw_1819 : Cond.methodLink RX2 96 yX10_whole ∈ mx_tbl := mx_in (mx_t8 (List.mem_of_getElem? (i := 139) (by decide +kernel))) (by decide +kernel)
theorem kw_1820 : Cond.methodLink RX2 100 yX2_takeGoal ∈ mx_tbl := mx_in (mx_t8 (List.mem_of_getElem? (i := 140) (by decide +kernel))) (by decide +kernel)
theorem kw_1822 : Cond.instanceMethod yX2_takeGoal ∈ mx_tbl := mx_in (mx_t8 (List.mem_of_getElem? (i := 142) (by decide +kernel))) (by decide +kernel)
theorem kw_1823 : Cond.code yX2_takeGoal cX2_takeGoal 4 none ∈ mx_tbl := mx_in (mx_t8 (List.mem_of_getElem? (i := 143) rfl)) rfl
theorem kw_1824 : Cond.constantLong RX2 112 (65536) ∈ mx_tbl := mx_in (mx_t8 (List.mem_of_getElem? (i := 144) (by decide +kernel))) (by decide +kernel)
theorem kw_1825 : Cond.methodLink RX2 114 yJ9_floorDiv_f86c9 ∈ mx_tbl := mx_in (mx_t8 (List.mem_of_getElem? (i := 145) (by decide +kernel))) (by decide +kernel)
theorem kw_1826 : Cond.methodLink RX11 320 yX2_run ∈ mx_tbl := mx_in (mx_t8 (List.mem_of_getElem? (i := 146) (by decide +kernel))) (by decide +kernel)
theorem kw_1827 : Cond.instanceMethod yX2_run ∈ mx_tbl := mx_in (mx_t8 (List.mem_of_getElem? (i := 147) (by decide +kernel))) (by decide +kernel)
theorem kw_1828 : Cond.selects RX2 yX2_run yX2_run ∈ mx_tbl := mx_in (mx_t8 (List.mem_of_getElem? (i := 148) (by decide +kernel))) (by decide +kernel)
theorem kw_1829 : Cond.code yX2_run cX2_run 7 (some .int) ∈ mx_tbl := mx_in (mx_t8 (List.mem_of_getElem? (i := 149) rfl)) rfl
theorem kw_1830 : Cond.methodLink RX2 124 yX2_move ∈ mx_tbl := mx_in (mx_t8 (List.mem_of_getElem? (i := 150) (by decide +kernel))) (by decide +kernel)
theorem kw_1832 : Cond.instanceMethod yX2_move ∈ mx_tbl := mx_in (mx_t8 (List.mem_of_getElem? (i := 152) (by decide +kernel))) (by decide +kernel)
theorem kw_1833 : Cond.code yX2_move cX2_move 8 (some .int) ∈ mx_tbl := mx_in (mx_t8 (List.mem_of_getElem? (i := 153) rfl)) rfl
theorem kw_1834 : Cond.methodLink RX2 128 yJ9_abs_0f7a4 ∈ mx_tbl := mx_in (mx_t8 (List.mem_of_getElem? (i := 154) (by decide +kernel))) (by decide +kernel)
theorem kw_1835 : Cond.methodLink RX2 131 yX7_look ∈ mx_tbl := mx_in (mx_t8 (List.mem_of_getElem? (i := 155) (by decide +kernel))) (by decide +kernel)
theorem kw_1836 : Cond.methodLink RX2 145 yX2_isReached ∈ mx_tbl := mx_in (mx_t8 (List.mem_of_getElem? (i := 156) (by decide +kernel))) (by decide +kernel)
theorem kw_1838 : Cond.instanceMethod yX2_isReached ∈ mx_tbl := mx_in (mx_t8 (List.mem_of_getElem? (i := 158) (by decide +kernel))) (by decide +kernel)
theorem kw_1839 : Cond.code yX2_isReached cX2_isReached 3 (some .boolean) ∈ mx_tbl := mx_in (mx_t8 (List.mem_of_getElem? (i := 159) rfl)) rfl
theorem kw_1840 : Cond.methodLink RX2 152 yX7_moveTo ∈ mx_tbl := mx_in (mx_t8 (List.mem_of_getElem? (i := 160) (by decide +kernel))) (by decide +kernel)
theorem kw_1841 : Cond.methodLink RX2 155 yX2_keepEvent ∈ mx_tbl := mx_in (mx_t8 (List.mem_of_getElem? (i := 161) (by decide +kernel))) (by decide +kernel)
theorem kw_1843 : Cond.instanceMethod yX2_keepEvent ∈ mx_tbl := mx_in (mx_t8 (List.mem_of_getElem? (i := 163) (by decide +kernel))) (by decide +kernel)
theorem kw_1844 : Cond.code yX2_keepEvent cX2_keepEvent 4 none ∈ mx_tbl := mx_in (mx_t8 (List.mem_of_getElem? (i := 164) rfl)) rfl
theorem kw_1845 : Cond.methodLink RLn 286 yL_event ∈ mx_tbl := mx_in (mx_t8 (List.mem_of_getElem? (i := 165) (by decide +kernel))) (by decide +kernel)
theorem kw_1846 : Cond.static yL_event ∈ mx_tbl := mx_in (mx_t8 (List.mem_of_getElem? (i := 166) (by decide +kernel))) (by decide +kernel)
theorem kw_1848 : Cond.methodLink RLn 139 yX11_event ∈ mx_tbl := mx_in (mx_t8 (List.mem_of_getElem? (i := 168) (by decide +kernel))) (by decide +kernel)
theorem kw_1849 : Cond.instanceMethod yX11_event ∈ mx_tbl := mx_in (mx_t8 (List.mem_of_getElem? (i := 169) (by decide +kernel))) (by decide +kernel)
theorem kw_1850 : Cond.selects RX11 yX11_event yX11_event ∈ mx_tbl := mx_in (mx_t8 (List.mem_of_getElem? (i := 170) (by decide +kernel))) (by decide +kernel)
theorem kw_1851 : Cond.code yX11_event cX11_event 3 (some .int) ∈ mx_tbl := mx_in (mx_t8 (List.mem_of_getElem? (i := 171) rfl)) rfl
theorem kw_1852 : Cond.methodLink RX11 324 yX2_keptEvents ∈ mx_tbl := mx_in (mx_t8 (List.mem_of_getElem? (i := 172) (by decide +kernel))) (by decide +kernel)
theorem kw_1853 : Cond.instanceMethod yX2_keptEvents ∈ mx_tbl := mx_in (mx_t8 (List.mem_of_getElem? (i := 173) (by decide +kernel))) (by decide +kernel)
theorem kw_1854 : Cond.selects RX2 yX2_keptEvents yX2_keptEvents ∈ mx_tbl := mx_in (mx_t8 (List.mem_of_getElem? (i := 174) (by decide +kernel))) (by decide +kernel)
theorem kw_1855 : Cond.code yX2_keptEvents cX2_keptEvents 1 (some .int) ∈ mx_tbl := mx_in (mx_t8 (List.mem_of_getElem? (i := 175) rfl)) rfl
theorem kw_1856 : Cond.methodLink RX2 37 yJ9_min_7cf53 ∈ mx_tbl := mx_in (mx_t8 (List.mem_of_getElem? (i := 176) (by decide +kernel))) (by decide +kernel)
theorem kw_1857 : Cond.classLink RLn 143 RX12 ∈ mx_tbl := mx_in (mx_t8 (List.mem_of_getElem? (i := 177) (by decide +kernel))) (by decide +kernel)
theorem kw_1858 : Cond.instantiable RX12 114 ∈ mx_tbl := mx_in (mx_t8 (List.mem_of_getElem? (i := 178) (by decide +kernel))) (by decide +kernel)
theorem kw_1859 : Cond.methodLink RLn 145 yX12_init ∈ mx_tbl := mx_in (mx_t8 (List.mem_of_getElem? (i := 179) (by decide +kernel))) (by decide +kernel)
theorem kw_1860 : Cond.instanceMethod yX12_init ∈ mx_tbl := mx_in (mx_t8 (List.mem_of_getElem? (i := 180) (by decide +kernel))) (by decide +kernel)
theorem kw_1861 : Cond.code yX12_init cX12_init 1 none ∈ mx_tbl := mx_in (mx_t8 (List.mem_of_getElem? (i := 181) rfl)) rfl
theorem kw_1862 : Cond.methodLink RX12 1 ⟨"java/lang/Object", "<init>", "()V"⟩ ∈ mx_tbl := mx_in (mx_t8 (List.mem_of_getElem? (i := 182) (by decide +kernel))) (by decide +kernel)
theorem kw_1863 : Cond.fieldLink RX12 243 (TX12 0).1 (TX12 0).2.1 (TX12 0).2.2.1 ∈ mx_tbl := mx_in (mx_t8 (List.mem_of_getElem? (i := 183) (by decide +kernel))) (by decide +kernel)
theorem kw_1864 : Cond.fieldLink RX12 7 (TX12 1).1 (TX12 1).2.1 (TX12 1).2.2.1 ∈ mx_tbl := mx_in (mx_t8 (List.mem_of_getElem? (i := 184) (by decide +kernel))) (by decide +kernel)
theorem kw_1865 : Cond.fieldLink RX12 255 (TX12 2).1 (TX12 2).2.1 (TX12 2).2.2.1 ∈ mx_tbl := mx_in (mx_t8 (List.mem_of_getElem? (i := 185) (by decide +kernel))) (by decide +kernel)
theorem kw_1866 : Cond.fieldLink RX12 272 (TX12 3).1 (TX12 3).2.1 (TX12 3).2.2.1 ∈ mx_tbl := mx_in (mx_t8 (List.mem_of_getElem? (i := 186) (by decide +kernel))) (by decide +kernel)
theorem kw_1867 : Cond.fieldLink RX12 266 (TX12 4).1 (TX12 4).2.1 (TX12 4).2.2.1 ∈ mx_tbl := mx_in (mx_t8 (List.mem_of_getElem? (i := 187) (by decide +kernel))) (by decide +kernel)
theorem kw_1868 : Cond.fieldLink RX12 269 (TX12 5).1 (TX12 5).2.1 (TX12 5).2.2.1 ∈ mx_tbl := mx_in (mx_t8 (List.mem_of_getElem? (i := 188) (by decide +kernel))) (by decide +kernel)
theorem kw_1869 : Cond.fieldLink RX12 275 (TX12 6).1 (TX12 6).2.1 (TX12 6).2.2.1 ∈ mx_tbl := mx_in (mx_t8 (List.mem_of_getElem? (i := 189) (by decide +kernel))) (by decide +kernel)
theorem kw_1870 : Cond.fieldLink RX12 278 (TX12 7).1 (TX12 7).2.1 (TX12 7).2.2.1 ∈ mx_tbl := mx_in (mx_t8 (List.mem_of_getElem? (i := 190) (by decide +kernel))) (by decide +kernel)
theorem kw_1871 : Cond.fieldLink RX12 287 (TX12 8).1 (TX12 8).2.1 (TX12 8).2.2.1 ∈ mx_tbl := mx_in (mx_t8 (List.mem_of_getElem? (i := 191) (by decide +kernel))) (by decide +kernel)
theorem kw_1872 : Cond.fieldLink RX12 291 (TX12 9).1 (TX12 9).2.1 (TX12 9).2.2.1 ∈ mx_tbl := mx_in (mx_t8 (List.mem_of_getElem? (i := 192) (by decide +kernel))) (by decide +kernel)
theorem kw_1873 : Cond.fieldLink RX12 283 (TX12 10).1 (TX12 10).2.1 (TX12 10).2.2.1 ∈ mx_tbl := mx_in (mx_t8 (List.mem_of_getElem? (i := 193) (by decide +kernel))) (by decide +kernel)
theorem kw_1874 : Cond.fieldLink RX12 13 (TX12 11).1 (TX12 11).2.1 (TX12 11).2.2.1 ∈ mx_tbl := mx_in (mx_t8 (List.mem_of_getElem? (i := 194) (by decide +kernel))) (by decide +kernel)
theorem kw_1875 : Cond.fieldLink RX12 17 (TX12 12).1 (TX12 12).2.1 (TX12 12).2.2.1 ∈ mx_tbl := mx_in (mx_t8 (List.mem_of_getElem? (i := 195) (by decide +kernel))) (by decide +kernel)
theorem kw_1876 : Cond.fieldLink RX12 20 (TX12 13).1 (TX12 13).2.1 (TX12 13).2.2.1 ∈ mx_tbl := mx_in (mx_t8 (List.mem_of_getElem? (i := 196) (by decide +kernel))) (by decide +kernel)
theorem kw_1877 : Cond.fieldLink RX12 330 (TX12 14).1 (TX12 14).2.1 (TX12 14).2.2.1 ∈ mx_tbl := mx_in (mx_t8 (List.mem_of_getElem? (i := 197) (by decide +kernel))) (by decide +kernel)
theorem kw_1878 : Cond.fieldLink RX12 340 (TX12 15).1 (TX12 15).2.1 (TX12 15).2.2.1 ∈ mx_tbl := mx_in (mx_t8 (List.mem_of_getElem? (i := 198) (by decide +kernel))) (by decide +kernel)
theorem kw_1879 : Cond.fieldLink RX12 337 (TX12 16).1 (TX12 16).2.1 (TX12 16).2.2.1 ∈ mx_tbl := mx_in (mx_t8 (List.mem_of_getElem? (i := 199) (by decide +kernel))) (by decide +kernel)
theorem kw_1880 : Cond.fieldLink RX12 353 (TX12 17).1 (TX12 17).2.1 (TX12 17).2.2.1 ∈ mx_tbl := mx_in (mx_t8 (List.mem_of_getElem? (i := 200) (by decide +kernel))) (by decide +kernel)
theorem kw_1881 : Cond.fieldLink RX12 356 (TX12 18).1 (TX12 18).2.1 (TX12 18).2.2.1 ∈ mx_tbl := mx_in (mx_t8 (List.mem_of_getElem? (i := 201) (by decide +kernel))) (by decide +kernel)
theorem kw_1882 : Cond.fieldLink RX12 460 (TX12 19).1 (TX12 19).2.1 (TX12 19).2.2.1 ∈ mx_tbl := mx_in (mx_t8 (List.mem_of_getElem? (i := 202) (by decide +kernel))) (by decide +kernel)
theorem kw_1883 : Cond.fieldLink RX12 463 (TX12 20).1 (TX12 20).2.1 (TX12 20).2.2.1 ∈ mx_tbl := mx_in (mx_t8 (List.mem_of_getElem? (i := 203) (by decide +kernel))) (by decide +kernel)
theorem kw_1884 : Cond.fieldLink RX12 24 (TX12 21).1 (TX12 21).2.1 (TX12 21).2.2.1 ∈ mx_tbl := mx_in (mx_t8 (List.mem_of_getElem? (i := 204) (by decide +kernel))) (by decide +kernel)
theorem kw_1885 : Cond.fieldLink RX12 27 (TX12 22).1 (TX12 22).2.1 (TX12 22).2.2.1 ∈ mx_tbl := mx_in (mx_t8 (List.mem_of_getElem? (i := 205) (by decide +kernel))) (by decide +kernel)
theorem kw_1886 : Cond.fieldLink RX12 30 (TX12 23).1 (TX12 23).2.1 (TX12 23).2.2.1 ∈ mx_tbl := mx_in (mx_t8 (List.mem_of_getElem? (i := 206) (by decide +kernel))) (by decide +kernel)
theorem kw_1887 : Cond.fieldLink RX12 33 (TX12 24).1 (TX12 24).2.1 (TX12 24).2.2.1 ∈ mx_tbl := mx_in (mx_t8 (List.mem_of_getElem? (i := 207) (by decide +kernel))) (by decide +kernel)
theorem kw_1888 : Cond.fieldLink RX12 36 (TX12 25).1 (TX12 25).2.1 (TX12 25).2.2.1 ∈ mx_tbl := mx_in (mx_t8 (List.mem_of_getElem? (i := 208) (by decide +kernel))) (by decide +kernel)
theorem kw_1889 : Cond.fieldLink RX12 39 (TX12 26).1 (TX12 26).2.1 (TX12 26).2.2.1 ∈ mx_tbl := mx_in (mx_t8 (List.mem_of_getElem? (i := 209) (by decide +kernel))) (by decide +kernel)
theorem kw_1890 : Cond.fieldLink RX12 42 (TX12 27).1 (TX12 27).2.1 (TX12 27).2.2.1 ∈ mx_tbl := mx_in (mx_t8 (List.mem_of_getElem? (i := 210) (by decide +kernel))) (by decide +kernel)
theorem kw_1891 : Cond.fieldLink RX12 45 (TX12 28).1 (TX12 28).2.1 (TX12 28).2.2.1 ∈ mx_tbl := mx_in (mx_t8 (List.mem_of_getElem? (i := 211) (by decide +kernel))) (by decide +kernel)
theorem kw_1892 : Cond.fieldLink RX12 48 (TX12 29).1 (TX12 29).2.1 (TX12 29).2.2.1 ∈ mx_tbl := mx_in (mx_t8 (List.mem_of_getElem? (i := 212) (by decide +kernel))) (by decide +kernel)
theorem kw_1893 : Cond.fieldLink RX12 51 (TX12 30).1 (TX12 30).2.1 (TX12 30).2.2.1 ∈ mx_tbl := mx_in (mx_t8 (List.mem_of_getElem? (i := 213) (by decide +kernel))) (by decide +kernel)
theorem kw_1894 : Cond.fieldLink RX12 54 (TX12 31).1 (TX12 31).2.1 (TX12 31).2.2.1 ∈ mx_tbl := mx_in (mx_t8 (List.mem_of_getElem? (i := 214) (by decide +kernel))) (by decide +kernel)
theorem kw_1895 : Cond.fieldLink RX12 57 (TX12 32).1 (TX12 32).2.1 (TX12 32).2.2.1 ∈ mx_tbl := mx_in (mx_t8 (List.mem_of_getElem? (i := 215) (by decide +kernel))) (by decide +kernel)
theorem kw_1896 : Cond.fieldLink RX12 60 (TX12 33).1 (TX12 33).2.1 (TX12 33).2.2.1 ∈ mx_tbl := mx_in (mx_t8 (List.mem_of_getElem? (i := 216) (by decide +kernel))) (by decide +kernel)
theorem kw_1897 : Cond.fieldLink RX12 63 (TX12 34).1 (TX12 34).2.1 (TX12 34).2.2.1 ∈ mx_tbl := mx_in (mx_t8 (List.mem_of_getElem? (i := 217) (by decide +kernel))) (by decide +kernel)
theorem kw_1898 : Cond.fieldLink RX12 66 (TX12 35).1 (TX12 35).2.1 (TX12 35).2.2.1 ∈ mx_tbl := mx_in (mx_t8 (List.mem_of_getElem? (i := 218) (by decide +kernel))) (by decide +kernel)
theorem kw_1899 : Cond.fieldLink RX12 69 (TX12 36).1 (TX12 36).2.1 (TX12 36).2.2.1 ∈ mx_tbl := mx_in (mx_t8 (List.mem_of_getElem? (i := 219) (by decide +kernel))) (by decide +kernel)
theorem kw_1900 : Cond.fieldLink RX12 72 (TX12 37).1 (TX12 37).2.1 (TX12 37).2.2.1 ∈ mx_tbl := mx_in (mx_t8 (List.mem_of_getElem? (i := 220) (by decide +kernel))) (by decide +kernel)
theorem kw_1901 : Cond.fieldLink RX12 403 (TX12 38).1 (TX12 38).2.1 (TX12 38).2.2.1 ∈ mx_tbl := mx_in (mx_t8 (List.mem_of_getElem? (i := 221) (by decide +kernel))) (by decide +kernel)
theorem kw_1902 : Cond.fieldLink RX12 75 (TX12 39).1 (TX12 39).2.1 (TX12 39).2.2.1 ∈ mx_tbl := mx_in (mx_t8 (List.mem_of_getElem? (i := 222) (by decide +kernel))) (by decide +kernel)
theorem kw_1903 : Cond.fieldLink RX12 78 (TX12 40).1 (TX12 40).2.1 (TX12 40).2.2.1 ∈ mx_tbl := mx_in (mx_t8 (List.mem_of_getElem? (i := 223) (by decide +kernel))) (by decide +kernel)
theorem kw_1904 : Cond.fieldLink RX12 81 (TX12 41).1 (TX12 41).2.1 (TX12 41).2.2.1 ∈ mx_tbl := mx_in (mx_t8 (List.mem_of_getElem? (i := 224) (by decide +kernel))) (by decide +kernel)
theorem kw_1905 : Cond.fieldLink RX12 84 (TX12 42).1 (TX12 42).2.1 (TX12 42).2.2.1 ∈ mx_tbl := mx_in (mx_t8 (List.mem_of_getElem? (i := 225) (by decide +kernel))) (by decide +kernel)
theorem kw_1906 : Cond.fieldLink RX12 87 (TX12 43).1 (TX12 43).2.1 (TX12 43).2.2.1 ∈ mx_tbl := mx_in (mx_t8 (List.mem_of_getElem? (i := 226) (by decide +kernel))) (by decide +kernel)
theorem kw_1907 : Cond.fieldLink RX12 90 (TX12 44).1 (TX12 44).2.1 (TX12 44).2.2.1 ∈ mx_tbl := mx_in (mx_t8 (List.mem_of_getElem? (i := 227) (by decide +kernel))) (by decide +kernel)
theorem kw_1908 : Cond.fieldLink RX12 93 (TX12 45).1 (TX12 45).2.1 (TX12 45).2.2.1 ∈ mx_tbl := mx_in (mx_t8 (List.mem_of_getElem? (i := 228) (by decide +kernel))) (by decide +kernel)
theorem kw_1909 : Cond.fieldLink RX12 96 (TX12 46).1 (TX12 46).2.1 (TX12 46).2.2.1 ∈ mx_tbl := mx_in (mx_t8 (List.mem_of_getElem? (i := 229) (by decide +kernel))) (by decide +kernel)
theorem kw_1910 : Cond.fieldLink RX12 99 (TX12 47).1 (TX12 47).2.1 (TX12 47).2.2.1 ∈ mx_tbl := mx_in (mx_t8 (List.mem_of_getElem? (i := 230) (by decide +kernel))) (by decide +kernel)
theorem kw_1911 : Cond.fieldLink RX12 102 (TX12 48).1 (TX12 48).2.1 (TX12 48).2.2.1 ∈ mx_tbl := mx_in (mx_t8 (List.mem_of_getElem? (i := 231) (by decide +kernel))) (by decide +kernel)
theorem kw_1912 : Cond.fieldLink RX12 105 (TX12 49).1 (TX12 49).2.1 (TX12 49).2.2.1 ∈ mx_tbl := mx_in (mx_t8 (List.mem_of_getElem? (i := 232) (by decide +kernel))) (by decide +kernel)
theorem kw_1913 : Cond.fieldLink RX12 400 (TX12 50).1 (TX12 50).2.1 (TX12 50).2.2.1 ∈ mx_tbl := mx_in (mx_t8 (List.mem_of_getElem? (i := 233) (by decide +kernel))) (by decide +kernel)
theorem kw_1914 : Cond.fieldLink RX12 108 (TX12 51).1 (TX12 51).2.1 (TX12 51).2.2.1 ∈ mx_tbl := mx_in (mx_t8 (List.mem_of_getElem? (i := 234) (by decide +kernel))) (by decide +kernel)
theorem kw_1915 : Cond.fieldLink RX12 111 (TX12 52).1 (TX12 52).2.1 (TX12 52).2.2.1 ∈ mx_tbl := mx_in (mx_t8 (List.mem_of_getElem? (i := 235) (by decide +kernel))) (by decide +kernel)
theorem kw_1916 : Cond.fieldLink RX12 411 (TX12 53).1 (TX12 53).2.1 (TX12 53).2.2.1 ∈ mx_tbl := mx_in (mx_t8 (List.mem_of_getElem? (i := 236) (by decide +kernel))) (by decide +kernel)
theorem kw_1917 : Cond.fieldLink RX12 500 (TX12 54).1 (TX12 54).2.1 (TX12 54).2.2.1 ∈ mx_tbl := mx_in (mx_t8 (List.mem_of_getElem? (i := 237) (by decide +kernel))) (by decide +kernel)
theorem kw_1918 : Cond.fieldLink RX12 503 (TX12 55).1 (TX12 55).2.1 (TX12 55).2.2.1 ∈ mx_tbl := mx_in (mx_t8 (List.mem_of_getElem? (i := 238) (by decide +kernel))) (by decide +kernel)
theorem kw_1919 : Cond.fieldLink RX12 114 (TX12 56).1 (TX12 56).2.1 (TX12 56).2.2.1 ∈ mx_tbl := mx_in (mx_t8 (List.mem_of_getElem? (i := 239) (by decide +kernel))) (by decide +kernel)
theorem kw_1920 : Cond.fieldLink RX12 615 (TX12 57).1 (TX12 57).2.1 (TX12 57).2.2.1 ∈ mx_tbl := mx_in (mx_t9 (List.mem_of_getElem? (i := 0) (by decide +kernel))) (by decide +kernel)
theorem kw_1921 : Cond.fieldLink RX12 117 (TX12 58).1 (TX12 58).2.1 (TX12 58).2.2.1 ∈ mx_tbl := mx_in (mx_t9 (List.mem_of_getElem? (i := 1) (by decide +kernel))) (by decide +kernel)
theorem kw_1922 : Cond.fieldLink RX12 120 (TX12 59).1 (TX12 59).2.1 (TX12 59).2.2.1 ∈ mx_tbl := mx_in (mx_t9 (List.mem_of_getElem? (i := 2) (by decide +kernel))) (by decide +kernel)
theorem kw_1923 : Cond.fieldLink RX12 623 (TX12 60).1 (TX12 60).2.1 (TX12 60).2.2.1 ∈ mx_tbl := mx_in (mx_t9 (List.mem_of_getElem? (i := 3) (by decide +kernel))) (by decide +kernel)
theorem kw_1924 : Cond.fieldLink RX12 123 (TX12 61).1 (TX12 61).2.1 (TX12 61).2.2.1 ∈ mx_tbl := mx_in (mx_t9 (List.mem_of_getElem? (i := 4) (by decide +kernel))) (by decide +kernel)
theorem kw_1925 : Cond.fieldLink RX12 126 (TX12 62).1 (TX12 62).2.1 (TX12 62).2.2.1 ∈ mx_tbl := mx_in (mx_t9 (List.mem_of_getElem? (i := 5) (by decide +kernel))) (by decide +kernel)
theorem kw_1926 : Cond.fieldLink RX12 129 (TX12 63).1 (TX12 63).2.1 (TX12 63).2.2.1 ∈ mx_tbl := mx_in (mx_t9 (List.mem_of_getElem? (i := 6) (by decide +kernel))) (by decide +kernel)
theorem kw_1927 : Cond.fieldLink RX12 132 (TX12 64).1 (TX12 64).2.1 (TX12 64).2.2.1 ∈ mx_tbl := mx_in (mx_t9 (List.mem_of_getElem? (i := 7) (by decide +kernel))) (by decide +kernel)
theorem kw_1928 : Cond.fieldLink RX12 135 (TX12 65).1 (TX12 65).2.1 (TX12 65).2.2.1 ∈ mx_tbl := mx_in (mx_t9 (List.mem_of_getElem? (i := 8) (by decide +kernel))) (by decide +kernel)
theorem kw_1929 : Cond.fieldLink RX12 138 (TX12 66).1 (TX12 66).2.1 (TX12 66).2.2.1 ∈ mx_tbl := mx_in (mx_t9 (List.mem_of_getElem? (i := 9) (by decide +kernel))) (by decide +kernel)
theorem kw_1930 : Cond.fieldLink RX12 141 (TX12 67).1 (TX12 67).2.1 (TX12 67).2.2.1 ∈ mx_tbl := mx_in (mx_t9 (List.mem_of_getElem? (i := 10) (by decide +kernel))) (by decide +kernel)
theorem kw_1931 : Cond.fieldLink RX12 626 (TX12 68).1 (TX12 68).2.1 (TX12 68).2.2.1 ∈ mx_tbl := mx_in (mx_t9 (List.mem_of_getElem? (i := 11) (by decide +kernel))) (by decide +kernel)
theorem kw_1932 : Cond.fieldLink RX12 144 (TX12 69).1 (TX12 69).2.1 (TX12 69).2.2.1 ∈ mx_tbl := mx_in (mx_t9 (List.mem_of_getElem? (i := 12) (by decide +kernel))) (by decide +kernel)
theorem kw_1933 : Cond.fieldLink RX12 147 (TX12 70).1 (TX12 70).2.1 (TX12 70).2.2.1 ∈ mx_tbl := mx_in (mx_t9 (List.mem_of_getElem? (i := 13) (by decide +kernel))) (by decide +kernel)
theorem kw_1934 : Cond.fieldLink RX12 150 (TX12 71).1 (TX12 71).2.1 (TX12 71).2.2.1 ∈ mx_tbl := mx_in (mx_t9 (List.mem_of_getElem? (i := 14) (by decide +kernel))) (by decide +kernel)
theorem kw_1935 : Cond.fieldLink RX12 665 (TX12 72).1 (TX12 72).2.1 (TX12 72).2.2.1 ∈ mx_tbl := mx_in (mx_t9 (List.mem_of_getElem? (i := 15) (by decide +kernel))) (by decide +kernel)
theorem kw_1936 : Cond.fieldLink RX12 153 (TX12 73).1 (TX12 73).2.1 (TX12 73).2.2.1 ∈ mx_tbl := mx_in (mx_t9 (List.mem_of_getElem? (i := 16) (by decide +kernel))) (by decide +kernel)
theorem kw_1937 : Cond.fieldLink RX12 685 (TX12 74).1 (TX12 74).2.1 (TX12 74).2.2.1 ∈ mx_tbl := mx_in (mx_t9 (List.mem_of_getElem? (i := 17) (by decide +kernel))) (by decide +kernel)
theorem kw_1938 : Cond.fieldLink RX12 156 (TX12 75).1 (TX12 75).2.1 (TX12 75).2.2.1 ∈ mx_tbl := mx_in (mx_t9 (List.mem_of_getElem? (i := 18) (by decide +kernel))) (by decide +kernel)
theorem kw_1939 : Cond.fieldLink RX12 159 (TX12 76).1 (TX12 76).2.1 (TX12 76).2.2.1 ∈ mx_tbl := mx_in (mx_t9 (List.mem_of_getElem? (i := 19) (by decide +kernel))) (by decide +kernel)
theorem kw_1940 : Cond.fieldLink RX12 162 (TX12 77).1 (TX12 77).2.1 (TX12 77).2.2.1 ∈ mx_tbl := mx_in (mx_t9 (List.mem_of_getElem? (i := 20) (by decide +kernel))) (by decide +kernel)
theorem kw_1941 : Cond.fieldLink RX12 165 (TX12 78).1 (TX12 78).2.1 (TX12 78).2.2.1 ∈ mx_tbl := mx_in (mx_t9 (List.mem_of_getElem? (i := 21) (by decide +kernel))) (by decide +kernel)
theorem kw_1942 : Cond.fieldLink RX12 168 (TX12 79).1 (TX12 79).2.1 (TX12 79).2.2.1 ∈ mx_tbl := mx_in (mx_t9 (List.mem_of_getElem? (i := 22) (by decide +kernel))) (by decide +kernel)
theorem kw_1943 : Cond.fieldLink RX12 674 (TX12 80).1 (TX12 80).2.1 (TX12 80).2.2.1 ∈ mx_tbl := mx_in (mx_t9 (List.mem_of_getElem? (i := 23) (by decide +kernel))) (by decide +kernel)
theorem kw_1944 : Cond.fieldLink RX12 171 (TX12 81).1 (TX12 81).2.1 (TX12 81).2.2.1 ∈ mx_tbl := mx_in (mx_t9 (List.mem_of_getElem? (i := 24) (by decide +kernel))) (by decide +kernel)
theorem kw_1945 : Cond.fieldLink RX12 174 (TX12 82).1 (TX12 82).2.1 (TX12 82).2.2.1 ∈ mx_tbl := mx_in (mx_t9 (List.mem_of_getElem? (i := 25) (by decide +kernel))) (by decide +kernel)
theorem kw_1946 : Cond.fieldLink RX12 177 (TX12 83).1 (TX12 83).2.1 (TX12 83).2.2.1 ∈ mx_tbl := mx_in (mx_t9 (List.mem_of_getElem? (i := 26) (by decide +kernel))) (by decide +kernel)
theorem kw_1947 : Cond.fieldLink RX12 180 (TX12 84).1 (TX12 84).2.1 (TX12 84).2.2.1 ∈ mx_tbl := mx_in (mx_t9 (List.mem_of_getElem? (i := 27) (by decide +kernel))) (by decide +kernel)
theorem kw_1948 : Cond.fieldLink RX12 183 (TX12 85).1 (TX12 85).2.1 (TX12 85).2.2.1 ∈ mx_tbl := mx_in (mx_t9 (List.mem_of_getElem? (i := 28) (by decide +kernel))) (by decide +kernel)
theorem kw_1949 : Cond.fieldLink RX12 186 (TX12 86).1 (TX12 86).2.1 (TX12 86).2.2.1 ∈ mx_tbl := mx_in (mx_t9 (List.mem_of_getElem? (i := 29) (by decide +kernel))) (by decide +kernel)
theorem kw_1950 : Cond.fieldLink RX12 189 (TX12 87).1 (TX12 87).2.1 (TX12 87).2.2.1 ∈ mx_tbl := mx_in (mx_t9 (List.mem_of_getElem? (i := 30) (by decide +kernel))) (by decide +kernel)
theorem kw_1951 : Cond.fieldLink RX12 192 (TX12 88).1 (TX12 88).2.1 (TX12 88).2.2.1 ∈ mx_tbl := mx_in (mx_t9 (List.mem_of_getElem? (i := 31) (by decide +kernel))) (by decide +kernel)
theorem kw_1952 : Cond.fieldLink RX12 768 (TX12 89).1 (TX12 89).2.1 (TX12 89).2.2.1 ∈ mx_tbl := mx_in (mx_t9 (List.mem_of_getElem? (i := 32) (by decide +kernel))) (by decide +kernel)
theorem kw_1953 : Cond.fieldLink RX12 765 (TX12 90).1 (TX12 90).2.1 (TX12 90).2.2.1 ∈ mx_tbl := mx_in (mx_t9 (List.mem_of_getElem? (i := 33) (by decide +kernel))) (by decide +kernel)
theorem kw_1954 : Cond.fieldLink RX12 780 (TX12 91).1 (TX12 91).2.1 (TX12 91).2.2.1 ∈ mx_tbl := mx_in (mx_t9 (List.mem_of_getElem? (i := 34) (by decide +kernel))) (by decide +kernel)
theorem kw_1955 : Cond.fieldLink RX12 195 (TX12 92).1 (TX12 92).2.1 (TX12 92).2.2.1 ∈ mx_tbl := mx_in (mx_t9 (List.mem_of_getElem? (i := 35) (by decide +kernel))) (by decide +kernel)
theorem kw_1956 : Cond.fieldLink RX12 198 (TX12 93).1 (TX12 93).2.1 (TX12 93).2.2.1 ∈ mx_tbl := mx_in (mx_t9 (List.mem_of_getElem? (i := 36) (by decide +kernel))) (by decide +kernel)
theorem kw_1957 : Cond.fieldLink RX12 201 (TX12 94).1 (TX12 94).2.1 (TX12 94).2.2.1 ∈ mx_tbl := mx_in (mx_t9 (List.mem_of_getElem? (i := 37) (by decide +kernel))) (by decide +kernel)
theorem kw_1958 : Cond.fieldLink RX12 830 (TX12 95).1 (TX12 95).2.1 (TX12 95).2.2.1 ∈ mx_tbl := mx_in (mx_t9 (List.mem_of_getElem? (i := 38) (by decide +kernel))) (by decide +kernel)
theorem kw_1959 : Cond.fieldLink RX12 204 (TX12 96).1 (TX12 96).2.1 (TX12 96).2.2.1 ∈ mx_tbl := mx_in (mx_t9 (List.mem_of_getElem? (i := 39) (by decide +kernel))) (by decide +kernel)
theorem kw_1960 : Cond.fieldLink RX12 207 (TX12 97).1 (TX12 97).2.1 (TX12 97).2.2.1 ∈ mx_tbl := mx_in (mx_t9 (List.mem_of_getElem? (i := 40) (by decide +kernel))) (by decide +kernel)
theorem kw_1961 : Cond.fieldLink RX12 210 (TX12 98).1 (TX12 98).2.1 (TX12 98).2.2.1 ∈ mx_tbl := mx_in (mx_t9 (List.mem_of_getElem? (i := 41) (by decide +kernel))) (by decide +kernel)
theorem kw_1962 : Cond.fieldLink RX12 213 (TX12 99).1 (TX12 99).2.1 (TX12 99).2.2.1 ∈ mx_tbl := mx_in (mx_t9 (List.mem_of_getElem? (i := 42) (by decide +kernel))) (by decide +kernel)
theorem kw_1963 : Cond.fieldLink RX12 216 (TX12 100).1 (TX12 100).2.1 (TX12 100).2.2.1 ∈ mx_tbl := mx_in (mx_t9 (List.mem_of_getElem? (i := 43) (by decide +kernel))) (by decide +kernel)
theorem kw_1964 : Cond.fieldLink RX12 219 (TX12 101).1 (TX12 101).2.1 (TX12 101).2.2.1 ∈ mx_tbl := mx_in (mx_t9 (List.mem_of_getElem? (i := 44) (by decide +kernel))) (by decide +kernel)
theorem kw_1965 : Cond.fieldLink RX12 815 (TX12 102).1 (TX12 102).2.1 (TX12 102).2.2.1 ∈ mx_tbl := mx_in (mx_t9 (List.mem_of_getElem? (i := 45) (by decide +kernel))) (by decide +kernel)
theorem kw_1966 : Cond.fieldLink RX12 821 (TX12 103).1 (TX12 103).2.1 (TX12 103).2.2.1 ∈ mx_tbl := mx_in (mx_t9 (List.mem_of_getElem? (i := 46) (by decide +kernel))) (by decide +kernel)
theorem kw_1967 : Cond.fieldLink RX12 222 (TX12 104).1 (TX12 104).2.1 (TX12 104).2.2.1 ∈ mx_tbl := mx_in (mx_t9 (List.mem_of_getElem? (i := 47) (by decide +kernel))) (by decide +kernel)
theorem kw_1968 : Cond.fieldLink RX12 800 (TX12 105).1 (TX12 105).2.1 (TX12 105).2.2.1 ∈ mx_tbl := mx_in (mx_t9 (List.mem_of_getElem? (i := 48) (by decide +kernel))) (by decide +kernel)
theorem kw_1969 : Cond.fieldLink RX12 225 (TX12 106).1 (TX12 106).2.1 (TX12 106).2.2.1 ∈ mx_tbl := mx_in (mx_t9 (List.mem_of_getElem? (i := 49) (by decide +kernel))) (by decide +kernel)
theorem kw_1970 : Cond.fieldLink RX12 228 (TX12 107).1 (TX12 107).2.1 (TX12 107).2.2.1 ∈ mx_tbl := mx_in (mx_t9 (List.mem_of_getElem? (i := 50) (by decide +kernel))) (by decide +kernel)
theorem kw_1971 : Cond.fieldLink RX12 231 (TX12 108).1 (TX12 108).2.1 (TX12 108).2.2.1 ∈ mx_tbl := mx_in (mx_t9 (List.mem_of_getElem? (i := 51) (by decide +kernel))) (by decide +kernel)
theorem kw_1972 : Cond.fieldLink RX12 234 (TX12 109).1 (TX12 109).2.1 (TX12 109).2.2.1 ∈ mx_tbl := mx_in (mx_t9 (List.mem_of_getElem? (i := 52) (by decide +kernel))) (by decide +kernel)
theorem kw_1973 : Cond.fieldLink RX12 237 (TX12 110).1 (TX12 110).2.1 (TX12 110).2.2.1 ∈ mx_tbl := mx_in (mx_t9 (List.mem_of_getElem? (i := 53) (by decide +kernel))) (by decide +kernel)
theorem kw_1974 : Cond.fieldLink RX12 240 (TX12 111).1 (TX12 111).2.1 (TX12 111).2.2.1 ∈ mx_tbl := mx_in (mx_t9 (List.mem_of_getElem? (i := 54) (by decide +kernel))) (by decide +kernel)
theorem kw_1975 : Cond.fieldLink RX12 809 (TX12 112).1 (TX12 112).2.1 (TX12 112).2.2.1 ∈ mx_tbl := mx_in (mx_t9 (List.mem_of_getElem? (i := 55) (by decide +kernel))) (by decide +kernel)
theorem kw_1976 : Cond.fieldLink RX12 818 (TX12 113).1 (TX12 113).2.1 (TX12 113).2.2.1 ∈ mx_tbl := mx_in (mx_t9 (List.mem_of_getElem? (i := 56) (by decide +kernel))) (by decide +kernel)
theorem kw_2206 : Cond.methodLink RLn 152 yX12_thrown ∈ mx_tbl := mx_in (mx_t10 (List.mem_of_getElem? (i := 46) (by decide +kernel))) (by decide +kernel)
theorem kw_2207 : Cond.instanceMethod yX12_thrown ∈ mx_tbl := mx_in (mx_t10 (List.mem_of_getElem? (i := 47) (by decide +kernel))) (by decide +kernel)
theorem kw_2208 : Cond.selects RX12 yX12_thrown yX12_thrown ∈ mx_tbl := mx_in (mx_t10 (List.mem_of_getElem? (i := 48) (by decide +kernel))) (by decide +kernel)
theorem kw_2209 : Cond.code yX12_thrown cX12_thrown 1 (some .int) ∈ mx_tbl := mx_in (mx_t10 (List.mem_of_getElem? (i := 49) rfl)) rfl
theorem kw_2210 : Cond.methodLink RLn 151 yX12_feed ∈ mx_tbl := mx_in (mx_t10 (List.mem_of_getElem? (i := 50) (by decide +kernel))) (by decide +kernel)
theorem kw_2211 : Cond.instanceMethod yX12_feed ∈ mx_tbl := mx_in (mx_t10 (List.mem_of_getElem? (i := 51) (by decide +kernel))) (by decide +kernel)
theorem kw_2212 : Cond.selects RX12 yX12_feed yX12_feed ∈ mx_tbl := mx_in (mx_t10 (List.mem_of_getElem? (i := 52) (by decide +kernel))) (by decide +kernel)
theorem kw_2213 : Cond.code yX12_feed cX12_feed 6 (some .int) ∈ mx_tbl := mx_in (mx_t10 (List.mem_of_getElem? (i := 53) rfl)) rfl
theorem kw_2214 : Cond.methodLink RX12 258 yX12_tapeWord ∈ mx_tbl := mx_in (mx_t10 (List.mem_of_getElem? (i := 54) (by decide +kernel))) (by decide +kernel)
theorem kw_2216 : Cond.instanceMethod yX12_tapeWord ∈ mx_tbl := mx_in (mx_t10 (List.mem_of_getElem? (i := 56) (by decide +kernel))) (by decide +kernel)
theorem kw_2217 : Cond.code yX12_tapeWord cX12_tapeWord 3 none ∈ mx_tbl := mx_in (mx_t10 (List.mem_of_getElem? (i := 57) rfl)) rfl
theorem kw_2218 : Cond.methodLink RLn 158 yX12_end ∈ mx_tbl := mx_in (mx_t10 (List.mem_of_getElem? (i := 58) (by decide +kernel))) (by decide +kernel)
theorem kw_2219 : Cond.instanceMethod yX12_end ∈ mx_tbl := mx_in (mx_t10 (List.mem_of_getElem? (i := 59) (by decide +kernel))) (by decide +kernel)
theorem kw_2220 : Cond.selects RX12 yX12_end yX12_end ∈ mx_tbl := mx_in (mx_t10 (List.mem_of_getElem? (i := 60) (by decide +kernel))) (by decide +kernel)
theorem kw_2221 : Cond.code yX12_end cX12_end 2 (some .int) ∈ mx_tbl := mx_in (mx_t10 (List.mem_of_getElem? (i := 61) rfl)) rfl
theorem kw_2222 : Cond.methodLink RX12 262 yX12_in ∈ mx_tbl := mx_in (mx_t10 (List.mem_of_getElem? (i := 62) (by decide +kernel))) (by decide +kernel)
theorem kw_2223 : Cond.static yX12_in ∈ mx_tbl := mx_in (mx_t10 (List.mem_of_getElem? (i := 63) (by decide +kernel))) (by decide +kernel)
theorem kw_2224 : Cond.code yX12_in cX12_in 6 (some .boolean) ∈ mx_tbl := mx_in (mx_t10 (List.mem_of_getElem? (i := 64) rfl)) rfl
theorem kw_2225 : Cond.methodLink RLn 162 yX12_fault ∈ mx_tbl := mx_in (mx_t10 (List.mem_of_getElem? (i := 65) (by decide +kernel))) (by decide +kernel)
theorem kw_2226 : Cond.instanceMethod yX12_fault ∈ mx_tbl := mx_in (mx_t10 (List.mem_of_getElem? (i := 66) (by decide +kernel))) (by decide +kernel)
theorem kw_2227 : Cond.selects RX12 yX12_fault yX12_fault ∈ mx_tbl := mx_in (mx_t10 (List.mem_of_getElem? (i := 67) (by decide +kernel))) (by decide +kernel)
theorem kw_2228 : Cond.code yX12_fault cX12_fault 2 (some .int) ∈ mx_tbl := mx_in (mx_t10 (List.mem_of_getElem? (i := 68) rfl)) rfl
theorem kw_2229 : Cond.methodLink RLn 166 yX12_linkage ∈ mx_tbl := mx_in (mx_t10 (List.mem_of_getElem? (i := 69) (by decide +kernel))) (by decide +kernel)
theorem kw_2230 : Cond.instanceMethod yX12_linkage ∈ mx_tbl := mx_in (mx_t10 (List.mem_of_getElem? (i := 70) (by decide +kernel))) (by decide +kernel)
theorem kw_2231 : Cond.selects RX12 yX12_linkage yX12_linkage ∈ mx_tbl := mx_in (mx_t10 (List.mem_of_getElem? (i := 71) (by decide +kernel))) (by decide +kernel)
theorem kw_2232 : Cond.code yX12_linkage cX12_linkage 3 (some .int) ∈ mx_tbl := mx_in (mx_t10 (List.mem_of_getElem? (i := 72) rfl)) rfl
theorem kw_2233 : Cond.methodLink RX12 445 yX12_starts ∈ mx_tbl := mx_in (mx_t10 (List.mem_of_getElem? (i := 73) (by decide +kernel))) (by decide +kernel)
theorem kw_2235 : Cond.instanceMethod yX12_starts ∈ mx_tbl := mx_in (mx_t10 (List.mem_of_getElem? (i := 75) (by decide +kernel))) (by decide +kernel)
theorem kw_2236 : Cond.code yX12_starts cX12_starts 1 none ∈ mx_tbl := mx_in (mx_t10 (List.mem_of_getElem? (i := 76) rfl)) rfl
theorem kw_2237 : Cond.methodLink RX12 368 yX12_takeInput ∈ mx_tbl := mx_in (mx_t10 (List.mem_of_getElem? (i := 77) (by decide +kernel))) (by decide +kernel)
theorem kw_2239 : Cond.instanceMethod yX12_takeInput ∈ mx_tbl := mx_in (mx_t10 (List.mem_of_getElem? (i := 79) (by decide +kernel))) (by decide +kernel)
theorem kw_2240 : Cond.code yX12_takeInput cX12_takeInput 1 none ∈ mx_tbl := mx_in (mx_t10 (List.mem_of_getElem? (i := 80) rfl)) rfl
theorem kw_2241 : Cond.methodLink RX12 371 yX12_scan ∈ mx_tbl := mx_in (mx_t10 (List.mem_of_getElem? (i := 81) (by decide +kernel))) (by decide +kernel)
theorem kw_2243 : Cond.instanceMethod yX12_scan ∈ mx_tbl := mx_in (mx_t10 (List.mem_of_getElem? (i := 83) (by decide +kernel))) (by decide +kernel)
theorem kw_2244 : Cond.code yX12_scan cX12_scan 2 none ∈ mx_tbl := mx_in (mx_t10 (List.mem_of_getElem? (i := 84) rfl)) rfl
theorem kw_2245 : Cond.methodLink RX12 333 yX12_look ∈ mx_tbl := mx_in (mx_t10 (List.mem_of_getElem? (i := 85) (by decide +kernel))) (by decide +kernel)
theorem kw_2247 : Cond.instanceMethod yX12_look ∈ mx_tbl := mx_in (mx_t10 (List.mem_of_getElem? (i := 87) (by decide +kernel))) (by decide +kernel)
theorem kw_2248 : Cond.code yX12_look cX12_look 2 (some .int) ∈ mx_tbl := mx_in (mx_t10 (List.mem_of_getElem? (i := 88) rfl)) rfl
theorem kw_2249 : Cond.methodLink RX12 343 yX12_isLetter ∈ mx_tbl := mx_in (mx_t10 (List.mem_of_getElem? (i := 89) (by decide +kernel))) (by decide +kernel)
theorem kw_2250 : Cond.static yX12_isLetter ∈ mx_tbl := mx_in (mx_t10 (List.mem_of_getElem? (i := 90) (by decide +kernel))) (by decide +kernel)
theorem kw_2251 : Cond.code yX12_isLetter cX12_isLetter 1 (some .boolean) ∈ mx_tbl := mx_in (mx_t10 (List.mem_of_getElem? (i := 91) rfl)) rfl
theorem kw_2252 : Cond.methodLink RX12 347 yX12_isDigit ∈ mx_tbl := mx_in (mx_t10 (List.mem_of_getElem? (i := 92) (by decide +kernel))) (by decide +kernel)
theorem kw_2253 : Cond.static yX12_isDigit ∈ mx_tbl := mx_in (mx_t10 (List.mem_of_getElem? (i := 93) (by decide +kernel))) (by decide +kernel)
theorem kw_2254 : Cond.code yX12_isDigit cX12_isDigit 1 (some .boolean) ∈ mx_tbl := mx_in (mx_t10 (List.mem_of_getElem? (i := 94) rfl)) rfl
theorem kw_2255 : Cond.methodLink RX12 350 yX12_number ∈ mx_tbl := mx_in (mx_t10 (List.mem_of_getElem? (i := 95) (by decide +kernel))) (by decide +kernel)
theorem kw_2257 : Cond.instanceMethod yX12_number ∈ mx_tbl := mx_in (mx_t10 (List.mem_of_getElem? (i := 97) (by decide +kernel))) (by decide +kernel)
theorem kw_2258 : Cond.code yX12_number cX12_number 6 none ∈ mx_tbl := mx_in (mx_t10 (List.mem_of_getElem? (i := 98) rfl)) rfl
theorem kw_2259 : Cond.methodLink RX12 294 yX12_gcd ∈ mx_tbl := mx_in (mx_t10 (List.mem_of_getElem? (i := 99) (by decide +kernel))) (by decide +kernel)
theorem kw_2260 : Cond.static yX12_gcd ∈ mx_tbl := mx_in (mx_t10 (List.mem_of_getElem? (i := 100) (by decide +kernel))) (by decide +kernel)
theorem kw_2261 : Cond.code yX12_gcd cX12_gcd 10 (some .long) ∈ mx_tbl := mx_in (mx_t10 (List.mem_of_getElem? (i := 101) rfl)) rfl
theorem kw_2262 : Cond.methodLink RX12 251 yX12_size ∈ mx_tbl := mx_in (mx_t10 (List.mem_of_getElem? (i := 102) (by decide +kernel))) (by decide +kernel)
theorem kw_2263 : Cond.static yX12_size ∈ mx_tbl := mx_in (mx_t10 (List.mem_of_getElem? (i := 103) (by decide +kernel))) (by decide +kernel)
theorem kw_2264 : Cond.code yX12_size cX12_size 2 (some .long) ∈ mx_tbl := mx_in (mx_t10 (List.mem_of_getElem? (i := 104) rfl)) rfl
theorem kw_2265 : Cond.methodLink RX12 448 yX12_statement ∈ mx_tbl := mx_in (mx_t10 (List.mem_of_getElem? (i := 105) (by decide +kernel))) (by decide +kernel)
theorem kw_2267 : Cond.instanceMethod yX12_statement ∈ mx_tbl := mx_in (mx_t10 (List.mem_of_getElem? (i := 107) (by decide +kernel))) (by decide +kernel)
theorem kw_2268 : Cond.code yX12_statement cX12_statement 3 none ∈ mx_tbl := mx_in (mx_t10 (List.mem_of_getElem? (i := 108) rfl)) rfl
theorem kw_2269 : Cond.methodLink RX12 414 yX12_kindOf ∈ mx_tbl := mx_in (mx_t10 (List.mem_of_getElem? (i := 109) (by decide +kernel))) (by decide +kernel)
theorem kw_2271 : Cond.instanceMethod yX12_kindOf ∈ mx_tbl := mx_in (mx_t10 (List.mem_of_getElem? (i := 111) (by decide +kernel))) (by decide +kernel)
theorem kw_2272 : Cond.code yX12_kindOf cX12_kindOf 1 (some .int) ∈ mx_tbl := mx_in (mx_t10 (List.mem_of_getElem? (i := 112) rfl)) rfl
theorem kw_2274 : Cond.methodLink RX12 386 yX12_isWord ∈ mx_tbl := mx_in (mx_t10 (List.mem_of_getElem? (i := 114) (by decide +kernel))) (by decide +kernel)
theorem kw_2276 : Cond.instanceMethod yX12_isWord ∈ mx_tbl := mx_in (mx_t10 (List.mem_of_getElem? (i := 116) (by decide +kernel))) (by decide +kernel)
theorem kw_2277 : Cond.code yX12_isWord cX12_isWord 4 (some .boolean) ∈ mx_tbl := mx_in (mx_t10 (List.mem_of_getElem? (i := 117) rfl)) rfl
theorem kw_2278 : Cond.methodLink RX12 359 yJ0_length_8abf5 ∈ mx_tbl := mx_in (mx_t10 (List.mem_of_getElem? (i := 118) (by decide +kernel))) (by decide +kernel)
theorem kw_2279 : Cond.methodLink RX12 364 yJ0_charAt_5068e ∈ mx_tbl := mx_in (mx_t10 (List.mem_of_getElem? (i := 119) (by decide +kernel))) (by decide +kernel)
theorem kw_2285 : Cond.methodLink RX12 374 yX12_wrong ∈ mx_tbl := mx_in (mx_t10 (List.mem_of_getElem? (i := 125) (by decide +kernel))) (by decide +kernel)
theorem kw_2287 : Cond.instanceMethod yX12_wrong ∈ mx_tbl := mx_in (mx_t10 (List.mem_of_getElem? (i := 127) (by decide +kernel))) (by decide +kernel)
theorem kw_2288 : Cond.code yX12_wrong cX12_wrong 3 none ∈ mx_tbl := mx_in (mx_t10 (List.mem_of_getElem? (i := 128) rfl)) rfl
theorem kw_2289 : Cond.methodLink RX12 381 yX12_takes ∈ mx_tbl := mx_in (mx_t10 (List.mem_of_getElem? (i := 129) (by decide +kernel))) (by decide +kernel)
theorem kw_2291 : Cond.instanceMethod yX12_takes ∈ mx_tbl := mx_in (mx_t10 (List.mem_of_getElem? (i := 131) (by decide +kernel))) (by decide +kernel)
theorem kw_2292 : Cond.code yX12_takes cX12_takes 2 (some .boolean) ∈ mx_tbl := mx_in (mx_t10 (List.mem_of_getElem? (i := 132) rfl)) rfl
theorem kw_2293 : Cond.methodLink RX12 417 yX12_sameWord ∈ mx_tbl := mx_in (mx_t10 (List.mem_of_getElem? (i := 133) (by decide +kernel))) (by decide +kernel)
theorem kw_2295 : Cond.instanceMethod yX12_sameWord ∈ mx_tbl := mx_in (mx_t10 (List.mem_of_getElem? (i := 135) (by decide +kernel))) (by decide +kernel)
theorem kw_2296 : Cond.code yX12_sameWord cX12_sameWord 5 (some .boolean) ∈ mx_tbl := mx_in (mx_t10 (List.mem_of_getElem? (i := 136) rfl)) rfl
theorem kw_2297 : Cond.methodLink RX12 378 yX12_found ∈ mx_tbl := mx_in (mx_t10 (List.mem_of_getElem? (i := 137) (by decide +kernel))) (by decide +kernel)
theorem kw_2299 : Cond.instanceMethod yX12_found ∈ mx_tbl := mx_in (mx_t10 (List.mem_of_getElem? (i := 139) (by decide +kernel))) (by decide +kernel)
theorem kw_2300 : Cond.code yX12_found cX12_found 3 none ∈ mx_tbl := mx_in (mx_t10 (List.mem_of_getElem? (i := 140) rfl)) rfl
theorem kw_2301 : Cond.methodLink RX12 421 yX12_parts ∈ mx_tbl := mx_in (mx_t10 (List.mem_of_getElem? (i := 141) (by decide +kernel))) (by decide +kernel)
theorem kw_2303 : Cond.instanceMethod yX12_parts ∈ mx_tbl := mx_in (mx_t10 (List.mem_of_getElem? (i := 143) (by decide +kernel))) (by decide +kernel)
theorem kw_2304 : Cond.code yX12_parts cX12_parts 2 none ∈ mx_tbl := mx_in (mx_t10 (List.mem_of_getElem? (i := 144) rfl)) rfl
theorem kw_2305 : Cond.methodLink RX12 427 yX12_nameUsed ∈ mx_tbl := mx_in (mx_t10 (List.mem_of_getElem? (i := 145) (by decide +kernel))) (by decide +kernel)
theorem kw_2307 : Cond.instanceMethod yX12_nameUsed ∈ mx_tbl := mx_in (mx_t10 (List.mem_of_getElem? (i := 147) (by decide +kernel))) (by decide +kernel)
theorem kw_2308 : Cond.code yX12_nameUsed cX12_nameUsed 2 none ∈ mx_tbl := mx_in (mx_t10 (List.mem_of_getElem? (i := 148) rfl)) rfl
theorem kw_2309 : Cond.methodLink RX12 430 yX12_numberUsed ∈ mx_tbl := mx_in (mx_t10 (List.mem_of_getElem? (i := 149) (by decide +kernel))) (by decide +kernel)
theorem kw_2311 : Cond.instanceMethod yX12_numberUsed ∈ mx_tbl := mx_in (mx_t10 (List.mem_of_getElem? (i := 151) (by decide +kernel))) (by decide +kernel)
theorem kw_2312 : Cond.code yX12_numberUsed cX12_numberUsed 4 none ∈ mx_tbl := mx_in (mx_t10 (List.mem_of_getElem? (i := 152) rfl)) rfl
theorem kw_2313 : Cond.constantLong RX12 406 (60) ∈ mx_tbl := mx_in (mx_t10 (List.mem_of_getElem? (i := 153) (by decide +kernel))) (by decide +kernel)
theorem kw_2314 : Cond.methodLink RX12 434 yX12_wholeUsed ∈ mx_tbl := mx_in (mx_t10 (List.mem_of_getElem? (i := 154) (by decide +kernel))) (by decide +kernel)
theorem kw_2316 : Cond.instanceMethod yX12_wholeUsed ∈ mx_tbl := mx_in (mx_t10 (List.mem_of_getElem? (i := 156) (by decide +kernel))) (by decide +kernel)
theorem kw_2317 : Cond.code yX12_wholeUsed cX12_wholeUsed 4 none ∈ mx_tbl := mx_in (mx_t10 (List.mem_of_getElem? (i := 157) rfl)) rfl
theorem kw_2318 : Cond.methodLink RX12 408 yX12_wholeNumber ∈ mx_tbl := mx_in (mx_t10 (List.mem_of_getElem? (i := 158) (by decide +kernel))) (by decide +kernel)
theorem kw_2320 : Cond.instanceMethod yX12_wholeNumber ∈ mx_tbl := mx_in (mx_t10 (List.mem_of_getElem? (i := 160) (by decide +kernel))) (by decide +kernel)
theorem kw_2321 : Cond.code yX12_wholeNumber cX12_wholeNumber 5 none ∈ mx_tbl := mx_in (mx_t10 (List.mem_of_getElem? (i := 161) rfl)) rfl
theorem kw_2322 : Cond.methodLink RX12 438 yX12_signUsed ∈ mx_tbl := mx_in (mx_t10 (List.mem_of_getElem? (i := 162) (by decide +kernel))) (by decide +kernel)
theorem kw_2324 : Cond.instanceMethod yX12_signUsed ∈ mx_tbl := mx_in (mx_t10 (List.mem_of_getElem? (i := 164) (by decide +kernel))) (by decide +kernel)
theorem kw_2325 : Cond.code yX12_signUsed cX12_signUsed 2 none ∈ mx_tbl := mx_in (mx_t10 (List.mem_of_getElem? (i := 165) rfl)) rfl
theorem kw_2326 : Cond.methodLink RX12 424 yX12_ends ∈ mx_tbl := mx_in (mx_t10 (List.mem_of_getElem? (i := 166) (by decide +kernel))) (by decide +kernel)
theorem kw_2328 : Cond.instanceMethod yX12_ends ∈ mx_tbl := mx_in (mx_t10 (List.mem_of_getElem? (i := 168) (by decide +kernel))) (by decide +kernel)
theorem kw_2329 : Cond.code yX12_ends cX12_ends 1 none ∈ mx_tbl := mx_in (mx_t10 (List.mem_of_getElem? (i := 169) rfl)) rfl
theorem kw_2330 : Cond.methodLink RX12 451 yX12_findNames ∈ mx_tbl := mx_in (mx_t10 (List.mem_of_getElem? (i := 170) (by decide +kernel))) (by decide +kernel)
theorem kw_2332 : Cond.instanceMethod yX12_findNames ∈ mx_tbl := mx_in (mx_t10 (List.mem_of_getElem? (i := 172) (by decide +kernel))) (by decide +kernel)
theorem kw_2333 : Cond.code yX12_findNames cX12_findNames 2 none ∈ mx_tbl := mx_in (mx_t10 (List.mem_of_getElem? (i := 173) rfl)) rfl
theorem kw_2334 : Cond.methodLink RX12 441 yX12_toldAs ∈ mx_tbl := mx_in (mx_t10 (List.mem_of_getElem? (i := 174) (by decide +kernel))) (by decide +kernel)
theorem kw_2336 : Cond.instanceMethod yX12_toldAs ∈ mx_tbl := mx_in (mx_t10 (List.mem_of_getElem? (i := 176) (by decide +kernel))) (by decide +kernel)
theorem kw_2337 : Cond.code yX12_toldAs cX12_toldAs 4 (some .int) ∈ mx_tbl := mx_in (mx_t10 (List.mem_of_getElem? (i := 177) rfl)) rfl
theorem kw_2338 : Cond.methodLink RX12 454 yX12_findOrder ∈ mx_tbl := mx_in (mx_t10 (List.mem_of_getElem? (i := 178) (by decide +kernel))) (by decide +kernel)
theorem kw_2340 : Cond.instanceMethod yX12_findOrder ∈ mx_tbl := mx_in (mx_t10 (List.mem_of_getElem? (i := 180) (by decide +kernel))) (by decide +kernel)
theorem kw_2341 : Cond.code yX12_findOrder cX12_findOrder 6 none ∈ mx_tbl := mx_in (mx_t10 (List.mem_of_getElem? (i := 181) rfl)) rfl
theorem kw_2342 : Cond.methodLink RX12 457 yX12_tossFault ∈ mx_tbl := mx_in (mx_t10 (List.mem_of_getElem? (i := 182) (by decide +kernel))) (by decide +kernel)
theorem kw_2344 : Cond.instanceMethod yX12_tossFault ∈ mx_tbl := mx_in (mx_t10 (List.mem_of_getElem? (i := 184) (by decide +kernel))) (by decide +kernel)
theorem kw_2345 : Cond.code yX12_tossFault cX12_tossFault 1 none ∈ mx_tbl := mx_in (mx_t10 (List.mem_of_getElem? (i := 185) rfl)) rfl
theorem kw_2346 : Cond.methodLink RLn 170 yX12_point ∈ mx_tbl := mx_in (mx_t10 (List.mem_of_getElem? (i := 186) (by decide +kernel))) (by decide +kernel)
theorem kw_2347 : Cond.instanceMethod yX12_point ∈ mx_tbl := mx_in (mx_t10 (List.mem_of_getElem? (i := 187) (by decide +kernel))) (by decide +kernel)
theorem kw_2348 : Cond.selects RX12 yX12_point yX12_point ∈ mx_tbl := mx_in (mx_t10 (List.mem_of_getElem? (i := 188) (by decide +kernel))) (by decide +kernel)
theorem kw_2349 : Cond.code yX12_point cX12_point 4 (some .int) ∈ mx_tbl := mx_in (mx_t10 (List.mem_of_getElem? (i := 189) rfl)) rfl
theorem kw_2350 : Cond.methodLink RLn 174 yX12_input ∈ mx_tbl := mx_in (mx_t10 (List.mem_of_getElem? (i := 190) (by decide +kernel))) (by decide +kernel)
theorem kw_2351 : Cond.instanceMethod yX12_input ∈ mx_tbl := mx_in (mx_t10 (List.mem_of_getElem? (i := 191) (by decide +kernel))) (by decide +kernel)
theorem kw_2352 : Cond.selects RX12 yX12_input yX12_input ∈ mx_tbl := mx_in (mx_t10 (List.mem_of_getElem? (i := 192) (by decide +kernel))) (by decide +kernel)
theorem kw_2353 : Cond.code yX12_input cX12_input 3 none ∈ mx_tbl := mx_in (mx_t10 (List.mem_of_getElem? (i := 193) rfl)) rfl
theorem kw_2354 : Cond.constantLong RX12 466 (3) ∈ mx_tbl := mx_in (mx_t10 (List.mem_of_getElem? (i := 194) (by decide +kernel))) (by decide +kernel)
theorem kw_2355 : Cond.constantLong RX12 468 (1023) ∈ mx_tbl := mx_in (mx_t10 (List.mem_of_getElem? (i := 195) (by decide +kernel))) (by decide +kernel)
theorem kw_2356 : Cond.methodLink RLn 178 yX12_ways ∈ mx_tbl := mx_in (mx_t10 (List.mem_of_getElem? (i := 196) (by decide +kernel))) (by decide +kernel)
theorem kw_2357 : Cond.instanceMethod yX12_ways ∈ mx_tbl := mx_in (mx_t10 (List.mem_of_getElem? (i := 197) (by decide +kernel))) (by decide +kernel)
theorem kw_2358 : Cond.selects RX12 yX12_ways yX12_ways ∈ mx_tbl := mx_in (mx_t10 (List.mem_of_getElem? (i := 198) (by decide +kernel))) (by decide +kernel)
theorem kw_2359 : Cond.code yX12_ways cX12_ways 3 (some .int) ∈ mx_tbl := mx_in (mx_t10 (List.mem_of_getElem? (i := 199) rfl)) rfl
theorem kw_2360 : Cond.methodLink RX12 556 yX12_worked ∈ mx_tbl := mx_in (mx_t10 (List.mem_of_getElem? (i := 200) (by decide +kernel))) (by decide +kernel)
theorem kw_2362 : Cond.instanceMethod yX12_worked ∈ mx_tbl := mx_in (mx_t10 (List.mem_of_getElem? (i := 202) (by decide +kernel))) (by decide +kernel)
theorem kw_2363 : Cond.code yX12_worked cX12_worked 4 (some .int) ∈ mx_tbl := mx_in (mx_t10 (List.mem_of_getElem? (i := 203) rfl)) rfl
theorem kw_2364 : Cond.methodLink RX12 550 yX12_placeOf ∈ mx_tbl := mx_in (mx_t10 (List.mem_of_getElem? (i := 204) (by decide +kernel))) (by decide +kernel)
theorem kw_2366 : Cond.instanceMethod yX12_placeOf ∈ mx_tbl := mx_in (mx_t10 (List.mem_of_getElem? (i := 206) (by decide +kernel))) (by decide +kernel)
theorem kw_2367 : Cond.code yX12_placeOf cX12_placeOf 8 none ∈ mx_tbl := mx_in (mx_t10 (List.mem_of_getElem? (i := 207) rfl)) rfl
theorem kw_2368 : Cond.methodLink RX12 470 yX12_fraction ∈ mx_tbl := mx_in (mx_t10 (List.mem_of_getElem? (i := 208) (by decide +kernel))) (by decide +kernel)
theorem kw_2370 : Cond.instanceMethod yX12_fraction ∈ mx_tbl := mx_in (mx_t10 (List.mem_of_getElem? (i := 210) (by decide +kernel))) (by decide +kernel)
theorem kw_2371 : Cond.code yX12_fraction cX12_fraction 6 none ∈ mx_tbl := mx_in (mx_t10 (List.mem_of_getElem? (i := 211) rfl)) rfl
theorem kw_2372 : Cond.constantLong RX12 320 (65536) ∈ mx_tbl := mx_in (mx_t10 (List.mem_of_getElem? (i := 212) (by decide +kernel))) (by decide +kernel)
theorem kw_2373 : Cond.methodLink RX12 247 yX12_down ∈ mx_tbl := mx_in (mx_t10 (List.mem_of_getElem? (i := 213) (by decide +kernel))) (by decide +kernel)
theorem kw_2374 : Cond.static yX12_down ∈ mx_tbl := mx_in (mx_t10 (List.mem_of_getElem? (i := 214) (by decide +kernel))) (by decide +kernel)
theorem kw_2375 : Cond.code yX12_down cX12_down 6 (some .long) ∈ mx_tbl := mx_in (mx_t10 (List.mem_of_getElem? (i := 215) rfl)) rfl
theorem kw_2376 : Cond.methodLink RX12 322 yX12_up ∈ mx_tbl := mx_in (mx_t10 (List.mem_of_getElem? (i := 216) (by decide +kernel))) (by decide +kernel)
theorem kw_2377 : Cond.static yX12_up ∈ mx_tbl := mx_in (mx_t10 (List.mem_of_getElem? (i := 217) (by decide +kernel))) (by decide +kernel)
theorem kw_2378 : Cond.code yX12_up cX12_up 4 (some .long) ∈ mx_tbl := mx_in (mx_t10 (List.mem_of_getElem? (i := 218) rfl)) rfl
theorem kw_2379 : Cond.methodLink RX12 310 yX12_box ∈ mx_tbl := mx_in (mx_t10 (List.mem_of_getElem? (i := 219) (by decide +kernel))) (by decide +kernel)
theorem kw_2381 : Cond.instanceMethod yX12_box ∈ mx_tbl := mx_in (mx_t10 (List.mem_of_getElem? (i := 221) (by decide +kernel))) (by decide +kernel)
theorem kw_2382 : Cond.code yX12_box cX12_box 7 none ∈ mx_tbl := mx_in (mx_t10 (List.mem_of_getElem? (i := 222) rfl)) rfl
theorem kw_2383 : Cond.constantLong RX12 308 (2147483648) ∈ mx_tbl := mx_in (mx_t10 (List.mem_of_getElem? (i := 223) (by decide +kernel))) (by decide +kernel)
theorem kw_2384 : Cond.methodLink RX12 506 yX12_wayOf ∈ mx_tbl := mx_in (mx_t10 (List.mem_of_getElem? (i := 224) (by decide +kernel))) (by decide +kernel)
theorem kw_2386 : Cond.instanceMethod yX12_wayOf ∈ mx_tbl := mx_in (mx_t10 (List.mem_of_getElem? (i := 226) (by decide +kernel))) (by decide +kernel)
theorem kw_2387 : Cond.code yX12_wayOf cX12_wayOf 5 none ∈ mx_tbl := mx_in (mx_t10 (List.mem_of_getElem? (i := 227) rfl)) rfl
theorem kw_2388 : Cond.methodLink RX12 491 yX12_direction ∈ mx_tbl := mx_in (mx_t10 (List.mem_of_getElem? (i := 228) (by decide +kernel))) (by decide +kernel)
theorem kw_2390 : Cond.instanceMethod yX12_direction ∈ mx_tbl := mx_in (mx_t10 (List.mem_of_getElem? (i := 230) (by decide +kernel))) (by decide +kernel)
theorem kw_2391 : Cond.code yX12_direction cX12_direction 8 none ∈ mx_tbl := mx_in (mx_t10 (List.mem_of_getElem? (i := 231) rfl)) rfl
theorem kw_2392 : Cond.constantLong RX12 474 (512) ∈ mx_tbl := mx_in (mx_t10 (List.mem_of_getElem? (i := 232) (by decide +kernel))) (by decide +kernel)
theorem kw_2393 : Cond.methodLink RX12 476 yX12_turned ∈ mx_tbl := mx_in (mx_t10 (List.mem_of_getElem? (i := 233) (by decide +kernel))) (by decide +kernel)
theorem kw_2395 : Cond.instanceMethod yX12_turned ∈ mx_tbl := mx_in (mx_t10 (List.mem_of_getElem? (i := 235) (by decide +kernel))) (by decide +kernel)
theorem kw_2396 : Cond.code yX12_turned cX12_turned 3 none ∈ mx_tbl := mx_in (mx_t10 (List.mem_of_getElem? (i := 236) rfl)) rfl
theorem kw_2397 : Cond.methodLink RX12 479 yX12_copy ∈ mx_tbl := mx_in (mx_t10 (List.mem_of_getElem? (i := 237) (by decide +kernel))) (by decide +kernel)
theorem kw_2399 : Cond.instanceMethod yX12_copy ∈ mx_tbl := mx_in (mx_t10 (List.mem_of_getElem? (i := 239) (by decide +kernel))) (by decide +kernel)
theorem kw_2400 : Cond.code yX12_copy cX12_copy 3 none ∈ mx_tbl := mx_in (mx_t11 (List.mem_of_getElem? (i := 0) rfl)) rfl
theorem kw_2401 : Cond.methodLink RX12 494 yX12_turnPair ∈ mx_tbl := mx_in (mx_t11 (List.mem_of_getElem? (i := 1) (by decide +kernel))) (by decide +kernel)
theorem kw_2403 : Cond.instanceMethod yX12_turnPair ∈ mx_tbl := mx_in (mx_t11 (List.mem_of_getElem? (i := 3) (by decide +kernel))) (by decide +kernel)
theorem kw_2404 : Cond.code yX12_turnPair cX12_turnPair 4 none ∈ mx_tbl := mx_in (mx_t11 (List.mem_of_getElem? (i := 4) rfl)) rfl
theorem kw_2405 : Cond.methodLink RX12 482 yX12_multiply ∈ mx_tbl := mx_in (mx_t11 (List.mem_of_getElem? (i := 5) (by decide +kernel))) (by decide +kernel)
theorem kw_2407 : Cond.instanceMethod yX12_multiply ∈ mx_tbl := mx_in (mx_t11 (List.mem_of_getElem? (i := 7) (by decide +kernel))) (by decide +kernel)
theorem kw_2408 : Cond.code yX12_multiply cX12_multiply 16 none ∈ mx_tbl := mx_in (mx_t11 (List.mem_of_getElem? (i := 8) rfl)) rfl
theorem kw_2409 : Cond.methodLink RX12 314 yX12_smaller ∈ mx_tbl := mx_in (mx_t11 (List.mem_of_getElem? (i := 9) (by decide +kernel))) (by decide +kernel)
theorem kw_2410 : Cond.static yX12_smaller ∈ mx_tbl := mx_in (mx_t11 (List.mem_of_getElem? (i := 10) (by decide +kernel))) (by decide +kernel)
theorem kw_2411 : Cond.code yX12_smaller cX12_smaller 4 (some .long) ∈ mx_tbl := mx_in (mx_t11 (List.mem_of_getElem? (i := 11) rfl)) rfl
theorem kw_2412 : Cond.methodLink RX12 317 yX12_most ∈ mx_tbl := mx_in (mx_t11 (List.mem_of_getElem? (i := 12) (by decide +kernel))) (by decide +kernel)
theorem kw_2413 : Cond.static yX12_most ∈ mx_tbl := mx_in (mx_t11 (List.mem_of_getElem? (i := 13) (by decide +kernel))) (by decide +kernel)
theorem kw_2414 : Cond.code yX12_most cX12_most 4 (some .long) ∈ mx_tbl := mx_in (mx_t11 (List.mem_of_getElem? (i := 14) rfl)) rfl
theorem kw_2415 : Cond.methodLink RX12 485 yX12_less ∈ mx_tbl := mx_in (mx_t11 (List.mem_of_getElem? (i := 15) (by decide +kernel))) (by decide +kernel)
theorem kw_2417 : Cond.instanceMethod yX12_less ∈ mx_tbl := mx_in (mx_t11 (List.mem_of_getElem? (i := 17) (by decide +kernel))) (by decide +kernel)
theorem kw_2418 : Cond.code yX12_less cX12_less 4 none ∈ mx_tbl := mx_in (mx_t11 (List.mem_of_getElem? (i := 18) rfl)) rfl
theorem kw_2419 : Cond.methodLink RX12 488 yX12_add ∈ mx_tbl := mx_in (mx_t11 (List.mem_of_getElem? (i := 19) (by decide +kernel))) (by decide +kernel)
theorem kw_2421 : Cond.instanceMethod yX12_add ∈ mx_tbl := mx_in (mx_t11 (List.mem_of_getElem? (i := 21) (by decide +kernel))) (by decide +kernel)
theorem kw_2422 : Cond.code yX12_add cX12_add 4 none ∈ mx_tbl := mx_in (mx_t11 (List.mem_of_getElem? (i := 22) rfl)) rfl
theorem kw_2423 : Cond.methodLink RX12 509 yX12_dyadPlace ∈ mx_tbl := mx_in (mx_t11 (List.mem_of_getElem? (i := 23) (by decide +kernel))) (by decide +kernel)
theorem kw_2425 : Cond.instanceMethod yX12_dyadPlace ∈ mx_tbl := mx_in (mx_t11 (List.mem_of_getElem? (i := 25) (by decide +kernel))) (by decide +kernel)
theorem kw_2426 : Cond.code yX12_dyadPlace cX12_dyadPlace 6 none ∈ mx_tbl := mx_in (mx_t11 (List.mem_of_getElem? (i := 26) rfl)) rfl
theorem kw_2427 : Cond.methodLink RX12 517 yX12_between ∈ mx_tbl := mx_in (mx_t11 (List.mem_of_getElem? (i := 27) (by decide +kernel))) (by decide +kernel)
theorem kw_2429 : Cond.instanceMethod yX12_between ∈ mx_tbl := mx_in (mx_t11 (List.mem_of_getElem? (i := 29) (by decide +kernel))) (by decide +kernel)
theorem kw_2430 : Cond.code yX12_between cX12_between 4 none ∈ mx_tbl := mx_in (mx_t11 (List.mem_of_getElem? (i := 30) rfl)) rfl
theorem kw_2431 : Cond.methodLink RX12 528 yX12_squares ∈ mx_tbl := mx_in (mx_t11 (List.mem_of_getElem? (i := 31) (by decide +kernel))) (by decide +kernel)
theorem kw_2433 : Cond.instanceMethod yX12_squares ∈ mx_tbl := mx_in (mx_t11 (List.mem_of_getElem? (i := 33) (by decide +kernel))) (by decide +kernel)
theorem kw_2434 : Cond.code yX12_squares cX12_squares 3 none ∈ mx_tbl := mx_in (mx_t11 (List.mem_of_getElem? (i := 34) rfl)) rfl
theorem kw_2435 : Cond.methodLink RX12 497 yX12_square ∈ mx_tbl := mx_in (mx_t11 (List.mem_of_getElem? (i := 35) (by decide +kernel))) (by decide +kernel)
theorem kw_2437 : Cond.instanceMethod yX12_square ∈ mx_tbl := mx_in (mx_t11 (List.mem_of_getElem? (i := 37) (by decide +kernel))) (by decide +kernel)
theorem kw_2438 : Cond.code yX12_square cX12_square 9 none ∈ mx_tbl := mx_in (mx_t11 (List.mem_of_getElem? (i := 38) rfl)) rfl
theorem kw_2439 : Cond.methodLink RX12 531 yX12_squared ∈ mx_tbl := mx_in (mx_t11 (List.mem_of_getElem? (i := 39) (by decide +kernel))) (by decide +kernel)
theorem kw_2441 : Cond.instanceMethod yX12_squared ∈ mx_tbl := mx_in (mx_t11 (List.mem_of_getElem? (i := 41) (by decide +kernel))) (by decide +kernel)
theorem kw_2442 : Cond.code yX12_squared cX12_squared 6 none ∈ mx_tbl := mx_in (mx_t11 (List.mem_of_getElem? (i := 42) rfl)) rfl
theorem kw_2443 : Cond.methodLink RX12 534 yX12_half ∈ mx_tbl := mx_in (mx_t11 (List.mem_of_getElem? (i := 43) (by decide +kernel))) (by decide +kernel)
theorem kw_2445 : Cond.instanceMethod yX12_half ∈ mx_tbl := mx_in (mx_t11 (List.mem_of_getElem? (i := 45) (by decide +kernel))) (by decide +kernel)
theorem kw_2446 : Cond.code yX12_half cX12_half 3 none ∈ mx_tbl := mx_in (mx_t11 (List.mem_of_getElem? (i := 46) rfl)) rfl
theorem kw_2447 : Cond.constantLong RX12 325 (2) ∈ mx_tbl := mx_in (mx_t11 (List.mem_of_getElem? (i := 47) (by decide +kernel))) (by decide +kernel)
theorem kw_2448 : Cond.methodLink RX12 525 yX12_divide ∈ mx_tbl := mx_in (mx_t11 (List.mem_of_getElem? (i := 48) (by decide +kernel))) (by decide +kernel)
theorem kw_2450 : Cond.instanceMethod yX12_divide ∈ mx_tbl := mx_in (mx_t11 (List.mem_of_getElem? (i := 50) (by decide +kernel))) (by decide +kernel)
theorem kw_2451 : Cond.code yX12_divide cX12_divide 13 none ∈ mx_tbl := mx_in (mx_t11 (List.mem_of_getElem? (i := 51) rfl)) rfl
theorem kw_2452 : Cond.methodLink RX12 537 yX12_askRoot ∈ mx_tbl := mx_in (mx_t11 (List.mem_of_getElem? (i := 52) (by decide +kernel))) (by decide +kernel)
theorem kw_2454 : Cond.instanceMethod yX12_askRoot ∈ mx_tbl := mx_in (mx_t11 (List.mem_of_getElem? (i := 54) (by decide +kernel))) (by decide +kernel)
theorem kw_2455 : Cond.code yX12_askRoot cX12_askRoot 2 none ∈ mx_tbl := mx_in (mx_t11 (List.mem_of_getElem? (i := 55) rfl)) rfl
theorem kw_2456 : Cond.methodLink RX12 540 yX12_rootOf ∈ mx_tbl := mx_in (mx_t11 (List.mem_of_getElem? (i := 56) (by decide +kernel))) (by decide +kernel)
theorem kw_2458 : Cond.instanceMethod yX12_rootOf ∈ mx_tbl := mx_in (mx_t11 (List.mem_of_getElem? (i := 58) (by decide +kernel))) (by decide +kernel)
theorem kw_2459 : Cond.code yX12_rootOf cX12_rootOf 7 none ∈ mx_tbl := mx_in (mx_t11 (List.mem_of_getElem? (i := 59) rfl)) rfl
theorem kw_2460 : Cond.methodLink RX12 327 yX12_root ∈ mx_tbl := mx_in (mx_t11 (List.mem_of_getElem? (i := 60) (by decide +kernel))) (by decide +kernel)
theorem kw_2461 : Cond.static yX12_root ∈ mx_tbl := mx_in (mx_t11 (List.mem_of_getElem? (i := 61) (by decide +kernel))) (by decide +kernel)
theorem kw_2462 : Cond.code yX12_root cX12_root 6 (some .long) ∈ mx_tbl := mx_in (mx_t11 (List.mem_of_getElem? (i := 62) rfl)) rfl
theorem kw_2463 : Cond.methodLink RX12 543 yX12_isMinus ∈ mx_tbl := mx_in (mx_t11 (List.mem_of_getElem? (i := 63) (by decide +kernel))) (by decide +kernel)
theorem kw_2465 : Cond.instanceMethod yX12_isMinus ∈ mx_tbl := mx_in (mx_t11 (List.mem_of_getElem? (i := 65) (by decide +kernel))) (by decide +kernel)
theorem kw_2466 : Cond.code yX12_isMinus cX12_isMinus 3 (some .boolean) ∈ mx_tbl := mx_in (mx_t11 (List.mem_of_getElem? (i := 66) rfl)) rfl
theorem kw_2467 : Cond.methodLink RX12 513 yX12_slidePlace ∈ mx_tbl := mx_in (mx_t11 (List.mem_of_getElem? (i := 67) (by decide +kernel))) (by decide +kernel)
theorem kw_2469 : Cond.instanceMethod yX12_slidePlace ∈ mx_tbl := mx_in (mx_t11 (List.mem_of_getElem? (i := 69) (by decide +kernel))) (by decide +kernel)
theorem kw_2470 : Cond.code yX12_slidePlace cX12_slidePlace 7 none ∈ mx_tbl := mx_in (mx_t11 (List.mem_of_getElem? (i := 70) rfl)) rfl
theorem kw_2471 : Cond.methodLink RX12 547 yX12_dot ∈ mx_tbl := mx_in (mx_t11 (List.mem_of_getElem? (i := 71) (by decide +kernel))) (by decide +kernel)
theorem kw_2473 : Cond.instanceMethod yX12_dot ∈ mx_tbl := mx_in (mx_t11 (List.mem_of_getElem? (i := 73) (by decide +kernel))) (by decide +kernel)
theorem kw_2474 : Cond.code yX12_dot cX12_dot 4 none ∈ mx_tbl := mx_in (mx_t11 (List.mem_of_getElem? (i := 74) rfl)) rfl
theorem kw_2475 : Cond.methodLink RX12 520 yX12_bodyOf ∈ mx_tbl := mx_in (mx_t11 (List.mem_of_getElem? (i := 75) (by decide +kernel))) (by decide +kernel)
theorem kw_2477 : Cond.instanceMethod yX12_bodyOf ∈ mx_tbl := mx_in (mx_t11 (List.mem_of_getElem? (i := 77) (by decide +kernel))) (by decide +kernel)
theorem kw_2478 : Cond.code yX12_bodyOf cX12_bodyOf 4 none ∈ mx_tbl := mx_in (mx_t11 (List.mem_of_getElem? (i := 78) rfl)) rfl
theorem kw_2479 : Cond.methodLink RX12 523 yX12_cross ∈ mx_tbl := mx_in (mx_t11 (List.mem_of_getElem? (i := 79) (by decide +kernel))) (by decide +kernel)
theorem kw_2481 : Cond.instanceMethod yX12_cross ∈ mx_tbl := mx_in (mx_t11 (List.mem_of_getElem? (i := 81) (by decide +kernel))) (by decide +kernel)
theorem kw_2482 : Cond.code yX12_cross cX12_cross 4 none ∈ mx_tbl := mx_in (mx_t11 (List.mem_of_getElem? (i := 82) rfl)) rfl
theorem kw_2483 : Cond.methodLink RX12 553 yX12_isOpen ∈ mx_tbl := mx_in (mx_t11 (List.mem_of_getElem? (i := 83) (by decide +kernel))) (by decide +kernel)
theorem kw_2485 : Cond.instanceMethod yX12_isOpen ∈ mx_tbl := mx_in (mx_t11 (List.mem_of_getElem? (i := 85) (by decide +kernel))) (by decide +kernel)
theorem kw_2486 : Cond.code yX12_isOpen cX12_isOpen 2 (some .boolean) ∈ mx_tbl := mx_in (mx_t11 (List.mem_of_getElem? (i := 86) rfl)) rfl
theorem kw_2487 : Cond.methodLink RLn 182 yX12_way ∈ mx_tbl := mx_in (mx_t11 (List.mem_of_getElem? (i := 87) (by decide +kernel))) (by decide +kernel)
theorem kw_2488 : Cond.instanceMethod yX12_way ∈ mx_tbl := mx_in (mx_t11 (List.mem_of_getElem? (i := 88) (by decide +kernel))) (by decide +kernel)
theorem kw_2489 : Cond.selects RX12 yX12_way yX12_way ∈ mx_tbl := mx_in (mx_t11 (List.mem_of_getElem? (i := 89) (by decide +kernel))) (by decide +kernel)
theorem kw_2490 : Cond.code yX12_way cX12_way 6 (some .int) ∈ mx_tbl := mx_in (mx_t11 (List.mem_of_getElem? (i := 90) rfl)) rfl
theorem kw_2491 : Cond.methodLink RLn 186 yX12_at ∈ mx_tbl := mx_in (mx_t11 (List.mem_of_getElem? (i := 91) (by decide +kernel))) (by decide +kernel)
theorem kw_2492 : Cond.instanceMethod yX12_at ∈ mx_tbl := mx_in (mx_t11 (List.mem_of_getElem? (i := 92) (by decide +kernel))) (by decide +kernel)
theorem kw_2493 : Cond.selects RX12 yX12_at yX12_at ∈ mx_tbl := mx_in (mx_t11 (List.mem_of_getElem? (i := 93) (by decide +kernel))) (by decide +kernel)
theorem kw_2494 : Cond.code yX12_at cX12_at 6 (some .long) ∈ mx_tbl := mx_in (mx_t11 (List.mem_of_getElem? (i := 94) rfl)) rfl
theorem kw_2495 : Cond.constantLong RX12 559 (255) ∈ mx_tbl := mx_in (mx_t11 (List.mem_of_getElem? (i := 95) (by decide +kernel))) (by decide +kernel)
theorem kw_2496 : Cond.methodLink RX12 561 yX12_isPoint ∈ mx_tbl := mx_in (mx_t11 (List.mem_of_getElem? (i := 96) (by decide +kernel))) (by decide +kernel)
theorem kw_2498 : Cond.instanceMethod yX12_isPoint ∈ mx_tbl := mx_in (mx_t11 (List.mem_of_getElem? (i := 98) (by decide +kernel))) (by decide +kernel)
theorem kw_2499 : Cond.code yX12_isPoint cX12_isPoint 2 (some .boolean) ∈ mx_tbl := mx_in (mx_t11 (List.mem_of_getElem? (i := 99) rfl)) rfl
theorem kw_2500 : Cond.methodLink RX12 564 yX12_sideOf ∈ mx_tbl := mx_in (mx_t11 (List.mem_of_getElem? (i := 100) (by decide +kernel))) (by decide +kernel)
theorem kw_2502 : Cond.instanceMethod yX12_sideOf ∈ mx_tbl := mx_in (mx_t11 (List.mem_of_getElem? (i := 102) (by decide +kernel))) (by decide +kernel)
theorem kw_2503 : Cond.code yX12_sideOf cX12_sideOf 3 (some .long) ∈ mx_tbl := mx_in (mx_t11 (List.mem_of_getElem? (i := 103) rfl)) rfl
theorem kw_2504 : Cond.methodLink RLn 190 yX12_step ∈ mx_tbl := mx_in (mx_t11 (List.mem_of_getElem? (i := 104) (by decide +kernel))) (by decide +kernel)
theorem kw_2505 : Cond.instanceMethod yX12_step ∈ mx_tbl := mx_in (mx_t11 (List.mem_of_getElem? (i := 105) (by decide +kernel))) (by decide +kernel)
theorem kw_2506 : Cond.selects RX12 yX12_step yX12_step ∈ mx_tbl := mx_in (mx_t11 (List.mem_of_getElem? (i := 106) (by decide +kernel))) (by decide +kernel)
theorem kw_2507 : Cond.code yX12_step cX12_step 7 (some .int) ∈ mx_tbl := mx_in (mx_t11 (List.mem_of_getElem? (i := 107) rfl)) rfl
theorem kw_2508 : Cond.methodLink RX12 568 yX12_isWay ∈ mx_tbl := mx_in (mx_t11 (List.mem_of_getElem? (i := 108) (by decide +kernel))) (by decide +kernel)
theorem kw_2510 : Cond.instanceMethod yX12_isWay ∈ mx_tbl := mx_in (mx_t11 (List.mem_of_getElem? (i := 110) (by decide +kernel))) (by decide +kernel)
theorem kw_2511 : Cond.code yX12_isWay cX12_isWay 3 (some .boolean) ∈ mx_tbl := mx_in (mx_t11 (List.mem_of_getElem? (i := 111) rfl)) rfl
theorem kw_2512 : Cond.constantLong RX12 571 (-1023) ∈ mx_tbl := mx_in (mx_t11 (List.mem_of_getElem? (i := 112) (by decide +kernel))) (by decide +kernel)
theorem kw_2513 : Cond.methodLink RLn 193 yX12_range ∈ mx_tbl := mx_in (mx_t11 (List.mem_of_getElem? (i := 113) (by decide +kernel))) (by decide +kernel)
theorem kw_2514 : Cond.instanceMethod yX12_range ∈ mx_tbl := mx_in (mx_t11 (List.mem_of_getElem? (i := 114) (by decide +kernel))) (by decide +kernel)
theorem kw_2515 : Cond.selects RX12 yX12_range yX12_range ∈ mx_tbl := mx_in (mx_t11 (List.mem_of_getElem? (i := 115) (by decide +kernel))) (by decide +kernel)
theorem kw_2516 : Cond.code yX12_range cX12_range 8 (some .int) ∈ mx_tbl := mx_in (mx_t11 (List.mem_of_getElem? (i := 116) rfl)) rfl
theorem kw_2517 : Cond.methodLink RX12 573 yX12_sweep ∈ mx_tbl := mx_in (mx_t11 (List.mem_of_getElem? (i := 117) (by decide +kernel))) (by decide +kernel)
theorem kw_2519 : Cond.instanceMethod yX12_sweep ∈ mx_tbl := mx_in (mx_t11 (List.mem_of_getElem? (i := 119) (by decide +kernel))) (by decide +kernel)
theorem kw_2520 : Cond.code yX12_sweep cX12_sweep 6 (some .int) ∈ mx_tbl := mx_in (mx_t11 (List.mem_of_getElem? (i := 120) rfl)) rfl
theorem kw_2521 : Cond.methodLink RLn 196 yX12_spread ∈ mx_tbl := mx_in (mx_t11 (List.mem_of_getElem? (i := 121) (by decide +kernel))) (by decide +kernel)
theorem kw_2522 : Cond.instanceMethod yX12_spread ∈ mx_tbl := mx_in (mx_t11 (List.mem_of_getElem? (i := 122) (by decide +kernel))) (by decide +kernel)
theorem kw_2523 : Cond.selects RX12 yX12_spread yX12_spread ∈ mx_tbl := mx_in (mx_t11 (List.mem_of_getElem? (i := 123) (by decide +kernel))) (by decide +kernel)
theorem kw_2524 : Cond.code yX12_spread cX12_spread 13 (some .long) ∈ mx_tbl := mx_in (mx_t11 (List.mem_of_getElem? (i := 124) rfl)) rfl
theorem kw_2525 : Cond.methodLink RLn 199 yX12_least ∈ mx_tbl := mx_in (mx_t11 (List.mem_of_getElem? (i := 125) (by decide +kernel))) (by decide +kernel)
theorem kw_2526 : Cond.instanceMethod yX12_least ∈ mx_tbl := mx_in (mx_t11 (List.mem_of_getElem? (i := 126) (by decide +kernel))) (by decide +kernel)
theorem kw_2527 : Cond.selects RX12 yX12_least yX12_least ∈ mx_tbl := mx_in (mx_t11 (List.mem_of_getElem? (i := 127) (by decide +kernel))) (by decide +kernel)
theorem kw_2528 : Cond.code yX12_least cX12_least 13 (some .long) ∈ mx_tbl := mx_in (mx_t11 (List.mem_of_getElem? (i := 128) rfl)) rfl
theorem kw_2529 : Cond.methodLink RLn 202 yX12_speed ∈ mx_tbl := mx_in (mx_t11 (List.mem_of_getElem? (i := 129) (by decide +kernel))) (by decide +kernel)
theorem kw_2530 : Cond.instanceMethod yX12_speed ∈ mx_tbl := mx_in (mx_t11 (List.mem_of_getElem? (i := 130) (by decide +kernel))) (by decide +kernel)
theorem kw_2531 : Cond.selects RX12 yX12_speed yX12_speed ∈ mx_tbl := mx_in (mx_t11 (List.mem_of_getElem? (i := 131) (by decide +kernel))) (by decide +kernel)
theorem kw_2532 : Cond.code yX12_speed cX12_speed 6 (some .long) ∈ mx_tbl := mx_in (mx_t11 (List.mem_of_getElem? (i := 132) rfl)) rfl
theorem kw_2533 : Cond.methodLink RX12 595 yX12_speeds ∈ mx_tbl := mx_in (mx_t11 (List.mem_of_getElem? (i := 133) (by decide +kernel))) (by decide +kernel)
theorem kw_2535 : Cond.instanceMethod yX12_speeds ∈ mx_tbl := mx_in (mx_t11 (List.mem_of_getElem? (i := 135) (by decide +kernel))) (by decide +kernel)
theorem kw_2536 : Cond.code yX12_speeds cX12_speeds 3 none ∈ mx_tbl := mx_in (mx_t11 (List.mem_of_getElem? (i := 136) rfl)) rfl
theorem kw_2537 : Cond.methodLink RX12 592 yX12_speedOf ∈ mx_tbl := mx_in (mx_t11 (List.mem_of_getElem? (i := 137) (by decide +kernel))) (by decide +kernel)
theorem kw_2539 : Cond.instanceMethod yX12_speedOf ∈ mx_tbl := mx_in (mx_t11 (List.mem_of_getElem? (i := 139) (by decide +kernel))) (by decide +kernel)
theorem kw_2540 : Cond.code yX12_speedOf cX12_speedOf 8 none ∈ mx_tbl := mx_in (mx_t11 (List.mem_of_getElem? (i := 140) rfl)) rfl
theorem kw_2541 : Cond.methodLink RX12 576 yX12_solve ∈ mx_tbl := mx_in (mx_t11 (List.mem_of_getElem? (i := 141) (by decide +kernel))) (by decide +kernel)
theorem kw_2543 : Cond.instanceMethod yX12_solve ∈ mx_tbl := mx_in (mx_t11 (List.mem_of_getElem? (i := 143) (by decide +kernel))) (by decide +kernel)
theorem kw_2544 : Cond.code yX12_solve cX12_solve 6 none ∈ mx_tbl := mx_in (mx_t11 (List.mem_of_getElem? (i := 144) rfl)) rfl
theorem kw_2545 : Cond.methodLink RX12 579 yX12_slideSpeed ∈ mx_tbl := mx_in (mx_t11 (List.mem_of_getElem? (i := 145) (by decide +kernel))) (by decide +kernel)
theorem kw_2547 : Cond.instanceMethod yX12_slideSpeed ∈ mx_tbl := mx_in (mx_t11 (List.mem_of_getElem? (i := 147) (by decide +kernel))) (by decide +kernel)
theorem kw_2548 : Cond.code yX12_slideSpeed cX12_slideSpeed 6 none ∈ mx_tbl := mx_in (mx_t11 (List.mem_of_getElem? (i := 148) rfl)) rfl
theorem kw_2549 : Cond.methodLink RX12 586 yX12_speedBetween ∈ mx_tbl := mx_in (mx_t11 (List.mem_of_getElem? (i := 149) (by decide +kernel))) (by decide +kernel)
theorem kw_2551 : Cond.instanceMethod yX12_speedBetween ∈ mx_tbl := mx_in (mx_t11 (List.mem_of_getElem? (i := 151) (by decide +kernel))) (by decide +kernel)
theorem kw_2552 : Cond.code yX12_speedBetween cX12_speedBetween 4 none ∈ mx_tbl := mx_in (mx_t11 (List.mem_of_getElem? (i := 152) rfl)) rfl
theorem kw_2553 : Cond.methodLink RX12 589 yX12_lineSpeed ∈ mx_tbl := mx_in (mx_t11 (List.mem_of_getElem? (i := 153) (by decide +kernel))) (by decide +kernel)
theorem kw_2555 : Cond.instanceMethod yX12_lineSpeed ∈ mx_tbl := mx_in (mx_t11 (List.mem_of_getElem? (i := 155) (by decide +kernel))) (by decide +kernel)
theorem kw_2556 : Cond.code yX12_lineSpeed cX12_lineSpeed 6 none ∈ mx_tbl := mx_in (mx_t11 (List.mem_of_getElem? (i := 156) rfl)) rfl
theorem kw_2557 : Cond.methodLink RX12 582 yX12_crossSpeed ∈ mx_tbl := mx_in (mx_t11 (List.mem_of_getElem? (i := 157) (by decide +kernel))) (by decide +kernel)
theorem kw_2559 : Cond.instanceMethod yX12_crossSpeed ∈ mx_tbl := mx_in (mx_t11 (List.mem_of_getElem? (i := 159) (by decide +kernel))) (by decide +kernel)
theorem kw_2560 : Cond.code yX12_crossSpeed cX12_crossSpeed 7 none ∈ mx_tbl := mx_in (mx_t11 (List.mem_of_getElem? (i := 160) rfl)) rfl
theorem kw_2561 : Cond.methodLink RX12 598 yX12_isSpeedOpen ∈ mx_tbl := mx_in (mx_t11 (List.mem_of_getElem? (i := 161) (by decide +kernel))) (by decide +kernel)
theorem kw_2563 : Cond.instanceMethod yX12_isSpeedOpen ∈ mx_tbl := mx_in (mx_t11 (List.mem_of_getElem? (i := 163) (by decide +kernel))) (by decide +kernel)
theorem kw_2564 : Cond.code yX12_isSpeedOpen cX12_isSpeedOpen 2 (some .boolean) ∈ mx_tbl := mx_in (mx_t11 (List.mem_of_getElem? (i := 164) rfl)) rfl
theorem kw_2565 : Cond.methodLink RLn 206 yX12_pole ∈ mx_tbl := mx_in (mx_t11 (List.mem_of_getElem? (i := 165) (by decide +kernel))) (by decide +kernel)
