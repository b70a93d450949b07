def am_nar : List Cond := flatC (Cond.and given_1 narrow_1)
theorem z_298 : (Jvm.Cond.exactly (Jvm.Term.string "SlotMat" (100 : Nat)) "java/lang/String") ∈ am_nar := List.mem_of_getElem? (i := 300) (by decide +kernel)
theorem z_299 : (Jvm.Cond.eq (Jvm.Term.field (Jvm.Term.string "SlotMat" (100 : Nat)) "java/lang/String" "coder" "B") (Jvm.Term.int (0 : Int32))) ∈ am_nar := List.mem_of_getElem? (i := 301) (by decide +kernel)
theorem z_300 : (Jvm.Cond.arrayOf (Jvm.Term.field (Jvm.Term.string "SlotMat" (100 : Nat)) "java/lang/String" "value" "[B") Jvm.ClassFile.FieldType.byte) ∈ am_nar := List.mem_of_getElem? (i := 302) (by decide +kernel)
theorem z_301 : (Jvm.Cond.eq (Jvm.Term.length (Jvm.Term.field (Jvm.Term.string "SlotMat" (100 : Nat)) "java/lang/String" "value" "[B")) (Jvm.Term.int (30 : Int32))) ∈ am_nar := List.mem_of_getElem? (i := 303) (by decide +kernel)
theorem z_302 : (Jvm.Cond.eq (Jvm.Term.elem (Jvm.Term.field (Jvm.Term.string "SlotMat" (100 : Nat)) "java/lang/String" "value" "[B") (Jvm.Term.int (0 : Int32))) (Jvm.Term.int (116 : Int32))) ∈ am_nar := List.mem_of_getElem? (i := 304) (by decide +kernel)
theorem z_303 : (Jvm.Cond.eq (Jvm.Term.elem (Jvm.Term.field (Jvm.Term.string "SlotMat" (100 : Nat)) "java/lang/String" "value" "[B") (Jvm.Term.int (1 : Int32))) (Jvm.Term.int (104 : Int32))) ∈ am_nar := List.mem_of_getElem? (i := 305) (by decide +kernel)
theorem z_304 : (Jvm.Cond.eq (Jvm.Term.elem (Jvm.Term.field (Jvm.Term.string "SlotMat" (100 : Nat)) "java/lang/String" "value" "[B") (Jvm.Term.int (2 : Int32))) (Jvm.Term.int (101 : Int32))) ∈ am_nar := List.mem_of_getElem? (i := 306) (by decide +kernel)
theorem z_305 : (Jvm.Cond.eq (Jvm.Term.elem (Jvm.Term.field (Jvm.Term.string "SlotMat" (100 : Nat)) "java/lang/String" "value" "[B") (Jvm.Term.int (3 : Int32))) (Jvm.Term.int (32 : Int32))) ∈ am_nar := List.mem_of_getElem? (i := 307) (by decide +kernel)
theorem z_306 : (Jvm.Cond.eq (Jvm.Term.elem (Jvm.Term.field (Jvm.Term.string "SlotMat" (100 : Nat)) "java/lang/String" "value" "[B") (Jvm.Term.int (4 : Int32))) (Jvm.Term.int (116 : Int32))) ∈ am_nar := List.mem_of_getElem? (i := 308) (by decide +kernel)
theorem z_307 : (Jvm.Cond.eq (Jvm.Term.elem (Jvm.Term.field (Jvm.Term.string "SlotMat" (100 : Nat)) "java/lang/String" "value" "[B") (Jvm.Term.int (5 : Int32))) (Jvm.Term.int (97 : Int32))) ∈ am_nar := List.mem_of_getElem? (i := 309) (by decide +kernel)
theorem z_308 : (Jvm.Cond.eq (Jvm.Term.elem (Jvm.Term.field (Jvm.Term.string "SlotMat" (100 : Nat)) "java/lang/String" "value" "[B") (Jvm.Term.int (6 : Int32))) (Jvm.Term.int (112 : Int32))) ∈ am_nar := List.mem_of_getElem? (i := 310) (by decide +kernel)
theorem z_309 : (Jvm.Cond.eq (Jvm.Term.elem (Jvm.Term.field (Jvm.Term.string "SlotMat" (100 : Nat)) "java/lang/String" "value" "[B") (Jvm.Term.int (7 : Int32))) (Jvm.Term.int (101 : Int32))) ∈ am_nar := List.mem_of_getElem? (i := 311) (by decide +kernel)
theorem z_310 : (Jvm.Cond.eq (Jvm.Term.elem (Jvm.Term.field (Jvm.Term.string "SlotMat" (100 : Nat)) "java/lang/String" "value" "[B") (Jvm.Term.int (8 : Int32))) (Jvm.Term.int (32 : Int32))) ∈ am_nar := List.mem_of_getElem? (i := 312) (by decide +kernel)
theorem z_311 : (Jvm.Cond.eq (Jvm.Term.elem (Jvm.Term.field (Jvm.Term.string "SlotMat" (100 : Nat)) "java/lang/String" "value" "[B") (Jvm.Term.int (9 : Int32))) (Jvm.Term.int (104 : Int32))) ∈ am_nar := List.mem_of_getElem? (i := 313) (by decide +kernel)
theorem z_312 : (Jvm.Cond.eq (Jvm.Term.elem (Jvm.Term.field (Jvm.Term.string "SlotMat" (100 : Nat)) "java/lang/String" "value" "[B") (Jvm.Term.int (10 : Int32))) (Jvm.Term.int (97 : Int32))) ∈ am_nar := List.mem_of_getElem? (i := 314) (by decide +kernel)
theorem z_313 : (Jvm.Cond.eq (Jvm.Term.elem (Jvm.Term.field (Jvm.Term.string "SlotMat" (100 : Nat)) "java/lang/String" "value" "[B") (Jvm.Term.int (11 : Int32))) (Jvm.Term.int (115 : Int32))) ∈ am_nar := List.mem_of_getElem? (i := 315) (by decide +kernel)
theorem z_314 : (Jvm.Cond.eq (Jvm.Term.elem (Jvm.Term.field (Jvm.Term.string "SlotMat" (100 : Nat)) "java/lang/String" "value" "[B") (Jvm.Term.int (12 : Int32))) (Jvm.Term.int (32 : Int32))) ∈ am_nar := List.mem_of_getElem? (i := 316) (by decide +kernel)
theorem z_315 : (Jvm.Cond.eq (Jvm.Term.elem (Jvm.Term.field (Jvm.Term.string "SlotMat" (100 : Nat)) "java/lang/String" "value" "[B") (Jvm.Term.int (13 : Int32))) (Jvm.Term.int (110 : Int32))) ∈ am_nar := List.mem_of_getElem? (i := 317) (by decide +kernel)
theorem z_316 : (Jvm.Cond.eq (Jvm.Term.elem (Jvm.Term.field (Jvm.Term.string "SlotMat" (100 : Nat)) "java/lang/String" "value" "[B") (Jvm.Term.int (14 : Int32))) (Jvm.Term.int (111 : Int32))) ∈ am_nar := List.mem_of_getElem? (i := 318) (by decide +kernel)
theorem z_317 : (Jvm.Cond.eq (Jvm.Term.elem (Jvm.Term.field (Jvm.Term.string "SlotMat" (100 : Nat)) "java/lang/String" "value" "[B") (Jvm.Term.int (15 : Int32))) (Jvm.Term.int (116 : Int32))) ∈ am_nar := List.mem_of_getElem? (i := 319) (by decide +kernel)
theorem z_318 : (Jvm.Cond.eq (Jvm.Term.elem (Jvm.Term.field (Jvm.Term.string "SlotMat" (100 : Nat)) "java/lang/String" "value" "[B") (Jvm.Term.int (16 : Int32))) (Jvm.Term.int (32 : Int32))) ∈ am_nar := List.mem_of_getElem? (i := 320) (by decide +kernel)
theorem z_319 : (Jvm.Cond.eq (Jvm.Term.elem (Jvm.Term.field (Jvm.Term.string "SlotMat" (100 : Nat)) "java/lang/String" "value" "[B") (Jvm.Term.int (17 : Int32))) (Jvm.Term.int (115 : Int32))) ∈ am_nar := List.mem_of_getElem? (i := 321) (by decide +kernel)
theorem z_320 : (Jvm.Cond.eq (Jvm.Term.elem (Jvm.Term.field (Jvm.Term.string "SlotMat" (100 : Nat)) "java/lang/String" "value" "[B") (Jvm.Term.int (18 : Int32))) (Jvm.Term.int (111 : Int32))) ∈ am_nar := List.mem_of_getElem? (i := 322) (by decide +kernel)
theorem z_321 : (Jvm.Cond.eq (Jvm.Term.elem (Jvm.Term.field (Jvm.Term.string "SlotMat" (100 : Nat)) "java/lang/String" "value" "[B") (Jvm.Term.int (19 : Int32))) (Jvm.Term.int (32 : Int32))) ∈ am_nar := List.mem_of_getElem? (i := 323) (by decide +kernel)
theorem z_322 : (Jvm.Cond.eq (Jvm.Term.elem (Jvm.Term.field (Jvm.Term.string "SlotMat" (100 : Nat)) "java/lang/String" "value" "[B") (Jvm.Term.int (20 : Int32))) (Jvm.Term.int (109 : Int32))) ∈ am_nar := List.mem_of_getElem? (i := 324) (by decide +kernel)
theorem z_323 : (Jvm.Cond.eq (Jvm.Term.elem (Jvm.Term.field (Jvm.Term.string "SlotMat" (100 : Nat)) "java/lang/String" "value" "[B") (Jvm.Term.int (21 : Int32))) (Jvm.Term.int (97 : Int32))) ∈ am_nar := List.mem_of_getElem? (i := 325) (by decide +kernel)
theorem z_324 : (Jvm.Cond.eq (Jvm.Term.elem (Jvm.Term.field (Jvm.Term.string "SlotMat" (100 : Nat)) "java/lang/String" "value" "[B") (Jvm.Term.int (22 : Int32))) (Jvm.Term.int (110 : Int32))) ∈ am_nar := List.mem_of_getElem? (i := 326) (by decide +kernel)
theorem z_325 : (Jvm.Cond.eq (Jvm.Term.elem (Jvm.Term.field (Jvm.Term.string "SlotMat" (100 : Nat)) "java/lang/String" "value" "[B") (Jvm.Term.int (23 : Int32))) (Jvm.Term.int (121 : Int32))) ∈ am_nar := List.mem_of_getElem? (i := 327) (by decide +kernel)
theorem z_326 : (Jvm.Cond.eq (Jvm.Term.elem (Jvm.Term.field (Jvm.Term.string "SlotMat" (100 : Nat)) "java/lang/String" "value" "[B") (Jvm.Term.int (24 : Int32))) (Jvm.Term.int (32 : Int32))) ∈ am_nar := List.mem_of_getElem? (i := 328) (by decide +kernel)
theorem z_327 : (Jvm.Cond.eq (Jvm.Term.elem (Jvm.Term.field (Jvm.Term.string "SlotMat" (100 : Nat)) "java/lang/String" "value" "[B") (Jvm.Term.int (25 : Int32))) (Jvm.Term.int (98 : Int32))) ∈ am_nar := List.mem_of_getElem? (i := 329) (by decide +kernel)
theorem z_328 : (Jvm.Cond.eq (Jvm.Term.elem (Jvm.Term.field (Jvm.Term.string "SlotMat" (100 : Nat)) "java/lang/String" "value" "[B") (Jvm.Term.int (26 : Int32))) (Jvm.Term.int (121 : Int32))) ∈ am_nar := List.mem_of_getElem? (i := 330) (by decide +kernel)
theorem z_329 : (Jvm.Cond.eq (Jvm.Term.elem (Jvm.Term.field (Jvm.Term.string "SlotMat" (100 : Nat)) "java/lang/String" "value" "[B") (Jvm.Term.int (27 : Int32))) (Jvm.Term.int (116 : Int32))) ∈ am_nar := List.mem_of_getElem? (i := 331) (by decide +kernel)
theorem z_330 : (Jvm.Cond.eq (Jvm.Term.elem (Jvm.Term.field (Jvm.Term.string "SlotMat" (100 : Nat)) "java/lang/String" "value" "[B") (Jvm.Term.int (28 : Int32))) (Jvm.Term.int (101 : Int32))) ∈ am_nar := List.mem_of_getElem? (i := 332) (by decide +kernel)
theorem z_331 : (Jvm.Cond.eq (Jvm.Term.elem (Jvm.Term.field (Jvm.Term.string "SlotMat" (100 : Nat)) "java/lang/String" "value" "[B") (Jvm.Term.int (29 : Int32))) (Jvm.Term.int (115 : Int32))) ∈ am_nar := List.mem_of_getElem? (i := 333) (by decide +kernel)
theorem z_332 : (Jvm.Cond.exactly (Jvm.Term.string "SlotMat$CityReader" (55 : Nat)) "java/lang/String") ∈ am_nar := List.mem_of_getElem? (i := 334) (by decide +kernel)
theorem z_333 : (Jvm.Cond.eq (Jvm.Term.field (Jvm.Term.string "SlotMat$CityReader" (55 : Nat)) "java/lang/String" "coder" "B") (Jvm.Term.int (0 : Int32))) ∈ am_nar := List.mem_of_getElem? (i := 335) (by decide +kernel)
theorem z_334 : (Jvm.Cond.arrayOf (Jvm.Term.field (Jvm.Term.string "SlotMat$CityReader" (55 : Nat)) "java/lang/String" "value" "[B") Jvm.ClassFile.FieldType.byte) ∈ am_nar := List.mem_of_getElem? (i := 336) (by decide +kernel)
theorem z_335 : (Jvm.Cond.eq (Jvm.Term.length (Jvm.Term.field (Jvm.Term.string "SlotMat$CityReader" (55 : Nat)) "java/lang/String" "value" "[B")) (Jvm.Term.int (3 : Int32))) ∈ am_nar := List.mem_of_getElem? (i := 337) (by decide +kernel)
theorem z_336 : (Jvm.Cond.eq (Jvm.Term.elem (Jvm.Term.field (Jvm.Term.string "SlotMat$CityReader" (55 : Nat)) "java/lang/String" "value" "[B") (Jvm.Term.int (0 : Int32))) (Jvm.Term.int (98 : Int32))) ∈ am_nar := List.mem_of_getElem? (i := 338) (by decide +kernel)
theorem z_337 : (Jvm.Cond.eq (Jvm.Term.elem (Jvm.Term.field (Jvm.Term.string "SlotMat$CityReader" (55 : Nat)) "java/lang/String" "value" "[B") (Jvm.Term.int (1 : Int32))) (Jvm.Term.int (111 : Int32))) ∈ am_nar := List.mem_of_getElem? (i := 339) (by decide +kernel)
theorem z_338 : (Jvm.Cond.eq (Jvm.Term.elem (Jvm.Term.field (Jvm.Term.string "SlotMat$CityReader" (55 : Nat)) "java/lang/String" "value" "[B") (Jvm.Term.int (2 : Int32))) (Jvm.Term.int (120 : Int32))) ∈ am_nar := List.mem_of_getElem? (i := 340) (by decide +kernel)
theorem z_339 : (Jvm.Cond.exactly (Jvm.Term.string "SlotMat$CityReader" (64 : Nat)) "java/lang/String") ∈ am_nar := List.mem_of_getElem? (i := 341) (by decide +kernel)
theorem z_340 : (Jvm.Cond.eq (Jvm.Term.field (Jvm.Term.string "SlotMat$CityReader" (64 : Nat)) "java/lang/String" "coder" "B") (Jvm.Term.int (0 : Int32))) ∈ am_nar := List.mem_of_getElem? (i := 342) (by decide +kernel)
theorem z_341 : (Jvm.Cond.arrayOf (Jvm.Term.field (Jvm.Term.string "SlotMat$CityReader" (64 : Nat)) "java/lang/String" "value" "[B") Jvm.ClassFile.FieldType.byte) ∈ am_nar := List.mem_of_getElem? (i := 343) (by decide +kernel)
theorem z_342 : (Jvm.Cond.eq (Jvm.Term.length (Jvm.Term.field (Jvm.Term.string "SlotMat$CityReader" (64 : Nat)) "java/lang/String" "value" "[B")) (Jvm.Term.int (6 : Int32))) ∈ am_nar := List.mem_of_getElem? (i := 344) (by decide +kernel)
theorem z_343 : (Jvm.Cond.eq (Jvm.Term.elem (Jvm.Term.field (Jvm.Term.string "SlotMat$CityReader" (64 : Nat)) "java/lang/String" "value" "[B") (Jvm.Term.int (0 : Int32))) (Jvm.Term.int (112 : Int32))) ∈ am_nar := List.mem_of_getElem? (i := 345) (by decide +kernel)
theorem z_344 : (Jvm.Cond.eq (Jvm.Term.elem (Jvm.Term.field (Jvm.Term.string "SlotMat$CityReader" (64 : Nat)) "java/lang/String" "value" "[B") (Jvm.Term.int (1 : Int32))) (Jvm.Term.int (101 : Int32))) ∈ am_nar := List.mem_of_getElem? (i := 346) (by decide +kernel)
theorem z_345 : (Jvm.Cond.eq (Jvm.Term.elem (Jvm.Term.field (Jvm.Term.string "SlotMat$CityReader" (64 : Nat)) "java/lang/String" "value" "[B") (Jvm.Term.int (2 : Int32))) (Jvm.Term.int (114 : Int32))) ∈ am_nar := List.mem_of_getElem? (i := 347) (by decide +kernel)
theorem z_346 : (Jvm.Cond.eq (Jvm.Term.elem (Jvm.Term.field (Jvm.Term.string "SlotMat$CityReader" (64 : Nat)) "java/lang/String" "value" "[B") (Jvm.Term.int (3 : Int32))) (Jvm.Term.int (115 : Int32))) ∈ am_nar := List.mem_of_getElem? (i := 348) (by decide +kernel)
theorem z_347 : (Jvm.Cond.eq (Jvm.Term.elem (Jvm.Term.field (Jvm.Term.string "SlotMat$CityReader" (64 : Nat)) "java/lang/String" "value" "[B") (Jvm.Term.int (4 : Int32))) (Jvm.Term.int (111 : Int32))) ∈ am_nar := List.mem_of_getElem? (i := 349) (by decide +kernel)
theorem z_348 : (Jvm.Cond.eq (Jvm.Term.elem (Jvm.Term.field (Jvm.Term.string "SlotMat$CityReader" (64 : Nat)) "java/lang/String" "value" "[B") (Jvm.Term.int (5 : Int32))) (Jvm.Term.int (110 : Int32))) ∈ am_nar := List.mem_of_getElem? (i := 350) (by decide +kernel)
theorem z_349 : (Jvm.Cond.exactly (Jvm.Term.string "SlotMat$CityReader" (116 : Nat)) "java/lang/String") ∈ am_nar := List.mem_of_getElem? (i := 351) (by decide +kernel)
theorem z_350 : (Jvm.Cond.eq (Jvm.Term.field (Jvm.Term.string "SlotMat$CityReader" (116 : Nat)) "java/lang/String" "coder" "B") (Jvm.Term.int (0 : Int32))) ∈ am_nar := List.mem_of_getElem? (i := 352) (by decide +kernel)
theorem z_351 : (Jvm.Cond.arrayOf (Jvm.Term.field (Jvm.Term.string "SlotMat$CityReader" (116 : Nat)) "java/lang/String" "value" "[B") Jvm.ClassFile.FieldType.byte) ∈ am_nar := List.mem_of_getElem? (i := 353) (by decide +kernel)
theorem z_352 : (Jvm.Cond.eq (Jvm.Term.length (Jvm.Term.field (Jvm.Term.string "SlotMat$CityReader" (116 : Nat)) "java/lang/String" "value" "[B")) (Jvm.Term.int (2 : Int32))) ∈ am_nar := List.mem_of_getElem? (i := 354) (by decide +kernel)
theorem z_353 : (Jvm.Cond.eq (Jvm.Term.elem (Jvm.Term.field (Jvm.Term.string "SlotMat$CityReader" (116 : Nat)) "java/lang/String" "value" "[B") (Jvm.Term.int (0 : Int32))) (Jvm.Term.int (97 : Int32))) ∈ am_nar := List.mem_of_getElem? (i := 355) (by decide +kernel)
theorem z_354 : (Jvm.Cond.eq (Jvm.Term.elem (Jvm.Term.field (Jvm.Term.string "SlotMat$CityReader" (116 : Nat)) "java/lang/String" "value" "[B") (Jvm.Term.int (1 : Int32))) (Jvm.Term.int (116 : Int32))) ∈ am_nar := List.mem_of_getElem? (i := 356) (by decide +kernel)
theorem z_355 : (Jvm.Cond.exactly (Jvm.Term.string "SlotMat$CityReader" (69 : Nat)) "java/lang/String") ∈ am_nar := List.mem_of_getElem? (i := 357) (by decide +kernel)
theorem z_356 : (Jvm.Cond.eq (Jvm.Term.field (Jvm.Term.string "SlotMat$CityReader" (69 : Nat)) "java/lang/String" "coder" "B") (Jvm.Term.int (0 : Int32))) ∈ am_nar := List.mem_of_getElem? (i := 358) (by decide +kernel)
theorem z_357 : (Jvm.Cond.arrayOf (Jvm.Term.field (Jvm.Term.string "SlotMat$CityReader" (69 : Nat)) "java/lang/String" "value" "[B") Jvm.ClassFile.FieldType.byte) ∈ am_nar := List.mem_of_getElem? (i := 359) (by decide +kernel)
theorem z_358 : (Jvm.Cond.eq (Jvm.Term.length (Jvm.Term.field (Jvm.Term.string "SlotMat$CityReader" (69 : Nat)) "java/lang/String" "value" "[B")) (Jvm.Term.int (5 : Int32))) ∈ am_nar := List.mem_of_getElem? (i := 360) (by decide +kernel)
theorem z_359 : (Jvm.Cond.eq (Jvm.Term.elem (Jvm.Term.field (Jvm.Term.string "SlotMat$CityReader" (69 : Nat)) "java/lang/String" "value" "[B") (Jvm.Term.int (0 : Int32))) (Jvm.Term.int (114 : Int32))) ∈ am_nar := List.mem_of_getElem? (i := 361) (by decide +kernel)
theorem z_360 : (Jvm.Cond.eq (Jvm.Term.elem (Jvm.Term.field (Jvm.Term.string "SlotMat$CityReader" (69 : Nat)) "java/lang/String" "value" "[B") (Jvm.Term.int (1 : Int32))) (Jvm.Term.int (111 : Int32))) ∈ am_nar := List.mem_of_getElem? (i := 362) (by decide +kernel)
theorem z_361 : (Jvm.Cond.eq (Jvm.Term.elem (Jvm.Term.field (Jvm.Term.string "SlotMat$CityReader" (69 : Nat)) "java/lang/String" "value" "[B") (Jvm.Term.int (2 : Int32))) (Jvm.Term.int (117 : Int32))) ∈ am_nar := List.mem_of_getElem? (i := 363) (by decide +kernel)
theorem z_362 : (Jvm.Cond.eq (Jvm.Term.elem (Jvm.Term.field (Jvm.Term.string "SlotMat$CityReader" (69 : Nat)) "java/lang/String" "value" "[B") (Jvm.Term.int (3 : Int32))) (Jvm.Term.int (110 : Int32))) ∈ am_nar := List.mem_of_getElem? (i := 364) (by decide +kernel)
theorem z_363 : (Jvm.Cond.eq (Jvm.Term.elem (Jvm.Term.field (Jvm.Term.string "SlotMat$CityReader" (69 : Nat)) "java/lang/String" "value" "[B") (Jvm.Term.int (4 : Int32))) (Jvm.Term.int (100 : Int32))) ∈ am_nar := List.mem_of_getElem? (i := 365) (by decide +kernel)
theorem z_364 : (Jvm.Cond.exactly (Jvm.Term.string "SlotMat$CityReader" (74 : Nat)) "java/lang/String") ∈ am_nar := List.mem_of_getElem? (i := 366) (by decide +kernel)
theorem z_365 : (Jvm.Cond.eq (Jvm.Term.field (Jvm.Term.string "SlotMat$CityReader" (74 : Nat)) "java/lang/String" "coder" "B") (Jvm.Term.int (0 : Int32))) ∈ am_nar := List.mem_of_getElem? (i := 367) (by decide +kernel)
theorem z_366 : (Jvm.Cond.arrayOf (Jvm.Term.field (Jvm.Term.string "SlotMat$CityReader" (74 : Nat)) "java/lang/String" "value" "[B") Jvm.ClassFile.FieldType.byte) ∈ am_nar := List.mem_of_getElem? (i := 368) (by decide +kernel)
theorem z_367 : (Jvm.Cond.eq (Jvm.Term.length (Jvm.Term.field (Jvm.Term.string "SlotMat$CityReader" (74 : Nat)) "java/lang/String" "value" "[B")) (Jvm.Term.int (3 : Int32))) ∈ am_nar := List.mem_of_getElem? (i := 369) (by decide +kernel)
theorem z_368 : (Jvm.Cond.eq (Jvm.Term.elem (Jvm.Term.field (Jvm.Term.string "SlotMat$CityReader" (74 : Nat)) "java/lang/String" "value" "[B") (Jvm.Term.int (0 : Int32))) (Jvm.Term.int (119 : Int32))) ∈ am_nar := List.mem_of_getElem? (i := 370) (by decide +kernel)
theorem z_369 : (Jvm.Cond.eq (Jvm.Term.elem (Jvm.Term.field (Jvm.Term.string "SlotMat$CityReader" (74 : Nat)) "java/lang/String" "value" "[B") (Jvm.Term.int (1 : Int32))) (Jvm.Term.int (101 : Int32))) ∈ am_nar := List.mem_of_getElem? (i := 371) (by decide +kernel)
theorem z_370 : (Jvm.Cond.eq (Jvm.Term.elem (Jvm.Term.field (Jvm.Term.string "SlotMat$CityReader" (74 : Nat)) "java/lang/String" "value" "[B") (Jvm.Term.int (2 : Int32))) (Jvm.Term.int (116 : Int32))) ∈ am_nar := List.mem_of_getElem? (i := 372) (by decide +kernel)
theorem z_371 : (Jvm.Cond.exactly (Jvm.Term.string "SlotMat$CityReader" (79 : Nat)) "java/lang/String") ∈ am_nar := List.mem_of_getElem? (i := 373) (by decide +kernel)
theorem z_372 : (Jvm.Cond.eq (Jvm.Term.field (Jvm.Term.string "SlotMat$CityReader" (79 : Nat)) "java/lang/String" "coder" "B") (Jvm.Term.int (0 : Int32))) ∈ am_nar := List.mem_of_getElem? (i := 374) (by decide +kernel)
theorem z_373 : (Jvm.Cond.arrayOf (Jvm.Term.field (Jvm.Term.string "SlotMat$CityReader" (79 : Nat)) "java/lang/String" "value" "[B") Jvm.ClassFile.FieldType.byte) ∈ am_nar := List.mem_of_getElem? (i := 375) (by decide +kernel)
theorem z_374 : (Jvm.Cond.eq (Jvm.Term.length (Jvm.Term.field (Jvm.Term.string "SlotMat$CityReader" (79 : Nat)) "java/lang/String" "value" "[B")) (Jvm.Term.int (6 : Int32))) ∈ am_nar := List.mem_of_getElem? (i := 376) (by decide +kernel)
theorem z_375 : (Jvm.Cond.eq (Jvm.Term.elem (Jvm.Term.field (Jvm.Term.string "SlotMat$CityReader" (79 : Nat)) "java/lang/String" "value" "[B") (Jvm.Term.int (0 : Int32))) (Jvm.Term.int (116 : Int32))) ∈ am_nar := List.mem_of_getElem? (i := 377) (by decide +kernel)
theorem z_376 : (Jvm.Cond.eq (Jvm.Term.elem (Jvm.Term.field (Jvm.Term.string "SlotMat$CityReader" (79 : Nat)) "java/lang/String" "value" "[B") (Jvm.Term.int (1 : Int32))) (Jvm.Term.int (104 : Int32))) ∈ am_nar := List.mem_of_getElem? (i := 378) (by decide +kernel)
theorem z_377 : (Jvm.Cond.eq (Jvm.Term.elem (Jvm.Term.field (Jvm.Term.string "SlotMat$CityReader" (79 : Nat)) "java/lang/String" "value" "[B") (Jvm.Term.int (2 : Int32))) (Jvm.Term.int (105 : Int32))) ∈ am_nar := List.mem_of_getElem? (i := 379) (by decide +kernel)
theorem z_378 : (Jvm.Cond.eq (Jvm.Term.elem (Jvm.Term.field (Jvm.Term.string "SlotMat$CityReader" (79 : Nat)) "java/lang/String" "value" "[B") (Jvm.Term.int (3 : Int32))) (Jvm.Term.int (110 : Int32))) ∈ am_nar := List.mem_of_getElem? (i := 380) (by decide +kernel)
theorem z_379 : (Jvm.Cond.eq (Jvm.Term.elem (Jvm.Term.field (Jvm.Term.string "SlotMat$CityReader" (79 : Nat)) "java/lang/String" "value" "[B") (Jvm.Term.int (4 : Int32))) (Jvm.Term.int (107 : Int32))) ∈ am_nar := List.mem_of_getElem? (i := 381) (by decide +kernel)
theorem z_380 : (Jvm.Cond.eq (Jvm.Term.elem (Jvm.Term.field (Jvm.Term.string "SlotMat$CityReader" (79 : Nat)) "java/lang/String" "value" "[B") (Jvm.Term.int (5 : Int32))) (Jvm.Term.int (115 : Int32))) ∈ am_nar := List.mem_of_getElem? (i := 382) (by decide +kernel)
theorem z_381 : (Jvm.Cond.exactly (Jvm.Term.string "SlotMat$RuleReader" (81 : Nat)) "java/lang/String") ∈ am_nar := List.mem_of_getElem? (i := 383) (by decide +kernel)
theorem z_382 : (Jvm.Cond.eq (Jvm.Term.field (Jvm.Term.string "SlotMat$RuleReader" (81 : Nat)) "java/lang/String" "coder" "B") (Jvm.Term.int (0 : Int32))) ∈ am_nar := List.mem_of_getElem? (i := 384) (by decide +kernel)
theorem z_383 : (Jvm.Cond.arrayOf (Jvm.Term.field (Jvm.Term.string "SlotMat$RuleReader" (81 : Nat)) "java/lang/String" "value" "[B") Jvm.ClassFile.FieldType.byte) ∈ am_nar := List.mem_of_getElem? (i := 385) (by decide +kernel)
theorem z_384 : (Jvm.Cond.eq (Jvm.Term.length (Jvm.Term.field (Jvm.Term.string "SlotMat$RuleReader" (81 : Nat)) "java/lang/String" "value" "[B")) (Jvm.Term.int (3 : Int32))) ∈ am_nar := List.mem_of_getElem? (i := 386) (by decide +kernel)
theorem z_385 : (Jvm.Cond.eq (Jvm.Term.elem (Jvm.Term.field (Jvm.Term.string "SlotMat$RuleReader" (81 : Nat)) "java/lang/String" "value" "[B") (Jvm.Term.int (0 : Int32))) (Jvm.Term.int (110 : Int32))) ∈ am_nar := List.mem_of_getElem? (i := 387) (by decide +kernel)
theorem z_386 : (Jvm.Cond.eq (Jvm.Term.elem (Jvm.Term.field (Jvm.Term.string "SlotMat$RuleReader" (81 : Nat)) "java/lang/String" "value" "[B") (Jvm.Term.int (1 : Int32))) (Jvm.Term.int (111 : Int32))) ∈ am_nar := List.mem_of_getElem? (i := 388) (by decide +kernel)
theorem z_387 : (Jvm.Cond.eq (Jvm.Term.elem (Jvm.Term.field (Jvm.Term.string "SlotMat$RuleReader" (81 : Nat)) "java/lang/String" "value" "[B") (Jvm.Term.int (2 : Int32))) (Jvm.Term.int (116 : Int32))) ∈ am_nar := List.mem_of_getElem? (i := 389) (by decide +kernel)
theorem z_388 : (Jvm.Cond.exactly (Jvm.Term.string "SlotMat$RuleReader" (102 : Nat)) "java/lang/String") ∈ am_nar := List.mem_of_getElem? (i := 390) (by decide +kernel)
theorem z_389 : (Jvm.Cond.eq (Jvm.Term.field (Jvm.Term.string "SlotMat$RuleReader" (102 : Nat)) "java/lang/String" "coder" "B") (Jvm.Term.int (0 : Int32))) ∈ am_nar := List.mem_of_getElem? (i := 391) (by decide +kernel)
theorem z_390 : (Jvm.Cond.arrayOf (Jvm.Term.field (Jvm.Term.string "SlotMat$RuleReader" (102 : Nat)) "java/lang/String" "value" "[B") Jvm.ClassFile.FieldType.byte) ∈ am_nar := List.mem_of_getElem? (i := 392) (by decide +kernel)
theorem z_391 : (Jvm.Cond.eq (Jvm.Term.length (Jvm.Term.field (Jvm.Term.string "SlotMat$RuleReader" (102 : Nat)) "java/lang/String" "value" "[B")) (Jvm.Term.int (7 : Int32))) ∈ am_nar := List.mem_of_getElem? (i := 393) (by decide +kernel)
theorem z_392 : (Jvm.Cond.eq (Jvm.Term.elem (Jvm.Term.field (Jvm.Term.string "SlotMat$RuleReader" (102 : Nat)) "java/lang/String" "value" "[B") (Jvm.Term.int (0 : Int32))) (Jvm.Term.int (112 : Int32))) ∈ am_nar := List.mem_of_getElem? (i := 394) (by decide +kernel)
theorem z_393 : (Jvm.Cond.eq (Jvm.Term.elem (Jvm.Term.field (Jvm.Term.string "SlotMat$RuleReader" (102 : Nat)) "java/lang/String" "value" "[B") (Jvm.Term.int (1 : Int32))) (Jvm.Term.int (101 : Int32))) ∈ am_nar := List.mem_of_getElem? (i := 395) (by decide +kernel)
theorem z_394 : (Jvm.Cond.eq (Jvm.Term.elem (Jvm.Term.field (Jvm.Term.string "SlotMat$RuleReader" (102 : Nat)) "java/lang/String" "value" "[B") (Jvm.Term.int (2 : Int32))) (Jvm.Term.int (110 : Int32))) ∈ am_nar := List.mem_of_getElem? (i := 396) (by decide +kernel)
theorem z_395 : (Jvm.Cond.eq (Jvm.Term.elem (Jvm.Term.field (Jvm.Term.string "SlotMat$RuleReader" (102 : Nat)) "java/lang/String" "value" "[B") (Jvm.Term.int (3 : Int32))) (Jvm.Term.int (115 : Int32))) ∈ am_nar := List.mem_of_getElem? (i := 397) (by decide +kernel)
theorem z_396 : (Jvm.Cond.eq (Jvm.Term.elem (Jvm.Term.field (Jvm.Term.string "SlotMat$RuleReader" (102 : Nat)) "java/lang/String" "value" "[B") (Jvm.Term.int (4 : Int32))) (Jvm.Term.int (105 : Int32))) ∈ am_nar := List.mem_of_getElem? (i := 398) (by decide +kernel)
theorem z_397 : (Jvm.Cond.eq (Jvm.Term.elem (Jvm.Term.field (Jvm.Term.string "SlotMat$RuleReader" (102 : Nat)) "java/lang/String" "value" "[B") (Jvm.Term.int (5 : Int32))) (Jvm.Term.int (118 : Int32))) ∈ am_nar := List.mem_of_getElem? (i := 399) (by decide +kernel)
theorem z_398 : (Jvm.Cond.eq (Jvm.Term.elem (Jvm.Term.field (Jvm.Term.string "SlotMat$RuleReader" (102 : Nat)) "java/lang/String" "value" "[B") (Jvm.Term.int (6 : Int32))) (Jvm.Term.int (101 : Int32))) ∈ am_nar := List.mem_of_getElem? (i := 400) (by decide +kernel)
theorem z_399 : (Jvm.Cond.exactly (Jvm.Term.string "SlotMat$RuleReader" (104 : Nat)) "java/lang/String") ∈ am_nar := List.mem_of_getElem? (i := 401) (by decide +kernel)
theorem z_400 : (Jvm.Cond.eq (Jvm.Term.field (Jvm.Term.string "SlotMat$RuleReader" (104 : Nat)) "java/lang/String" "coder" "B") (Jvm.Term.int (0 : Int32))) ∈ am_nar := List.mem_of_getElem? (i := 402) (by decide +kernel)
theorem z_401 : (Jvm.Cond.arrayOf (Jvm.Term.field (Jvm.Term.string "SlotMat$RuleReader" (104 : Nat)) "java/lang/String" "value" "[B") Jvm.ClassFile.FieldType.byte) ∈ am_nar := List.mem_of_getElem? (i := 403) (by decide +kernel)
theorem z_402 : (Jvm.Cond.eq (Jvm.Term.length (Jvm.Term.field (Jvm.Term.string "SlotMat$RuleReader" (104 : Nat)) "java/lang/String" "value" "[B")) (Jvm.Term.int (6 : Int32))) ∈ am_nar := List.mem_of_getElem? (i := 404) (by decide +kernel)
theorem z_403 : (Jvm.Cond.eq (Jvm.Term.elem (Jvm.Term.field (Jvm.Term.string "SlotMat$RuleReader" (104 : Nat)) "java/lang/String" "value" "[B") (Jvm.Term.int (0 : Int32))) (Jvm.Term.int (114 : Int32))) ∈ am_nar := List.mem_of_getElem? (i := 405) (by decide +kernel)
theorem z_404 : (Jvm.Cond.eq (Jvm.Term.elem (Jvm.Term.field (Jvm.Term.string "SlotMat$RuleReader" (104 : Nat)) "java/lang/String" "value" "[B") (Jvm.Term.int (1 : Int32))) (Jvm.Term.int (101 : Int32))) ∈ am_nar := List.mem_of_getElem? (i := 406) (by decide +kernel)
theorem z_405 : (Jvm.Cond.eq (Jvm.Term.elem (Jvm.Term.field (Jvm.Term.string "SlotMat$RuleReader" (104 : Nat)) "java/lang/String" "value" "[B") (Jvm.Term.int (2 : Int32))) (Jvm.Term.int (103 : Int32))) ∈ am_nar := List.mem_of_getElem? (i := 407) (by decide +kernel)
theorem z_406 : (Jvm.Cond.eq (Jvm.Term.elem (Jvm.Term.field (Jvm.Term.string "SlotMat$RuleReader" (104 : Nat)) "java/lang/String" "value" "[B") (Jvm.Term.int (3 : Int32))) (Jvm.Term.int (114 : Int32))) ∈ am_nar := List.mem_of_getElem? (i := 408) (by decide +kernel)
theorem z_407 : (Jvm.Cond.eq (Jvm.Term.elem (Jvm.Term.field (Jvm.Term.string "SlotMat$RuleReader" (104 : Nat)) "java/lang/String" "value" "[B") (Jvm.Term.int (4 : Int32))) (Jvm.Term.int (101 : Int32))) ∈ am_nar := List.mem_of_getElem? (i := 409) (by decide +kernel)
theorem z_408 : (Jvm.Cond.eq (Jvm.Term.elem (Jvm.Term.field (Jvm.Term.string "SlotMat$RuleReader" (104 : Nat)) "java/lang/String" "value" "[B") (Jvm.Term.int (5 : Int32))) (Jvm.Term.int (116 : Int32))) ∈ am_nar := List.mem_of_getElem? (i := 410) (by decide +kernel)
theorem z_409 : (Jvm.Cond.exactly (Jvm.Term.string "SlotMat$RuleReader" (106 : Nat)) "java/lang/String") ∈ am_nar := List.mem_of_getElem? (i := 411) (by decide +kernel)
theorem z_410 : (Jvm.Cond.eq (Jvm.Term.field (Jvm.Term.string "SlotMat$RuleReader" (106 : Nat)) "java/lang/String" "coder" "B") (Jvm.Term.int (0 : Int32))) ∈ am_nar := List.mem_of_getElem? (i := 412) (by decide +kernel)
theorem z_411 : (Jvm.Cond.arrayOf (Jvm.Term.field (Jvm.Term.string "SlotMat$RuleReader" (106 : Nat)) "java/lang/String" "value" "[B") Jvm.ClassFile.FieldType.byte) ∈ am_nar := List.mem_of_getElem? (i := 413) (by decide +kernel)
theorem z_412 : (Jvm.Cond.eq (Jvm.Term.length (Jvm.Term.field (Jvm.Term.string "SlotMat$RuleReader" (106 : Nat)) "java/lang/String" "value" "[B")) (Jvm.Term.int (5 : Int32))) ∈ am_nar := List.mem_of_getElem? (i := 414) (by decide +kernel)
theorem z_413 : (Jvm.Cond.eq (Jvm.Term.elem (Jvm.Term.field (Jvm.Term.string "SlotMat$RuleReader" (106 : Nat)) "java/lang/String" "value" "[B") (Jvm.Term.int (0 : Int32))) (Jvm.Term.int (104 : Int32))) ∈ am_nar := List.mem_of_getElem? (i := 415) (by decide +kernel)
theorem z_414 : (Jvm.Cond.eq (Jvm.Term.elem (Jvm.Term.field (Jvm.Term.string "SlotMat$RuleReader" (106 : Nat)) "java/lang/String" "value" "[B") (Jvm.Term.int (1 : Int32))) (Jvm.Term.int (101 : Int32))) ∈ am_nar := List.mem_of_getElem? (i := 416) (by decide +kernel)
theorem z_415 : (Jvm.Cond.eq (Jvm.Term.elem (Jvm.Term.field (Jvm.Term.string "SlotMat$RuleReader" (106 : Nat)) "java/lang/String" "value" "[B") (Jvm.Term.int (2 : Int32))) (Jvm.Term.int (97 : Int32))) ∈ am_nar := List.mem_of_getElem? (i := 417) (by decide +kernel)
theorem z_416 : (Jvm.Cond.eq (Jvm.Term.elem (Jvm.Term.field (Jvm.Term.string "SlotMat$RuleReader" (106 : Nat)) "java/lang/String" "value" "[B") (Jvm.Term.int (3 : Int32))) (Jvm.Term.int (114 : Int32))) ∈ am_nar := List.mem_of_getElem? (i := 418) (by decide +kernel)
theorem z_417 : (Jvm.Cond.eq (Jvm.Term.elem (Jvm.Term.field (Jvm.Term.string "SlotMat$RuleReader" (106 : Nat)) "java/lang/String" "value" "[B") (Jvm.Term.int (4 : Int32))) (Jvm.Term.int (100 : Int32))) ∈ am_nar := List.mem_of_getElem? (i := 419) (by decide +kernel)
theorem z_418 : (Jvm.Cond.exactly (Jvm.Term.string "SlotMat$RuleReader" (108 : Nat)) "java/lang/String") ∈ am_nar := List.mem_of_getElem? (i := 420) (by decide +kernel)
theorem z_419 : (Jvm.Cond.eq (Jvm.Term.field (Jvm.Term.string "SlotMat$RuleReader" (108 : Nat)) "java/lang/String" "coder" "B") (Jvm.Term.int (0 : Int32))) ∈ am_nar := List.mem_of_getElem? (i := 421) (by decide +kernel)
theorem z_420 : (Jvm.Cond.arrayOf (Jvm.Term.field (Jvm.Term.string "SlotMat$RuleReader" (108 : Nat)) "java/lang/String" "value" "[B") Jvm.ClassFile.FieldType.byte) ∈ am_nar := List.mem_of_getElem? (i := 422) (by decide +kernel)
theorem z_421 : (Jvm.Cond.eq (Jvm.Term.length (Jvm.Term.field (Jvm.Term.string "SlotMat$RuleReader" (108 : Nat)) "java/lang/String" "value" "[B")) (Jvm.Term.int (3 : Int32))) ∈ am_nar := List.mem_of_getElem? (i := 423) (by decide +kernel)
theorem z_422 : (Jvm.Cond.eq (Jvm.Term.elem (Jvm.Term.field (Jvm.Term.string "SlotMat$RuleReader" (108 : Nat)) "java/lang/String" "value" "[B") (Jvm.Term.int (0 : Int32))) (Jvm.Term.int (114 : Int32))) ∈ am_nar := List.mem_of_getElem? (i := 424) (by decide +kernel)
theorem z_423 : (Jvm.Cond.eq (Jvm.Term.elem (Jvm.Term.field (Jvm.Term.string "SlotMat$RuleReader" (108 : Nat)) "java/lang/String" "value" "[B") (Jvm.Term.int (1 : Int32))) (Jvm.Term.int (101 : Int32))) ∈ am_nar := List.mem_of_getElem? (i := 425) (by decide +kernel)
theorem z_424 : (Jvm.Cond.eq (Jvm.Term.elem (Jvm.Term.field (Jvm.Term.string "SlotMat$RuleReader" (108 : Nat)) "java/lang/String" "value" "[B") (Jvm.Term.int (2 : Int32))) (Jvm.Term.int (100 : Int32))) ∈ am_nar := List.mem_of_getElem? (i := 426) (by decide +kernel)
theorem z_425 : (Jvm.Cond.exactly (Jvm.Term.string "SlotMat$RuleReader" (110 : Nat)) "java/lang/String") ∈ am_nar := List.mem_of_getElem? (i := 427) (by decide +kernel)
theorem z_426 : (Jvm.Cond.eq (Jvm.Term.field (Jvm.Term.string "SlotMat$RuleReader" (110 : Nat)) "java/lang/String" "coder" "B") (Jvm.Term.int (0 : Int32))) ∈ am_nar := List.mem_of_getElem? (i := 428) (by decide +kernel)
theorem z_427 : (Jvm.Cond.arrayOf (Jvm.Term.field (Jvm.Term.string "SlotMat$RuleReader" (110 : Nat)) "java/lang/String" "value" "[B") Jvm.ClassFile.FieldType.byte) ∈ am_nar := List.mem_of_getElem? (i := 429) (by decide +kernel)
theorem z_428 : (Jvm.Cond.eq (Jvm.Term.length (Jvm.Term.field (Jvm.Term.string "SlotMat$RuleReader" (110 : Nat)) "java/lang/String" "value" "[B")) (Jvm.Term.int (4 : Int32))) ∈ am_nar := List.mem_of_getElem? (i := 430) (by decide +kernel)
theorem z_429 : (Jvm.Cond.eq (Jvm.Term.elem (Jvm.Term.field (Jvm.Term.string "SlotMat$RuleReader" (110 : Nat)) "java/lang/String" "value" "[B") (Jvm.Term.int (0 : Int32))) (Jvm.Term.int (104 : Int32))) ∈ am_nar := List.mem_of_getElem? (i := 431) (by decide +kernel)
theorem z_430 : (Jvm.Cond.eq (Jvm.Term.elem (Jvm.Term.field (Jvm.Term.string "SlotMat$RuleReader" (110 : Nat)) "java/lang/String" "value" "[B") (Jvm.Term.int (1 : Int32))) (Jvm.Term.int (101 : Int32))) ∈ am_nar := List.mem_of_getElem? (i := 432) (by decide +kernel)
theorem z_431 : (Jvm.Cond.eq (Jvm.Term.elem (Jvm.Term.field (Jvm.Term.string "SlotMat$RuleReader" (110 : Nat)) "java/lang/String" "value" "[B") (Jvm.Term.int (2 : Int32))) (Jvm.Term.int (108 : Int32))) ∈ am_nar := List.mem_of_getElem? (i := 433) (by decide +kernel)
theorem z_432 : (Jvm.Cond.eq (Jvm.Term.elem (Jvm.Term.field (Jvm.Term.string "SlotMat$RuleReader" (110 : Nat)) "java/lang/String" "value" "[B") (Jvm.Term.int (3 : Int32))) (Jvm.Term.int (100 : Int32))) ∈ am_nar := List.mem_of_getElem? (i := 434) (by decide +kernel)
theorem z_433 : (Jvm.Cond.exactly (Jvm.Term.string "SlotMat$RuleReader" (112 : Nat)) "java/lang/String") ∈ am_nar := List.mem_of_getElem? (i := 435) (by decide +kernel)
theorem z_434 : (Jvm.Cond.eq (Jvm.Term.field (Jvm.Term.string "SlotMat$RuleReader" (112 : Nat)) "java/lang/String" "coder" "B") (Jvm.Term.int (0 : Int32))) ∈ am_nar := List.mem_of_getElem? (i := 436) (by decide +kernel)
theorem z_435 : (Jvm.Cond.arrayOf (Jvm.Term.field (Jvm.Term.string "SlotMat$RuleReader" (112 : Nat)) "java/lang/String" "value" "[B") Jvm.ClassFile.FieldType.byte) ∈ am_nar := List.mem_of_getElem? (i := 437) (by decide +kernel)
theorem z_436 : (Jvm.Cond.eq (Jvm.Term.length (Jvm.Term.field (Jvm.Term.string "SlotMat$RuleReader" (112 : Nat)) "java/lang/String" "value" "[B")) (Jvm.Term.int (3 : Int32))) ∈ am_nar := List.mem_of_getElem? (i := 438) (by decide +kernel)
theorem z_437 : (Jvm.Cond.eq (Jvm.Term.elem (Jvm.Term.field (Jvm.Term.string "SlotMat$RuleReader" (112 : Nat)) "java/lang/String" "value" "[B") (Jvm.Term.int (0 : Int32))) (Jvm.Term.int (100 : Int32))) ∈ am_nar := List.mem_of_getElem? (i := 439) (by decide +kernel)
theorem z_438 : (Jvm.Cond.eq (Jvm.Term.elem (Jvm.Term.field (Jvm.Term.string "SlotMat$RuleReader" (112 : Nat)) "java/lang/String" "value" "[B") (Jvm.Term.int (1 : Int32))) (Jvm.Term.int (97 : Int32))) ∈ am_nar := List.mem_of_getElem? (i := 440) (by decide +kernel)
theorem z_439 : (Jvm.Cond.eq (Jvm.Term.elem (Jvm.Term.field (Jvm.Term.string "SlotMat$RuleReader" (112 : Nat)) "java/lang/String" "value" "[B") (Jvm.Term.int (2 : Int32))) (Jvm.Term.int (121 : Int32))) ∈ am_nar := List.mem_of_getElem? (i := 441) (by decide +kernel)
theorem z_440 : (Jvm.Cond.exactly (Jvm.Term.string "SlotMat$RuleReader" (114 : Nat)) "java/lang/String") ∈ am_nar := List.mem_of_getElem? (i := 442) (by decide +kernel)
theorem z_441 : (Jvm.Cond.eq (Jvm.Term.field (Jvm.Term.string "SlotMat$RuleReader" (114 : Nat)) "java/lang/String" "coder" "B") (Jvm.Term.int (0 : Int32))) ∈ am_nar := List.mem_of_getElem? (i := 443) (by decide +kernel)
theorem z_442 : (Jvm.Cond.arrayOf (Jvm.Term.field (Jvm.Term.string "SlotMat$RuleReader" (114 : Nat)) "java/lang/String" "value" "[B") Jvm.ClassFile.FieldType.byte) ∈ am_nar := List.mem_of_getElem? (i := 444) (by decide +kernel)
theorem z_443 : (Jvm.Cond.eq (Jvm.Term.length (Jvm.Term.field (Jvm.Term.string "SlotMat$RuleReader" (114 : Nat)) "java/lang/String" "value" "[B")) (Jvm.Term.int (4 : Int32))) ∈ am_nar := List.mem_of_getElem? (i := 445) (by decide +kernel)
theorem z_444 : (Jvm.Cond.eq (Jvm.Term.elem (Jvm.Term.field (Jvm.Term.string "SlotMat$RuleReader" (114 : Nat)) "java/lang/String" "value" "[B") (Jvm.Term.int (0 : Int32))) (Jvm.Term.int (109 : Int32))) ∈ am_nar := List.mem_of_getElem? (i := 446) (by decide +kernel)
theorem z_445 : (Jvm.Cond.eq (Jvm.Term.elem (Jvm.Term.field (Jvm.Term.string "SlotMat$RuleReader" (114 : Nat)) "java/lang/String" "value" "[B") (Jvm.Term.int (1 : Int32))) (Jvm.Term.int (117 : Int32))) ∈ am_nar := List.mem_of_getElem? (i := 447) (by decide +kernel)
theorem z_446 : (Jvm.Cond.eq (Jvm.Term.elem (Jvm.Term.field (Jvm.Term.string "SlotMat$RuleReader" (114 : Nat)) "java/lang/String" "value" "[B") (Jvm.Term.int (2 : Int32))) (Jvm.Term.int (99 : Int32))) ∈ am_nar := List.mem_of_getElem? (i := 448) (by decide +kernel)
theorem z_447 : (Jvm.Cond.eq (Jvm.Term.elem (Jvm.Term.field (Jvm.Term.string "SlotMat$RuleReader" (114 : Nat)) "java/lang/String" "value" "[B") (Jvm.Term.int (3 : Int32))) (Jvm.Term.int (104 : Int32))) ∈ am_nar := List.mem_of_getElem? (i := 449) (by decide +kernel)
theorem z_448 : (Jvm.Cond.exactly (Jvm.Term.string "SlotMat$RuleReader" (116 : Nat)) "java/lang/String") ∈ am_nar := List.mem_of_getElem? (i := 450) (by decide +kernel)
theorem z_449 : (Jvm.Cond.eq (Jvm.Term.field (Jvm.Term.string "SlotMat$RuleReader" (116 : Nat)) "java/lang/String" "coder" "B") (Jvm.Term.int (0 : Int32))) ∈ am_nar := List.mem_of_getElem? (i := 451) (by decide +kernel)
theorem z_450 : (Jvm.Cond.arrayOf (Jvm.Term.field (Jvm.Term.string "SlotMat$RuleReader" (116 : Nat)) "java/lang/String" "value" "[B") Jvm.ClassFile.FieldType.byte) ∈ am_nar := List.mem_of_getElem? (i := 452) (by decide +kernel)
theorem z_451 : (Jvm.Cond.eq (Jvm.Term.length (Jvm.Term.field (Jvm.Term.string "SlotMat$RuleReader" (116 : Nat)) "java/lang/String" "value" "[B")) (Jvm.Term.int (3 : Int32))) ∈ am_nar := List.mem_of_getElem? (i := 453) (by decide +kernel)
theorem z_452 : (Jvm.Cond.eq (Jvm.Term.elem (Jvm.Term.field (Jvm.Term.string "SlotMat$RuleReader" (116 : Nat)) "java/lang/String" "value" "[B") (Jvm.Term.int (0 : Int32))) (Jvm.Term.int (102 : Int32))) ∈ am_nar := List.mem_of_getElem? (i := 454) (by decide +kernel)
theorem z_453 : (Jvm.Cond.eq (Jvm.Term.elem (Jvm.Term.field (Jvm.Term.string "SlotMat$RuleReader" (116 : Nat)) "java/lang/String" "value" "[B") (Jvm.Term.int (1 : Int32))) (Jvm.Term.int (97 : Int32))) ∈ am_nar := List.mem_of_getElem? (i := 455) (by decide +kernel)
theorem z_454 : (Jvm.Cond.eq (Jvm.Term.elem (Jvm.Term.field (Jvm.Term.string "SlotMat$RuleReader" (116 : Nat)) "java/lang/String" "value" "[B") (Jvm.Term.int (2 : Int32))) (Jvm.Term.int (114 : Int32))) ∈ am_nar := List.mem_of_getElem? (i := 456) (by decide +kernel)
theorem z_455 : (Jvm.Cond.exactly (Jvm.Term.string "SlotMat$RuleReader" (118 : Nat)) "java/lang/String") ∈ am_nar := List.mem_of_getElem? (i := 457) (by decide +kernel)
theorem z_456 : (Jvm.Cond.eq (Jvm.Term.field (Jvm.Term.string "SlotMat$RuleReader" (118 : Nat)) "java/lang/String" "coder" "B") (Jvm.Term.int (0 : Int32))) ∈ am_nar := List.mem_of_getElem? (i := 458) (by decide +kernel)
theorem z_457 : (Jvm.Cond.arrayOf (Jvm.Term.field (Jvm.Term.string "SlotMat$RuleReader" (118 : Nat)) "java/lang/String" "value" "[B") Jvm.ClassFile.FieldType.byte) ∈ am_nar := List.mem_of_getElem? (i := 459) (by decide +kernel)
theorem z_458 : (Jvm.Cond.eq (Jvm.Term.length (Jvm.Term.field (Jvm.Term.string "SlotMat$RuleReader" (118 : Nat)) "java/lang/String" "value" "[B")) (Jvm.Term.int (3 : Int32))) ∈ am_nar := List.mem_of_getElem? (i := 460) (by decide +kernel)
theorem z_459 : (Jvm.Cond.eq (Jvm.Term.elem (Jvm.Term.field (Jvm.Term.string "SlotMat$RuleReader" (118 : Nat)) "java/lang/String" "value" "[B") (Jvm.Term.int (0 : Int32))) (Jvm.Term.int (119 : Int32))) ∈ am_nar := List.mem_of_getElem? (i := 461) (by decide +kernel)
theorem z_460 : (Jvm.Cond.eq (Jvm.Term.elem (Jvm.Term.field (Jvm.Term.string "SlotMat$RuleReader" (118 : Nat)) "java/lang/String" "value" "[B") (Jvm.Term.int (1 : Int32))) (Jvm.Term.int (101 : Int32))) ∈ am_nar := List.mem_of_getElem? (i := 462) (by decide +kernel)
theorem z_461 : (Jvm.Cond.eq (Jvm.Term.elem (Jvm.Term.field (Jvm.Term.string "SlotMat$RuleReader" (118 : Nat)) "java/lang/String" "value" "[B") (Jvm.Term.int (2 : Int32))) (Jvm.Term.int (116 : Int32))) ∈ am_nar := List.mem_of_getElem? (i := 463) (by decide +kernel)
theorem z_463 : (Jvm.Cond.exactly (Jvm.Term.string "SlotMat$RuleReader" (135 : Nat)) "java/lang/String") ∈ am_nar := List.mem_of_getElem? (i := 465) (by decide +kernel)
theorem z_464 : (Jvm.Cond.eq (Jvm.Term.field (Jvm.Term.string "SlotMat$RuleReader" (135 : Nat)) "java/lang/String" "coder" "B") (Jvm.Term.int (0 : Int32))) ∈ am_nar := List.mem_of_getElem? (i := 466) (by decide +kernel)
theorem z_465 : (Jvm.Cond.arrayOf (Jvm.Term.field (Jvm.Term.string "SlotMat$RuleReader" (135 : Nat)) "java/lang/String" "value" "[B") Jvm.ClassFile.FieldType.byte) ∈ am_nar := List.mem_of_getElem? (i := 467) (by decide +kernel)
theorem z_466 : (Jvm.Cond.eq (Jvm.Term.length (Jvm.Term.field (Jvm.Term.string "SlotMat$RuleReader" (135 : Nat)) "java/lang/String" "value" "[B")) (Jvm.Term.int (2 : Int32))) ∈ am_nar := List.mem_of_getElem? (i := 468) (by decide +kernel)
theorem z_467 : (Jvm.Cond.eq (Jvm.Term.elem (Jvm.Term.field (Jvm.Term.string "SlotMat$RuleReader" (135 : Nat)) "java/lang/String" "value" "[B") (Jvm.Term.int (0 : Int32))) (Jvm.Term.int (111 : Int32))) ∈ am_nar := List.mem_of_getElem? (i := 469) (by decide +kernel)
theorem z_468 : (Jvm.Cond.eq (Jvm.Term.elem (Jvm.Term.field (Jvm.Term.string "SlotMat$RuleReader" (135 : Nat)) "java/lang/String" "value" "[B") (Jvm.Term.int (1 : Int32))) (Jvm.Term.int (114 : Int32))) ∈ am_nar := List.mem_of_getElem? (i := 470) (by decide +kernel)
theorem z_469 : (Jvm.Cond.exactly (Jvm.Term.string "SlotMat$RuleReader" (137 : Nat)) "java/lang/String") ∈ am_nar := List.mem_of_getElem? (i := 471) (by decide +kernel)
theorem z_470 : (Jvm.Cond.eq (Jvm.Term.field (Jvm.Term.string "SlotMat$RuleReader" (137 : Nat)) "java/lang/String" "coder" "B") (Jvm.Term.int (0 : Int32))) ∈ am_nar := List.mem_of_getElem? (i := 472) (by decide +kernel)
theorem z_471 : (Jvm.Cond.arrayOf (Jvm.Term.field (Jvm.Term.string "SlotMat$RuleReader" (137 : Nat)) "java/lang/String" "value" "[B") Jvm.ClassFile.FieldType.byte) ∈ am_nar := List.mem_of_getElem? (i := 473) (by decide +kernel)
theorem z_472 : (Jvm.Cond.eq (Jvm.Term.length (Jvm.Term.field (Jvm.Term.string "SlotMat$RuleReader" (137 : Nat)) "java/lang/String" "value" "[B")) (Jvm.Term.int (3 : Int32))) ∈ am_nar := List.mem_of_getElem? (i := 474) (by decide +kernel)
theorem z_473 : (Jvm.Cond.eq (Jvm.Term.elem (Jvm.Term.field (Jvm.Term.string "SlotMat$RuleReader" (137 : Nat)) "java/lang/String" "value" "[B") (Jvm.Term.int (0 : Int32))) (Jvm.Term.int (97 : Int32))) ∈ am_nar := List.mem_of_getElem? (i := 475) (by decide +kernel)
theorem z_474 : (Jvm.Cond.eq (Jvm.Term.elem (Jvm.Term.field (Jvm.Term.string "SlotMat$RuleReader" (137 : Nat)) "java/lang/String" "value" "[B") (Jvm.Term.int (1 : Int32))) (Jvm.Term.int (110 : Int32))) ∈ am_nar := List.mem_of_getElem? (i := 476) (by decide +kernel)
theorem z_475 : (Jvm.Cond.eq (Jvm.Term.elem (Jvm.Term.field (Jvm.Term.string "SlotMat$RuleReader" (137 : Nat)) "java/lang/String" "value" "[B") (Jvm.Term.int (2 : Int32))) (Jvm.Term.int (100 : Int32))) ∈ am_nar := List.mem_of_getElem? (i := 477) (by decide +kernel)
theorem z_476 : (Jvm.Cond.exactly (Jvm.Term.string "SlotMat$CityReader" (88 : Nat)) "java/lang/String") ∈ am_nar := List.mem_of_getElem? (i := 478) (by decide +kernel)
theorem z_477 : (Jvm.Cond.eq (Jvm.Term.field (Jvm.Term.string "SlotMat$CityReader" (88 : Nat)) "java/lang/String" "coder" "B") (Jvm.Term.int (0 : Int32))) ∈ am_nar := List.mem_of_getElem? (i := 479) (by decide +kernel)
theorem z_478 : (Jvm.Cond.arrayOf (Jvm.Term.field (Jvm.Term.string "SlotMat$CityReader" (88 : Nat)) "java/lang/String" "value" "[B") Jvm.ClassFile.FieldType.byte) ∈ am_nar := List.mem_of_getElem? (i := 480) (by decide +kernel)
theorem z_479 : (Jvm.Cond.eq (Jvm.Term.length (Jvm.Term.field (Jvm.Term.string "SlotMat$CityReader" (88 : Nat)) "java/lang/String" "value" "[B")) (Jvm.Term.int (6 : Int32))) ∈ am_nar := List.mem_of_getElem? (i := 481) (by decide +kernel)
theorem z_480 : (Jvm.Cond.eq (Jvm.Term.elem (Jvm.Term.field (Jvm.Term.string "SlotMat$CityReader" (88 : Nat)) "java/lang/String" "value" "[B") (Jvm.Term.int (0 : Int32))) (Jvm.Term.int (115 : Int32))) ∈ am_nar := List.mem_of_getElem? (i := 482) (by decide +kernel)
theorem z_481 : (Jvm.Cond.eq (Jvm.Term.elem (Jvm.Term.field (Jvm.Term.string "SlotMat$CityReader" (88 : Nat)) "java/lang/String" "value" "[B") (Jvm.Term.int (1 : Int32))) (Jvm.Term.int (111 : Int32))) ∈ am_nar := List.mem_of_getElem? (i := 483) (by decide +kernel)
theorem z_482 : (Jvm.Cond.eq (Jvm.Term.elem (Jvm.Term.field (Jvm.Term.string "SlotMat$CityReader" (88 : Nat)) "java/lang/String" "value" "[B") (Jvm.Term.int (2 : Int32))) (Jvm.Term.int (117 : Int32))) ∈ am_nar := List.mem_of_getElem? (i := 484) (by decide +kernel)
theorem z_483 : (Jvm.Cond.eq (Jvm.Term.elem (Jvm.Term.field (Jvm.Term.string "SlotMat$CityReader" (88 : Nat)) "java/lang/String" "value" "[B") (Jvm.Term.int (3 : Int32))) (Jvm.Term.int (110 : Int32))) ∈ am_nar := List.mem_of_getElem? (i := 485) (by decide +kernel)
theorem z_484 : (Jvm.Cond.eq (Jvm.Term.elem (Jvm.Term.field (Jvm.Term.string "SlotMat$CityReader" (88 : Nat)) "java/lang/String" "value" "[B") (Jvm.Term.int (4 : Int32))) (Jvm.Term.int (100 : Int32))) ∈ am_nar := List.mem_of_getElem? (i := 486) (by decide +kernel)
theorem z_485 : (Jvm.Cond.eq (Jvm.Term.elem (Jvm.Term.field (Jvm.Term.string "SlotMat$CityReader" (88 : Nat)) "java/lang/String" "value" "[B") (Jvm.Term.int (5 : Int32))) (Jvm.Term.int (115 : Int32))) ∈ am_nar := List.mem_of_getElem? (i := 487) (by decide +kernel)
theorem z_486 : (Jvm.Cond.exactly (Jvm.Term.string "SlotMat" (161 : Nat)) "java/lang/String") ∈ am_nar := List.mem_of_getElem? (i := 488) (by decide +kernel)
theorem z_487 : (Jvm.Cond.eq (Jvm.Term.field (Jvm.Term.string "SlotMat" (161 : Nat)) "java/lang/String" "coder" "B") (Jvm.Term.int (0 : Int32))) ∈ am_nar := List.mem_of_getElem? (i := 489) (by decide +kernel)
theorem z_488 : (Jvm.Cond.arrayOf (Jvm.Term.field (Jvm.Term.string "SlotMat" (161 : Nat)) "java/lang/String" "value" "[B") Jvm.ClassFile.FieldType.byte) ∈ am_nar := List.mem_of_getElem? (i := 490) (by decide +kernel)
theorem z_489 : (Jvm.Cond.eq (Jvm.Term.length (Jvm.Term.field (Jvm.Term.string "SlotMat" (161 : Nat)) "java/lang/String" "value" "[B")) (Jvm.Term.int (12 : Int32))) ∈ am_nar := List.mem_of_getElem? (i := 491) (by decide +kernel)
theorem z_490 : (Jvm.Cond.eq (Jvm.Term.elem (Jvm.Term.field (Jvm.Term.string "SlotMat" (161 : Nat)) "java/lang/String" "value" "[B") (Jvm.Term.int (0 : Int32))) (Jvm.Term.int (110 : Int32))) ∈ am_nar := List.mem_of_getElem? (i := 492) (by decide +kernel)
theorem z_491 : (Jvm.Cond.eq (Jvm.Term.elem (Jvm.Term.field (Jvm.Term.string "SlotMat" (161 : Nat)) "java/lang/String" "value" "[B") (Jvm.Term.int (1 : Int32))) (Jvm.Term.int (111 : Int32))) ∈ am_nar := List.mem_of_getElem? (i := 493) (by decide +kernel)
theorem z_492 : (Jvm.Cond.eq (Jvm.Term.elem (Jvm.Term.field (Jvm.Term.string "SlotMat" (161 : Nat)) "java/lang/String" "value" "[B") (Jvm.Term.int (2 : Int32))) (Jvm.Term.int (32 : Int32))) ∈ am_nar := List.mem_of_getElem? (i := 494) (by decide +kernel)
theorem z_493 : (Jvm.Cond.eq (Jvm.Term.elem (Jvm.Term.field (Jvm.Term.string "SlotMat" (161 : Nat)) "java/lang/String" "value" "[B") (Jvm.Term.int (3 : Int32))) (Jvm.Term.int (115 : Int32))) ∈ am_nar := List.mem_of_getElem? (i := 495) (by decide +kernel)
theorem z_494 : (Jvm.Cond.eq (Jvm.Term.elem (Jvm.Term.field (Jvm.Term.string "SlotMat" (161 : Nat)) "java/lang/String" "value" "[B") (Jvm.Term.int (4 : Int32))) (Jvm.Term.int (117 : Int32))) ∈ am_nar := List.mem_of_getElem? (i := 496) (by decide +kernel)
theorem z_495 : (Jvm.Cond.eq (Jvm.Term.elem (Jvm.Term.field (Jvm.Term.string "SlotMat" (161 : Nat)) "java/lang/String" "value" "[B") (Jvm.Term.int (5 : Int32))) (Jvm.Term.int (99 : Int32))) ∈ am_nar := List.mem_of_getElem? (i := 497) (by decide +kernel)
theorem z_496 : (Jvm.Cond.eq (Jvm.Term.elem (Jvm.Term.field (Jvm.Term.string "SlotMat" (161 : Nat)) "java/lang/String" "value" "[B") (Jvm.Term.int (6 : Int32))) (Jvm.Term.int (104 : Int32))) ∈ am_nar := List.mem_of_getElem? (i := 498) (by decide +kernel)
theorem z_497 : (Jvm.Cond.eq (Jvm.Term.elem (Jvm.Term.field (Jvm.Term.string "SlotMat" (161 : Nat)) "java/lang/String" "value" "[B") (Jvm.Term.int (7 : Int32))) (Jvm.Term.int (32 : Int32))) ∈ am_nar := List.mem_of_getElem? (i := 499) (by decide +kernel)
theorem z_498 : (Jvm.Cond.eq (Jvm.Term.elem (Jvm.Term.field (Jvm.Term.string "SlotMat" (161 : Nat)) "java/lang/String" "value" "[B") (Jvm.Term.int (8 : Int32))) (Jvm.Term.int (119 : Int32))) ∈ am_nar := List.mem_of_getElem? (i := 500) (by decide +kernel)
theorem z_499 : (Jvm.Cond.eq (Jvm.Term.elem (Jvm.Term.field (Jvm.Term.string "SlotMat" (161 : Nat)) "java/lang/String" "value" "[B") (Jvm.Term.int (9 : Int32))) (Jvm.Term.int (104 : Int32))) ∈ am_nar := List.mem_of_getElem? (i := 501) (by decide +kernel)
theorem z_500 : (Jvm.Cond.eq (Jvm.Term.elem (Jvm.Term.field (Jvm.Term.string "SlotMat" (161 : Nat)) "java/lang/String" "value" "[B") (Jvm.Term.int (10 : Int32))) (Jvm.Term.int (97 : Int32))) ∈ am_nar := List.mem_of_getElem? (i := 502) (by decide +kernel)
theorem z_501 : (Jvm.Cond.eq (Jvm.Term.elem (Jvm.Term.field (Jvm.Term.string "SlotMat" (161 : Nat)) "java/lang/String" "value" "[B") (Jvm.Term.int (11 : Int32))) (Jvm.Term.int (116 : Int32))) ∈ am_nar := List.mem_of_getElem? (i := 503) (by decide +kernel)
theorem z_502 : (Jvm.Cond.exactly (Jvm.Term.string "SlotMat" (363 : Nat)) "java/lang/String") ∈ am_nar := List.mem_of_getElem? (i := 504) (by decide +kernel)
theorem z_503 : (Jvm.Cond.eq (Jvm.Term.field (Jvm.Term.string "SlotMat" (363 : Nat)) "java/lang/String" "coder" "B") (Jvm.Term.int (0 : Int32))) ∈ am_nar := List.mem_of_getElem? (i := 505) (by decide +kernel)
theorem z_504 : (Jvm.Cond.arrayOf (Jvm.Term.field (Jvm.Term.string "SlotMat" (363 : Nat)) "java/lang/String" "value" "[B") Jvm.ClassFile.FieldType.byte) ∈ am_nar := List.mem_of_getElem? (i := 506) (by decide +kernel)
theorem z_505 : (Jvm.Cond.eq (Jvm.Term.length (Jvm.Term.field (Jvm.Term.string "SlotMat" (363 : Nat)) "java/lang/String" "value" "[B")) (Jvm.Term.int (11 : Int32))) ∈ am_nar := List.mem_of_getElem? (i := 507) (by decide +kernel)
theorem z_506 : (Jvm.Cond.eq (Jvm.Term.elem (Jvm.Term.field (Jvm.Term.string "SlotMat" (363 : Nat)) "java/lang/String" "value" "[B") (Jvm.Term.int (0 : Int32))) (Jvm.Term.int (110 : Int32))) ∈ am_nar := List.mem_of_getElem? (i := 508) (by decide +kernel)
theorem z_507 : (Jvm.Cond.eq (Jvm.Term.elem (Jvm.Term.field (Jvm.Term.string "SlotMat" (363 : Nat)) "java/lang/String" "value" "[B") (Jvm.Term.int (1 : Int32))) (Jvm.Term.int (111 : Int32))) ∈ am_nar := List.mem_of_getElem? (i := 509) (by decide +kernel)
theorem z_508 : (Jvm.Cond.eq (Jvm.Term.elem (Jvm.Term.field (Jvm.Term.string "SlotMat" (363 : Nat)) "java/lang/String" "value" "[B") (Jvm.Term.int (2 : Int32))) (Jvm.Term.int (32 : Int32))) ∈ am_nar := List.mem_of_getElem? (i := 510) (by decide +kernel)
theorem z_509 : (Jvm.Cond.eq (Jvm.Term.elem (Jvm.Term.field (Jvm.Term.string "SlotMat" (363 : Nat)) "java/lang/String" "value" "[B") (Jvm.Term.int (3 : Int32))) (Jvm.Term.int (115 : Int32))) ∈ am_nar := List.mem_of_getElem? (i := 511) (by decide +kernel)
theorem z_510 : (Jvm.Cond.eq (Jvm.Term.elem (Jvm.Term.field (Jvm.Term.string "SlotMat" (363 : Nat)) "java/lang/String" "value" "[B") (Jvm.Term.int (4 : Int32))) (Jvm.Term.int (117 : Int32))) ∈ am_nar := List.mem_of_getElem? (i := 512) (by decide +kernel)
theorem z_511 : (Jvm.Cond.eq (Jvm.Term.elem (Jvm.Term.field (Jvm.Term.string "SlotMat" (363 : Nat)) "java/lang/String" "value" "[B") (Jvm.Term.int (5 : Int32))) (Jvm.Term.int (99 : Int32))) ∈ am_nar := List.mem_of_getElem? (i := 513) (by decide +kernel)
theorem z_512 : (Jvm.Cond.eq (Jvm.Term.elem (Jvm.Term.field (Jvm.Term.string "SlotMat" (363 : Nat)) "java/lang/String" "value" "[B") (Jvm.Term.int (6 : Int32))) (Jvm.Term.int (104 : Int32))) ∈ am_nar := List.mem_of_getElem? (i := 514) (by decide +kernel)
theorem z_513 : (Jvm.Cond.eq (Jvm.Term.elem (Jvm.Term.field (Jvm.Term.string "SlotMat" (363 : Nat)) "java/lang/String" "value" "[B") (Jvm.Term.int (7 : Int32))) (Jvm.Term.int (32 : Int32))) ∈ am_nar := List.mem_of_getElem? (i := 515) (by decide +kernel)
theorem z_514 : (Jvm.Cond.eq (Jvm.Term.elem (Jvm.Term.field (Jvm.Term.string "SlotMat" (363 : Nat)) "java/lang/String" "value" "[B") (Jvm.Term.int (8 : Int32))) (Jvm.Term.int (98 : Int32))) ∈ am_nar := List.mem_of_getElem? (i := 516) (by decide +kernel)
theorem z_515 : (Jvm.Cond.eq (Jvm.Term.elem (Jvm.Term.field (Jvm.Term.string "SlotMat" (363 : Nat)) "java/lang/String" "value" "[B") (Jvm.Term.int (9 : Int32))) (Jvm.Term.int (111 : Int32))) ∈ am_nar := List.mem_of_getElem? (i := 517) (by decide +kernel)
theorem z_516 : (Jvm.Cond.eq (Jvm.Term.elem (Jvm.Term.field (Jvm.Term.string "SlotMat" (363 : Nat)) "java/lang/String" "value" "[B") (Jvm.Term.int (10 : Int32))) (Jvm.Term.int (120 : Int32))) ∈ am_nar := List.mem_of_getElem? (i := 518) (by decide +kernel)
theorem z_517 : (Jvm.Cond.exactly (Jvm.Term.string "SlotMat" (365 : Nat)) "java/lang/String") ∈ am_nar := List.mem_of_getElem? (i := 519) (by decide +kernel)
theorem z_518 : (Jvm.Cond.eq (Jvm.Term.field (Jvm.Term.string "SlotMat" (365 : Nat)) "java/lang/String" "coder" "B") (Jvm.Term.int (0 : Int32))) ∈ am_nar := List.mem_of_getElem? (i := 520) (by decide +kernel)
theorem z_519 : (Jvm.Cond.arrayOf (Jvm.Term.field (Jvm.Term.string "SlotMat" (365 : Nat)) "java/lang/String" "value" "[B") Jvm.ClassFile.FieldType.byte) ∈ am_nar := List.mem_of_getElem? (i := 521) (by decide +kernel)
theorem z_520 : (Jvm.Cond.eq (Jvm.Term.length (Jvm.Term.field (Jvm.Term.string "SlotMat" (365 : Nat)) "java/lang/String" "value" "[B")) (Jvm.Term.int (14 : Int32))) ∈ am_nar := List.mem_of_getElem? (i := 522) (by decide +kernel)
theorem z_521 : (Jvm.Cond.eq (Jvm.Term.elem (Jvm.Term.field (Jvm.Term.string "SlotMat" (365 : Nat)) "java/lang/String" "value" "[B") (Jvm.Term.int (0 : Int32))) (Jvm.Term.int (110 : Int32))) ∈ am_nar := List.mem_of_getElem? (i := 523) (by decide +kernel)
theorem z_522 : (Jvm.Cond.eq (Jvm.Term.elem (Jvm.Term.field (Jvm.Term.string "SlotMat" (365 : Nat)) "java/lang/String" "value" "[B") (Jvm.Term.int (1 : Int32))) (Jvm.Term.int (111 : Int32))) ∈ am_nar := List.mem_of_getElem? (i := 524) (by decide +kernel)
theorem z_523 : (Jvm.Cond.eq (Jvm.Term.elem (Jvm.Term.field (Jvm.Term.string "SlotMat" (365 : Nat)) "java/lang/String" "value" "[B") (Jvm.Term.int (2 : Int32))) (Jvm.Term.int (32 : Int32))) ∈ am_nar := List.mem_of_getElem? (i := 525) (by decide +kernel)
theorem z_524 : (Jvm.Cond.eq (Jvm.Term.elem (Jvm.Term.field (Jvm.Term.string "SlotMat" (365 : Nat)) "java/lang/String" "value" "[B") (Jvm.Term.int (3 : Int32))) (Jvm.Term.int (115 : Int32))) ∈ am_nar := List.mem_of_getElem? (i := 526) (by decide +kernel)
theorem z_525 : (Jvm.Cond.eq (Jvm.Term.elem (Jvm.Term.field (Jvm.Term.string "SlotMat" (365 : Nat)) "java/lang/String" "value" "[B") (Jvm.Term.int (4 : Int32))) (Jvm.Term.int (117 : Int32))) ∈ am_nar := List.mem_of_getElem? (i := 527) (by decide +kernel)
theorem z_526 : (Jvm.Cond.eq (Jvm.Term.elem (Jvm.Term.field (Jvm.Term.string "SlotMat" (365 : Nat)) "java/lang/String" "value" "[B") (Jvm.Term.int (5 : Int32))) (Jvm.Term.int (99 : Int32))) ∈ am_nar := List.mem_of_getElem? (i := 528) (by decide +kernel)
theorem z_527 : (Jvm.Cond.eq (Jvm.Term.elem (Jvm.Term.field (Jvm.Term.string "SlotMat" (365 : Nat)) "java/lang/String" "value" "[B") (Jvm.Term.int (6 : Int32))) (Jvm.Term.int (104 : Int32))) ∈ am_nar := List.mem_of_getElem? (i := 529) (by decide +kernel)
theorem z_528 : (Jvm.Cond.eq (Jvm.Term.elem (Jvm.Term.field (Jvm.Term.string "SlotMat" (365 : Nat)) "java/lang/String" "value" "[B") (Jvm.Term.int (7 : Int32))) (Jvm.Term.int (32 : Int32))) ∈ am_nar := List.mem_of_getElem? (i := 530) (by decide +kernel)
theorem z_529 : (Jvm.Cond.eq (Jvm.Term.elem (Jvm.Term.field (Jvm.Term.string "SlotMat" (365 : Nat)) "java/lang/String" "value" "[B") (Jvm.Term.int (8 : Int32))) (Jvm.Term.int (112 : Int32))) ∈ am_nar := List.mem_of_getElem? (i := 531) (by decide +kernel)
theorem z_530 : (Jvm.Cond.eq (Jvm.Term.elem (Jvm.Term.field (Jvm.Term.string "SlotMat" (365 : Nat)) "java/lang/String" "value" "[B") (Jvm.Term.int (9 : Int32))) (Jvm.Term.int (101 : Int32))) ∈ am_nar := List.mem_of_getElem? (i := 532) (by decide +kernel)
theorem z_531 : (Jvm.Cond.eq (Jvm.Term.elem (Jvm.Term.field (Jvm.Term.string "SlotMat" (365 : Nat)) "java/lang/String" "value" "[B") (Jvm.Term.int (10 : Int32))) (Jvm.Term.int (114 : Int32))) ∈ am_nar := List.mem_of_getElem? (i := 533) (by decide +kernel)
theorem z_532 : (Jvm.Cond.eq (Jvm.Term.elem (Jvm.Term.field (Jvm.Term.string "SlotMat" (365 : Nat)) "java/lang/String" "value" "[B") (Jvm.Term.int (11 : Int32))) (Jvm.Term.int (115 : Int32))) ∈ am_nar := List.mem_of_getElem? (i := 534) (by decide +kernel)
theorem z_533 : (Jvm.Cond.eq (Jvm.Term.elem (Jvm.Term.field (Jvm.Term.string "SlotMat" (365 : Nat)) "java/lang/String" "value" "[B") (Jvm.Term.int (12 : Int32))) (Jvm.Term.int (111 : Int32))) ∈ am_nar := List.mem_of_getElem? (i := 535) (by decide +kernel)
theorem z_534 : (Jvm.Cond.eq (Jvm.Term.elem (Jvm.Term.field (Jvm.Term.string "SlotMat" (365 : Nat)) "java/lang/String" "value" "[B") (Jvm.Term.int (13 : Int32))) (Jvm.Term.int (110 : Int32))) ∈ am_nar := List.mem_of_getElem? (i := 536) (by decide +kernel)
theorem z_535 : (Jvm.Cond.exactly (Jvm.Term.string "SlotMat" (367 : Nat)) "java/lang/String") ∈ am_nar := List.mem_of_getElem? (i := 537) (by decide +kernel)
theorem z_536 : (Jvm.Cond.eq (Jvm.Term.field (Jvm.Term.string "SlotMat" (367 : Nat)) "java/lang/String" "coder" "B") (Jvm.Term.int (0 : Int32))) ∈ am_nar := List.mem_of_getElem? (i := 538) (by decide +kernel)
theorem z_537 : (Jvm.Cond.arrayOf (Jvm.Term.field (Jvm.Term.string "SlotMat" (367 : Nat)) "java/lang/String" "value" "[B") Jvm.ClassFile.FieldType.byte) ∈ am_nar := List.mem_of_getElem? (i := 539) (by decide +kernel)
theorem z_538 : (Jvm.Cond.eq (Jvm.Term.length (Jvm.Term.field (Jvm.Term.string "SlotMat" (367 : Nat)) "java/lang/String" "value" "[B")) (Jvm.Term.int (28 : Int32))) ∈ am_nar := List.mem_of_getElem? (i := 540) (by decide +kernel)
theorem z_539 : (Jvm.Cond.eq (Jvm.Term.elem (Jvm.Term.field (Jvm.Term.string "SlotMat" (367 : Nat)) "java/lang/String" "value" "[B") (Jvm.Term.int (0 : Int32))) (Jvm.Term.int (97 : Int32))) ∈ am_nar := List.mem_of_getElem? (i := 541) (by decide +kernel)
theorem z_540 : (Jvm.Cond.eq (Jvm.Term.elem (Jvm.Term.field (Jvm.Term.string "SlotMat" (367 : Nat)) "java/lang/String" "value" "[B") (Jvm.Term.int (1 : Int32))) (Jvm.Term.int (32 : Int32))) ∈ am_nar := List.mem_of_getElem? (i := 542) (by decide +kernel)
theorem z_541 : (Jvm.Cond.eq (Jvm.Term.elem (Jvm.Term.field (Jvm.Term.string "SlotMat" (367 : Nat)) "java/lang/String" "value" "[B") (Jvm.Term.int (2 : Int32))) (Jvm.Term.int (110 : Int32))) ∈ am_nar := List.mem_of_getElem? (i := 543) (by decide +kernel)
theorem z_542 : (Jvm.Cond.eq (Jvm.Term.elem (Jvm.Term.field (Jvm.Term.string "SlotMat" (367 : Nat)) "java/lang/String" "value" "[B") (Jvm.Term.int (3 : Int32))) (Jvm.Term.int (117 : Int32))) ∈ am_nar := List.mem_of_getElem? (i := 544) (by decide +kernel)
theorem z_543 : (Jvm.Cond.eq (Jvm.Term.elem (Jvm.Term.field (Jvm.Term.string "SlotMat" (367 : Nat)) "java/lang/String" "value" "[B") (Jvm.Term.int (4 : Int32))) (Jvm.Term.int (109 : Int32))) ∈ am_nar := List.mem_of_getElem? (i := 545) (by decide +kernel)
theorem z_544 : (Jvm.Cond.eq (Jvm.Term.elem (Jvm.Term.field (Jvm.Term.string "SlotMat" (367 : Nat)) "java/lang/String" "value" "[B") (Jvm.Term.int (5 : Int32))) (Jvm.Term.int (98 : Int32))) ∈ am_nar := List.mem_of_getElem? (i := 546) (by decide +kernel)
theorem z_545 : (Jvm.Cond.eq (Jvm.Term.elem (Jvm.Term.field (Jvm.Term.string "SlotMat" (367 : Nat)) "java/lang/String" "value" "[B") (Jvm.Term.int (6 : Int32))) (Jvm.Term.int (101 : Int32))) ∈ am_nar := List.mem_of_getElem? (i := 547) (by decide +kernel)
theorem z_546 : (Jvm.Cond.eq (Jvm.Term.elem (Jvm.Term.field (Jvm.Term.string "SlotMat" (367 : Nat)) "java/lang/String" "value" "[B") (Jvm.Term.int (7 : Int32))) (Jvm.Term.int (114 : Int32))) ∈ am_nar := List.mem_of_getElem? (i := 548) (by decide +kernel)
theorem z_547 : (Jvm.Cond.eq (Jvm.Term.elem (Jvm.Term.field (Jvm.Term.string "SlotMat" (367 : Nat)) "java/lang/String" "value" "[B") (Jvm.Term.int (8 : Int32))) (Jvm.Term.int (32 : Int32))) ∈ am_nar := List.mem_of_getElem? (i := 549) (by decide +kernel)
theorem z_548 : (Jvm.Cond.eq (Jvm.Term.elem (Jvm.Term.field (Jvm.Term.string "SlotMat" (367 : Nat)) "java/lang/String" "value" "[B") (Jvm.Term.int (9 : Int32))) (Jvm.Term.int (105 : Int32))) ∈ am_nar := List.mem_of_getElem? (i := 550) (by decide +kernel)
theorem z_549 : (Jvm.Cond.eq (Jvm.Term.elem (Jvm.Term.field (Jvm.Term.string "SlotMat" (367 : Nat)) "java/lang/String" "value" "[B") (Jvm.Term.int (10 : Int32))) (Jvm.Term.int (115 : Int32))) ∈ am_nar := List.mem_of_getElem? (i := 551) (by decide +kernel)
theorem z_550 : (Jvm.Cond.eq (Jvm.Term.elem (Jvm.Term.field (Jvm.Term.string "SlotMat" (367 : Nat)) "java/lang/String" "value" "[B") (Jvm.Term.int (11 : Int32))) (Jvm.Term.int (32 : Int32))) ∈ am_nar := List.mem_of_getElem? (i := 552) (by decide +kernel)
theorem z_551 : (Jvm.Cond.eq (Jvm.Term.elem (Jvm.Term.field (Jvm.Term.string "SlotMat" (367 : Nat)) "java/lang/String" "value" "[B") (Jvm.Term.int (12 : Int32))) (Jvm.Term.int (111 : Int32))) ∈ am_nar := List.mem_of_getElem? (i := 553) (by decide +kernel)
theorem z_552 : (Jvm.Cond.eq (Jvm.Term.elem (Jvm.Term.field (Jvm.Term.string "SlotMat" (367 : Nat)) "java/lang/String" "value" "[B") (Jvm.Term.int (13 : Int32))) (Jvm.Term.int (117 : Int32))) ∈ am_nar := List.mem_of_getElem? (i := 554) (by decide +kernel)
theorem z_553 : (Jvm.Cond.eq (Jvm.Term.elem (Jvm.Term.field (Jvm.Term.string "SlotMat" (367 : Nat)) "java/lang/String" "value" "[B") (Jvm.Term.int (14 : Int32))) (Jvm.Term.int (116 : Int32))) ∈ am_nar := List.mem_of_getElem? (i := 555) (by decide +kernel)
theorem z_554 : (Jvm.Cond.eq (Jvm.Term.elem (Jvm.Term.field (Jvm.Term.string "SlotMat" (367 : Nat)) "java/lang/String" "value" "[B") (Jvm.Term.int (15 : Int32))) (Jvm.Term.int (32 : Int32))) ∈ am_nar := List.mem_of_getElem? (i := 556) (by decide +kernel)
theorem z_555 : (Jvm.Cond.eq (Jvm.Term.elem (Jvm.Term.field (Jvm.Term.string "SlotMat" (367 : Nat)) "java/lang/String" "value" "[B") (Jvm.Term.int (16 : Int32))) (Jvm.Term.int (111 : Int32))) ∈ am_nar := List.mem_of_getElem? (i := 557) (by decide +kernel)
theorem z_556 : (Jvm.Cond.eq (Jvm.Term.elem (Jvm.Term.field (Jvm.Term.string "SlotMat" (367 : Nat)) "java/lang/String" "value" "[B") (Jvm.Term.int (17 : Int32))) (Jvm.Term.int (102 : Int32))) ∈ am_nar := List.mem_of_getElem? (i := 558) (by decide +kernel)
theorem z_557 : (Jvm.Cond.eq (Jvm.Term.elem (Jvm.Term.field (Jvm.Term.string "SlotMat" (367 : Nat)) "java/lang/String" "value" "[B") (Jvm.Term.int (18 : Int32))) (Jvm.Term.int (32 : Int32))) ∈ am_nar := List.mem_of_getElem? (i := 559) (by decide +kernel)
theorem z_558 : (Jvm.Cond.eq (Jvm.Term.elem (Jvm.Term.field (Jvm.Term.string "SlotMat" (367 : Nat)) "java/lang/String" "value" "[B") (Jvm.Term.int (19 : Int32))) (Jvm.Term.int (105 : Int32))) ∈ am_nar := List.mem_of_getElem? (i := 560) (by decide +kernel)
theorem z_559 : (Jvm.Cond.eq (Jvm.Term.elem (Jvm.Term.field (Jvm.Term.string "SlotMat" (367 : Nat)) "java/lang/String" "value" "[B") (Jvm.Term.int (20 : Int32))) (Jvm.Term.int (116 : Int32))) ∈ am_nar := List.mem_of_getElem? (i := 561) (by decide +kernel)
theorem z_560 : (Jvm.Cond.eq (Jvm.Term.elem (Jvm.Term.field (Jvm.Term.string "SlotMat" (367 : Nat)) "java/lang/String" "value" "[B") (Jvm.Term.int (21 : Int32))) (Jvm.Term.int (115 : Int32))) ∈ am_nar := List.mem_of_getElem? (i := 562) (by decide +kernel)
theorem z_561 : (Jvm.Cond.eq (Jvm.Term.elem (Jvm.Term.field (Jvm.Term.string "SlotMat" (367 : Nat)) "java/lang/String" "value" "[B") (Jvm.Term.int (22 : Int32))) (Jvm.Term.int (32 : Int32))) ∈ am_nar := List.mem_of_getElem? (i := 563) (by decide +kernel)
theorem z_562 : (Jvm.Cond.eq (Jvm.Term.elem (Jvm.Term.field (Jvm.Term.string "SlotMat" (367 : Nat)) "java/lang/String" "value" "[B") (Jvm.Term.int (23 : Int32))) (Jvm.Term.int (114 : Int32))) ∈ am_nar := List.mem_of_getElem? (i := 564) (by decide +kernel)
theorem z_563 : (Jvm.Cond.eq (Jvm.Term.elem (Jvm.Term.field (Jvm.Term.string "SlotMat" (367 : Nat)) "java/lang/String" "value" "[B") (Jvm.Term.int (24 : Int32))) (Jvm.Term.int (97 : Int32))) ∈ am_nar := List.mem_of_getElem? (i := 565) (by decide +kernel)
theorem z_564 : (Jvm.Cond.eq (Jvm.Term.elem (Jvm.Term.field (Jvm.Term.string "SlotMat" (367 : Nat)) "java/lang/String" "value" "[B") (Jvm.Term.int (25 : Int32))) (Jvm.Term.int (110 : Int32))) ∈ am_nar := List.mem_of_getElem? (i := 566) (by decide +kernel)
theorem z_565 : (Jvm.Cond.eq (Jvm.Term.elem (Jvm.Term.field (Jvm.Term.string "SlotMat" (367 : Nat)) "java/lang/String" "value" "[B") (Jvm.Term.int (26 : Int32))) (Jvm.Term.int (103 : Int32))) ∈ am_nar := List.mem_of_getElem? (i := 567) (by decide +kernel)
theorem z_566 : (Jvm.Cond.eq (Jvm.Term.elem (Jvm.Term.field (Jvm.Term.string "SlotMat" (367 : Nat)) "java/lang/String" "value" "[B") (Jvm.Term.int (27 : Int32))) (Jvm.Term.int (101 : Int32))) ∈ am_nar := List.mem_of_getElem? (i := 568) (by decide +kernel)
theorem z_567 : (Jvm.Cond.exactly (Jvm.Term.string "SlotMat" (327 : Nat)) "java/lang/String") ∈ am_nar := List.mem_of_getElem? (i := 569) (by decide +kernel)
theorem z_568 : (Jvm.Cond.eq (Jvm.Term.field (Jvm.Term.string "SlotMat" (327 : Nat)) "java/lang/String" "coder" "B") (Jvm.Term.int (0 : Int32))) ∈ am_nar := List.mem_of_getElem? (i := 570) (by decide +kernel)
theorem z_569 : (Jvm.Cond.arrayOf (Jvm.Term.field (Jvm.Term.string "SlotMat" (327 : Nat)) "java/lang/String" "value" "[B") Jvm.ClassFile.FieldType.byte) ∈ am_nar := List.mem_of_getElem? (i := 571) (by decide +kernel)
theorem z_570 : (Jvm.Cond.eq (Jvm.Term.length (Jvm.Term.field (Jvm.Term.string "SlotMat" (327 : Nat)) "java/lang/String" "value" "[B")) (Jvm.Term.int (12 : Int32))) ∈ am_nar := List.mem_of_getElem? (i := 572) (by decide +kernel)
theorem z_571 : (Jvm.Cond.eq (Jvm.Term.elem (Jvm.Term.field (Jvm.Term.string "SlotMat" (327 : Nat)) "java/lang/String" "value" "[B") (Jvm.Term.int (0 : Int32))) (Jvm.Term.int (98 : Int32))) ∈ am_nar := List.mem_of_getElem? (i := 573) (by decide +kernel)
theorem z_572 : (Jvm.Cond.eq (Jvm.Term.elem (Jvm.Term.field (Jvm.Term.string "SlotMat" (327 : Nat)) "java/lang/String" "value" "[B") (Jvm.Term.int (1 : Int32))) (Jvm.Term.int (111 : Int32))) ∈ am_nar := List.mem_of_getElem? (i := 574) (by decide +kernel)
theorem z_573 : (Jvm.Cond.eq (Jvm.Term.elem (Jvm.Term.field (Jvm.Term.string "SlotMat" (327 : Nat)) "java/lang/String" "value" "[B") (Jvm.Term.int (2 : Int32))) (Jvm.Term.int (116 : Int32))) ∈ am_nar := List.mem_of_getElem? (i := 575) (by decide +kernel)
theorem z_574 : (Jvm.Cond.eq (Jvm.Term.elem (Jvm.Term.field (Jvm.Term.string "SlotMat" (327 : Nat)) "java/lang/String" "value" "[B") (Jvm.Term.int (3 : Int32))) (Jvm.Term.int (104 : Int32))) ∈ am_nar := List.mem_of_getElem? (i := 576) (by decide +kernel)
theorem z_575 : (Jvm.Cond.eq (Jvm.Term.elem (Jvm.Term.field (Jvm.Term.string "SlotMat" (327 : Nat)) "java/lang/String" "value" "[B") (Jvm.Term.int (4 : Int32))) (Jvm.Term.int (32 : Int32))) ∈ am_nar := List.mem_of_getElem? (i := 577) (by decide +kernel)
theorem z_576 : (Jvm.Cond.eq (Jvm.Term.elem (Jvm.Term.field (Jvm.Term.string "SlotMat" (327 : Nat)) "java/lang/String" "value" "[B") (Jvm.Term.int (5 : Int32))) (Jvm.Term.int (97 : Int32))) ∈ am_nar := List.mem_of_getElem? (i := 578) (by decide +kernel)
theorem z_577 : (Jvm.Cond.eq (Jvm.Term.elem (Jvm.Term.field (Jvm.Term.string "SlotMat" (327 : Nat)) "java/lang/String" "value" "[B") (Jvm.Term.int (6 : Int32))) (Jvm.Term.int (114 : Int32))) ∈ am_nar := List.mem_of_getElem? (i := 579) (by decide +kernel)
theorem z_578 : (Jvm.Cond.eq (Jvm.Term.elem (Jvm.Term.field (Jvm.Term.string "SlotMat" (327 : Nat)) "java/lang/String" "value" "[B") (Jvm.Term.int (7 : Int32))) (Jvm.Term.int (101 : Int32))) ∈ am_nar := List.mem_of_getElem? (i := 580) (by decide +kernel)
theorem z_579 : (Jvm.Cond.eq (Jvm.Term.elem (Jvm.Term.field (Jvm.Term.string "SlotMat" (327 : Nat)) "java/lang/String" "value" "[B") (Jvm.Term.int (8 : Int32))) (Jvm.Term.int (32 : Int32))) ∈ am_nar := List.mem_of_getElem? (i := 581) (by decide +kernel)
theorem z_580 : (Jvm.Cond.eq (Jvm.Term.elem (Jvm.Term.field (Jvm.Term.string "SlotMat" (327 : Nat)) "java/lang/String" "value" "[B") (Jvm.Term.int (9 : Int32))) (Jvm.Term.int (111 : Int32))) ∈ am_nar := List.mem_of_getElem? (i := 582) (by decide +kernel)
theorem z_581 : (Jvm.Cond.eq (Jvm.Term.elem (Jvm.Term.field (Jvm.Term.string "SlotMat" (327 : Nat)) "java/lang/String" "value" "[B") (Jvm.Term.int (10 : Int32))) (Jvm.Term.int (110 : Int32))) ∈ am_nar := List.mem_of_getElem? (i := 583) (by decide +kernel)
theorem z_582 : (Jvm.Cond.eq (Jvm.Term.elem (Jvm.Term.field (Jvm.Term.string "SlotMat" (327 : Nat)) "java/lang/String" "value" "[B") (Jvm.Term.int (11 : Int32))) (Jvm.Term.int (101 : Int32))) ∈ am_nar := List.mem_of_getElem? (i := 584) (by decide +kernel)
theorem z_218 : (Jvm.Cond.eq (Jvm.Term.elem (Jvm.Term.static "SlotMat$RuleReader" "RANK" "[I") (Jvm.Term.int (0 : Int32))) (Jvm.Term.int (0 : Int32))) ∈ am_nar := List.mem_of_getElem? (i := 220) (by decide +kernel)
theorem z_219 : (Jvm.Cond.eq (Jvm.Term.elem (Jvm.Term.static "SlotMat$RuleReader" "RANK" "[I") (Jvm.Term.int (1 : Int32))) (Jvm.Term.int (1 : Int32))) ∈ am_nar := List.mem_of_getElem? (i := 221) (by decide +kernel)
theorem z_220 : (Jvm.Cond.eq (Jvm.Term.elem (Jvm.Term.static "SlotMat$RuleReader" "RANK" "[I") (Jvm.Term.int (2 : Int32))) (Jvm.Term.int (2 : Int32))) ∈ am_nar := List.mem_of_getElem? (i := 222) (by decide +kernel)
theorem z_221 : (Jvm.Cond.eq (Jvm.Term.elem (Jvm.Term.static "SlotMat$RuleReader" "RANK" "[I") (Jvm.Term.int (3 : Int32))) (Jvm.Term.int (3 : Int32))) ∈ am_nar := List.mem_of_getElem? (i := 223) (by decide +kernel)
theorem z_222 : (Jvm.Cond.eq (Jvm.Term.elem (Jvm.Term.static "SlotMat$RuleReader" "RANK" "[I") (Jvm.Term.int (4 : Int32))) (Jvm.Term.int (4 : Int32))) ∈ am_nar := List.mem_of_getElem? (i := 224) (by decide +kernel)
theorem z_223 : (Jvm.Cond.eq (Jvm.Term.elem (Jvm.Term.static "SlotMat$RuleReader" "RANK" "[I") (Jvm.Term.int (5 : Int32))) (Jvm.Term.int (4 : Int32))) ∈ am_nar := List.mem_of_getElem? (i := 225) (by decide +kernel)
theorem z_224 : (Jvm.Cond.eq (Jvm.Term.elem (Jvm.Term.static "SlotMat$RuleReader" "RANK" "[I") (Jvm.Term.int (6 : Int32))) (Jvm.Term.int (5 : Int32))) ∈ am_nar := List.mem_of_getElem? (i := 226) (by decide +kernel)
theorem z_225 : (Jvm.Cond.eq (Jvm.Term.elem (Jvm.Term.static "SlotMat$RuleReader" "RANK" "[I") (Jvm.Term.int (7 : Int32))) (Jvm.Term.int (5 : Int32))) ∈ am_nar := List.mem_of_getElem? (i := 227) (by decide +kernel)
theorem z_226 : (Jvm.Cond.eq (Jvm.Term.elem (Jvm.Term.static "SlotMat$RuleReader" "RANK" "[I") (Jvm.Term.int (8 : Int32))) (Jvm.Term.int (6 : Int32))) ∈ am_nar := List.mem_of_getElem? (i := 228) (by decide +kernel)
theorem z_227 : (Jvm.Cond.eq (Jvm.Term.elem (Jvm.Term.static "SlotMat$RuleReader" "RANK" "[I") (Jvm.Term.int (9 : Int32))) (Jvm.Term.int (6 : Int32))) ∈ am_nar := List.mem_of_getElem? (i := 229) (by decide +kernel)
theorem z_216 : (Jvm.Cond.arrayOf (Jvm.Term.static "SlotMat$RuleReader" "RANK" "[I") Jvm.ClassFile.FieldType.int) ∈ am_nar := List.mem_of_getElem? (i := 218) (by decide +kernel)
theorem z_217 : (Jvm.Cond.eq (Jvm.Term.length (Jvm.Term.static "SlotMat$RuleReader" "RANK" "[I")) (Jvm.Term.int (10 : Int32))) ∈ am_nar := List.mem_of_getElem? (i := 219) (by decide +kernel)
theorem z_4 : (Jvm.Cond.eq (Jvm.Term.static "java/lang/String" "COMPACT_STRINGS" "Z") (Jvm.Term.int (1 : Int32))) ∈ am_nar := List.mem_of_getElem? (i := 6) (by decide +kernel)
theorem z_5 : (Jvm.Cond.isRef (Jvm.Term.static "jdk/internal/util/Preconditions" "SIOOBE_FORMATTER" "Ljava/util/function/BiFunction;")) ∈ am_nar := List.mem_of_getElem? (i := 7) (by decide +kernel)
theorem z_2 : (Jvm.Cond.isRef (Jvm.Term.static "java/lang/Throwable" "UNASSIGNED_STACK" "[Ljava/lang/StackTraceElement;")) ∈ am_nar := List.mem_of_getElem? (i := 4) (by decide +kernel)
theorem z_3 : (Jvm.Cond.isRef (Jvm.Term.static "java/lang/Throwable" "SUPPRESSED_SENTINEL" "Ljava/util/List;")) ∈ am_nar := List.mem_of_getElem? (i := 5) (by decide +kernel)
theorem z_249 : (Jvm.Cond.not (Jvm.Cond.castable "java/lang/IllegalArgumentException" "java/util/NoSuchElementException")) ∈ am_nar := List.mem_of_getElem? (i := 251) (by decide +kernel)
theorem st_mk {args : Array Value} {s : State} {own tx : String} {k : Nat} {A : Nat → Prop} (hr : (Cond.stringRef own k tx).before args s = true) (hn : tx.length < 2 ^ 31) (hex : (Cond.exactly (.string own k) "java/lang/String").before args s = true) (hco : (Cond.eq (.field (.string own k) "java/lang/String" "coder" "B") (.int 0)).before args s = true)
    (har : (Cond.arrayOf (.field (.string own k) "java/lang/String" "value" "[B") .byte).before args s = true) (hle : (Cond.eq (.length (.field (.string own k) "java/lang/String" "value" "[B")) (.int (Int32.ofNat tx.length))).before args s = true)
    (hel : ∀ j : Nat, j < tx.length → (Cond.eq (.elem (.field (.string own k) "java/lang/String" "value" "[B") (.int (Int32.ofNat j))) (.int ((am_tb tx).getD j 0))).before args s = true) (hA : ∀ a : Nat, a < s.heap.size → ¬ A a) :
    ∃ a v : Nat, vk_R own k tx a s ∧ va_O "java/lang/String" a A s s.heap ∧ va_OF "java/lang/String" "coder" "B" (.int 0) a A s s.heap ∧ va_OF "java/lang/String" "value" "[B" (.ref v) a A s s.heap ∧ va_T .byte v tx.length (fun j => .int ((am_tb tx).getD j 0)) A s s.heap := by
  obtain ⟨adK, adV, h1, h2⟩ := vk_Sof (N := 1) (tm := fun _ => .string own k) (len := [tx.length]) (byt := [am_tb tx]) (A := A) (fun i hi => by cases i with | zero => exact hn | succ i => omega) (fun _ _ => hex) (fun _ _ => hco) (fun _ _ => har) (fun i hi => by cases i with | zero => exact hle | succ i => omega) (fun i hi j hj => by cases i with | zero => exact hel j hj | succ i => omega) (fun i j hi hj hij => absurd (by omega : i = j) hij) hA
  have h3 := h1.1 0 (by omega)
  have h4 := h2 0 (by omega)
  have hz : ∀ {t : Term} {B : Array Value}, t = .string own k → t.eval args s none [] s = t.eval B s none [] s := by
    intro t B ht
    rw [ht, Term.string_eval_of_vm (args := B) (args' := args) rfl]
  refine ⟨adK 0, adV 0, ⟨(by have h1 := hr; simp only [Cond.before, Cond.holds, Cond.value, State.names, State.poolOf?, State.resolvedAt?] at h1 ⊢; exact h1), ?_⟩, h3.1, h3.2.1, h3.2.2.1, h3.2.2.2⟩
  rw [← hz rfl]
  exact h4
theorem st_0 {args : Array Value} {s : State} {A : Nat → Prop} (hts : ∀ w ∈ lw_tbl, w.before args s = true) (hs : ∀ w ∈ am_nar, w.before args s = true) (hA : ∀ a : Nat, a < s.heap.size → ¬ A a) : ∃ a v : Nat, vk_R "SlotMat" 100 "the tape has not so many bytes" a s ∧ va_O "java/lang/String" a A s s.heap ∧ va_OF "java/lang/String" "coder" "B" (.int 0) a A s s.heap ∧ va_OF "java/lang/String" "value" "[B" (.ref v) a A s s.heap ∧ va_T .byte v "the tape has not so many bytes".length (fun j => .int ((am_tb "the tape has not so many bytes").getD j 0)) A s s.heap := by
  refine st_mk (hts _ (am_m4 110 rfl)) (by decide) (hs _ z_298) (hs _ z_299) (hs _ z_300) (hs _ z_301) (fun j hj => ?_) hA
  have hj2 : j < 30 := hj
  match j, hj2 with
  | 0, _ => exact hs _ z_302
  | 1, _ => exact hs _ z_303
  | 2, _ => exact hs _ z_304
  | 3, _ => exact hs _ z_305
  | 4, _ => exact hs _ z_306
  | 5, _ => exact hs _ z_307
  | 6, _ => exact hs _ z_308
  | 7, _ => exact hs _ z_309
  | 8, _ => exact hs _ z_310
  | 9, _ => exact hs _ z_311
  | 10, _ => exact hs _ z_312
  | 11, _ => exact hs _ z_313
  | 12, _ => exact hs _ z_314
  | 13, _ => exact hs _ z_315
  | 14, _ => exact hs _ z_316
  | 15, _ => exact hs _ z_317
  | 16, _ => exact hs _ z_318
  | 17, _ => exact hs _ z_319
  | 18, _ => exact hs _ z_320
  | 19, _ => exact hs _ z_321
  | 20, _ => exact hs _ z_322
  | 21, _ => exact hs _ z_323
  | 22, _ => exact hs _ z_324
  | 23, _ => exact hs _ z_325
  | 24, _ => exact hs _ z_326
  | 25, _ => exact hs _ z_327
  | 26, _ => exact hs _ z_328
  | 27, _ => exact hs _ z_329
  | 28, _ => exact hs _ z_330
  | 29, _ => exact hs _ z_331
  | j + 30, h => exact absurd h (by omega)
theorem st_1 {args : Array Value} {s : State} {A : Nat → Prop} (hts : ∀ w ∈ lw_tbl, w.before args s = true) (hs : ∀ w ∈ am_nar, w.before args s = true) (hA : ∀ a : Nat, a < s.heap.size → ¬ A a) : ∃ a v : Nat, vk_R "SlotMat$CityReader" 55 "box" a s ∧ va_O "java/lang/String" a A s s.heap ∧ va_OF "java/lang/String" "coder" "B" (.int 0) a A s s.heap ∧ va_OF "java/lang/String" "value" "[B" (.ref v) a A s s.heap ∧ va_T .byte v "box".length (fun j => .int ((am_tb "box").getD j 0)) A s s.heap := by
  refine st_mk (hts _ (am_m4 151 rfl)) (by decide) (hs _ z_332) (hs _ z_333) (hs _ z_334) (hs _ z_335) (fun j hj => ?_) hA
  have hj2 : j < 3 := hj
  match j, hj2 with
  | 0, _ => exact hs _ z_336
  | 1, _ => exact hs _ z_337
  | 2, _ => exact hs _ z_338
  | j + 3, h => exact absurd h (by omega)
theorem st_2 {args : Array Value} {s : State} {A : Nat → Prop} (hts : ∀ w ∈ lw_tbl, w.before args s = true) (hs : ∀ w ∈ am_nar, w.before args s = true) (hA : ∀ a : Nat, a < s.heap.size → ¬ A a) : ∃ a v : Nat, vk_R "SlotMat$CityReader" 64 "person" a s ∧ va_O "java/lang/String" a A s s.heap ∧ va_OF "java/lang/String" "coder" "B" (.int 0) a A s s.heap ∧ va_OF "java/lang/String" "value" "[B" (.ref v) a A s s.heap ∧ va_T .byte v "person".length (fun j => .int ((am_tb "person").getD j 0)) A s s.heap := by
  refine st_mk (hts _ (am_m4 199 rfl)) (by decide) (hs _ z_339) (hs _ z_340) (hs _ z_341) (hs _ z_342) (fun j hj => ?_) hA
  have hj2 : j < 6 := hj
  match j, hj2 with
  | 0, _ => exact hs _ z_343
  | 1, _ => exact hs _ z_344
  | 2, _ => exact hs _ z_345
  | 3, _ => exact hs _ z_346
  | 4, _ => exact hs _ z_347
  | 5, _ => exact hs _ z_348
  | j + 6, h => exact absurd h (by omega)
theorem st_3 {args : Array Value} {s : State} {A : Nat → Prop} (hts : ∀ w ∈ lw_tbl, w.before args s = true) (hs : ∀ w ∈ am_nar, w.before args s = true) (hA : ∀ a : Nat, a < s.heap.size → ¬ A a) : ∃ a v : Nat, vk_R "SlotMat$CityReader" 116 "at" a s ∧ va_O "java/lang/String" a A s s.heap ∧ va_OF "java/lang/String" "coder" "B" (.int 0) a A s s.heap ∧ va_OF "java/lang/String" "value" "[B" (.ref v) a A s s.heap ∧ va_T .byte v "at".length (fun j => .int ((am_tb "at").getD j 0)) A s s.heap := by
  refine st_mk (hts _ (am_m4 204 rfl)) (by decide) (hs _ z_349) (hs _ z_350) (hs _ z_351) (hs _ z_352) (fun j hj => ?_) hA
  have hj2 : j < 2 := hj
  match j, hj2 with
  | 0, _ => exact hs _ z_353
  | 1, _ => exact hs _ z_354
  | j + 2, h => exact absurd h (by omega)
theorem st_4 {args : Array Value} {s : State} {A : Nat → Prop} (hts : ∀ w ∈ lw_tbl, w.before args s = true) (hs : ∀ w ∈ am_nar, w.before args s = true) (hA : ∀ a : Nat, a < s.heap.size → ¬ A a) : ∃ a v : Nat, vk_R "SlotMat$CityReader" 69 "round" a s ∧ va_O "java/lang/String" a A s s.heap ∧ va_OF "java/lang/String" "coder" "B" (.int 0) a A s s.heap ∧ va_OF "java/lang/String" "value" "[B" (.ref v) a A s s.heap ∧ va_T .byte v "round".length (fun j => .int ((am_tb "round").getD j 0)) A s s.heap := by
  refine st_mk (hts _ (am_m4 213 rfl)) (by decide) (hs _ z_355) (hs _ z_356) (hs _ z_357) (hs _ z_358) (fun j hj => ?_) hA
  have hj2 : j < 5 := hj
  match j, hj2 with
  | 0, _ => exact hs _ z_359
  | 1, _ => exact hs _ z_360
  | 2, _ => exact hs _ z_361
  | 3, _ => exact hs _ z_362
  | 4, _ => exact hs _ z_363
  | j + 5, h => exact absurd h (by omega)
theorem st_5 {args : Array Value} {s : State} {A : Nat → Prop} (hts : ∀ w ∈ lw_tbl, w.before args s = true) (hs : ∀ w ∈ am_nar, w.before args s = true) (hA : ∀ a : Nat, a < s.heap.size → ¬ A a) : ∃ a v : Nat, vk_R "SlotMat$CityReader" 74 "wet" a s ∧ va_O "java/lang/String" a A s s.heap ∧ va_OF "java/lang/String" "coder" "B" (.int 0) a A s s.heap ∧ va_OF "java/lang/String" "value" "[B" (.ref v) a A s s.heap ∧ va_T .byte v "wet".length (fun j => .int ((am_tb "wet").getD j 0)) A s s.heap := by
  refine st_mk (hts _ (am_m4 230 rfl)) (by decide) (hs _ z_364) (hs _ z_365) (hs _ z_366) (hs _ z_367) (fun j hj => ?_) hA
  have hj2 : j < 3 := hj
  match j, hj2 with
  | 0, _ => exact hs _ z_368
  | 1, _ => exact hs _ z_369
  | 2, _ => exact hs _ z_370
  | j + 3, h => exact absurd h (by omega)
theorem st_6 {args : Array Value} {s : State} {A : Nat → Prop} (hts : ∀ w ∈ lw_tbl, w.before args s = true) (hs : ∀ w ∈ am_nar, w.before args s = true) (hA : ∀ a : Nat, a < s.heap.size → ¬ A a) : ∃ a v : Nat, vk_R "SlotMat$CityReader" 79 "thinks" a s ∧ va_O "java/lang/String" a A s s.heap ∧ va_OF "java/lang/String" "coder" "B" (.int 0) a A s s.heap ∧ va_OF "java/lang/String" "value" "[B" (.ref v) a A s s.heap ∧ va_T .byte v "thinks".length (fun j => .int ((am_tb "thinks").getD j 0)) A s s.heap := by
  refine st_mk (hts _ (am_m4 239 rfl)) (by decide) (hs _ z_371) (hs _ z_372) (hs _ z_373) (hs _ z_374) (fun j hj => ?_) hA
  have hj2 : j < 6 := hj
  match j, hj2 with
  | 0, _ => exact hs _ z_375
  | 1, _ => exact hs _ z_376
  | 2, _ => exact hs _ z_377
  | 3, _ => exact hs _ z_378
  | 4, _ => exact hs _ z_379
  | 5, _ => exact hs _ z_380
  | j + 6, h => exact absurd h (by omega)
theorem st_7 {args : Array Value} {s : State} {A : Nat → Prop} (hts : ∀ w ∈ lw_tbl, w.before args s = true) (hs : ∀ w ∈ am_nar, w.before args s = true) (hA : ∀ a : Nat, a < s.heap.size → ¬ A a) : ∃ a v : Nat, vk_R "SlotMat$RuleReader" 81 "not" a s ∧ va_O "java/lang/String" a A s s.heap ∧ va_OF "java/lang/String" "coder" "B" (.int 0) a A s s.heap ∧ va_OF "java/lang/String" "value" "[B" (.ref v) a A s s.heap ∧ va_T .byte v "not".length (fun j => .int ((am_tb "not").getD j 0)) A s s.heap := by
  refine st_mk (hts _ (am_m5 28 rfl)) (by decide) (hs _ z_381) (hs _ z_382) (hs _ z_383) (hs _ z_384) (fun j hj => ?_) hA
  have hj2 : j < 3 := hj
  match j, hj2 with
  | 0, _ => exact hs _ z_385
  | 1, _ => exact hs _ z_386
  | 2, _ => exact hs _ z_387
  | j + 3, h => exact absurd h (by omega)
theorem st_8 {args : Array Value} {s : State} {A : Nat → Prop} (hts : ∀ w ∈ lw_tbl, w.before args s = true) (hs : ∀ w ∈ am_nar, w.before args s = true) (hA : ∀ a : Nat, a < s.heap.size → ¬ A a) : ∃ a v : Nat, vk_R "SlotMat$RuleReader" 102 "pensive" a s ∧ va_O "java/lang/String" a A s s.heap ∧ va_OF "java/lang/String" "coder" "B" (.int 0) a A s s.heap ∧ va_OF "java/lang/String" "value" "[B" (.ref v) a A s s.heap ∧ va_T .byte v "pensive".length (fun j => .int ((am_tb "pensive").getD j 0)) A s s.heap := by
  refine st_mk (hts _ (am_m5 37 rfl)) (by decide) (hs _ z_388) (hs _ z_389) (hs _ z_390) (hs _ z_391) (fun j hj => ?_) hA
  have hj2 : j < 7 := hj
  match j, hj2 with
  | 0, _ => exact hs _ z_392
  | 1, _ => exact hs _ z_393
  | 2, _ => exact hs _ z_394
  | 3, _ => exact hs _ z_395
  | 4, _ => exact hs _ z_396
  | 5, _ => exact hs _ z_397
  | 6, _ => exact hs _ z_398
  | j + 7, h => exact absurd h (by omega)
theorem st_9 {args : Array Value} {s : State} {A : Nat → Prop} (hts : ∀ w ∈ lw_tbl, w.before args s = true) (hs : ∀ w ∈ am_nar, w.before args s = true) (hA : ∀ a : Nat, a < s.heap.size → ¬ A a) : ∃ a v : Nat, vk_R "SlotMat$RuleReader" 104 "regret" a s ∧ va_O "java/lang/String" a A s s.heap ∧ va_OF "java/lang/String" "coder" "B" (.int 0) a A s s.heap ∧ va_OF "java/lang/String" "value" "[B" (.ref v) a A s s.heap ∧ va_T .byte v "regret".length (fun j => .int ((am_tb "regret").getD j 0)) A s s.heap := by
  refine st_mk (hts _ (am_m5 38 rfl)) (by decide) (hs _ z_399) (hs _ z_400) (hs _ z_401) (hs _ z_402) (fun j hj => ?_) hA
  have hj2 : j < 6 := hj
  match j, hj2 with
  | 0, _ => exact hs _ z_403
  | 1, _ => exact hs _ z_404
  | 2, _ => exact hs _ z_405
  | 3, _ => exact hs _ z_406
  | 4, _ => exact hs _ z_407
  | 5, _ => exact hs _ z_408
  | j + 6, h => exact absurd h (by omega)
theorem st_10 {args : Array Value} {s : State} {A : Nat → Prop} (hts : ∀ w ∈ lw_tbl, w.before args s = true) (hs : ∀ w ∈ am_nar, w.before args s = true) (hA : ∀ a : Nat, a < s.heap.size → ¬ A a) : ∃ a v : Nat, vk_R "SlotMat$RuleReader" 106 "heard" a s ∧ va_O "java/lang/String" a A s s.heap ∧ va_OF "java/lang/String" "coder" "B" (.int 0) a A s s.heap ∧ va_OF "java/lang/String" "value" "[B" (.ref v) a A s s.heap ∧ va_T .byte v "heard".length (fun j => .int ((am_tb "heard").getD j 0)) A s s.heap := by
  refine st_mk (hts _ (am_m5 39 rfl)) (by decide) (hs _ z_409) (hs _ z_410) (hs _ z_411) (hs _ z_412) (fun j hj => ?_) hA
  have hj2 : j < 5 := hj
  match j, hj2 with
  | 0, _ => exact hs _ z_413
  | 1, _ => exact hs _ z_414
  | 2, _ => exact hs _ z_415
  | 3, _ => exact hs _ z_416
  | 4, _ => exact hs _ z_417
  | j + 5, h => exact absurd h (by omega)
theorem st_11 {args : Array Value} {s : State} {A : Nat → Prop} (hts : ∀ w ∈ lw_tbl, w.before args s = true) (hs : ∀ w ∈ am_nar, w.before args s = true) (hA : ∀ a : Nat, a < s.heap.size → ¬ A a) : ∃ a v : Nat, vk_R "SlotMat$RuleReader" 108 "red" a s ∧ va_O "java/lang/String" a A s s.heap ∧ va_OF "java/lang/String" "coder" "B" (.int 0) a A s s.heap ∧ va_OF "java/lang/String" "value" "[B" (.ref v) a A s s.heap ∧ va_T .byte v "red".length (fun j => .int ((am_tb "red").getD j 0)) A s s.heap := by
  refine st_mk (hts _ (am_m5 40 rfl)) (by decide) (hs _ z_418) (hs _ z_419) (hs _ z_420) (hs _ z_421) (fun j hj => ?_) hA
  have hj2 : j < 3 := hj
  match j, hj2 with
  | 0, _ => exact hs _ z_422
  | 1, _ => exact hs _ z_423
  | 2, _ => exact hs _ z_424
  | j + 3, h => exact absurd h (by omega)
theorem st_12 {args : Array Value} {s : State} {A : Nat → Prop} (hts : ∀ w ∈ lw_tbl, w.before args s = true) (hs : ∀ w ∈ am_nar, w.before args s = true) (hA : ∀ a : Nat, a < s.heap.size → ¬ A a) : ∃ a v : Nat, vk_R "SlotMat$RuleReader" 110 "held" a s ∧ va_O "java/lang/String" a A s s.heap ∧ va_OF "java/lang/String" "coder" "B" (.int 0) a A s s.heap ∧ va_OF "java/lang/String" "value" "[B" (.ref v) a A s s.heap ∧ va_T .byte v "held".length (fun j => .int ((am_tb "held").getD j 0)) A s s.heap := by
  refine st_mk (hts _ (am_m5 41 rfl)) (by decide) (hs _ z_425) (hs _ z_426) (hs _ z_427) (hs _ z_428) (fun j hj => ?_) hA
  have hj2 : j < 4 := hj
  match j, hj2 with
  | 0, _ => exact hs _ z_429
  | 1, _ => exact hs _ z_430
  | 2, _ => exact hs _ z_431
  | 3, _ => exact hs _ z_432
  | j + 4, h => exact absurd h (by omega)
theorem st_13 {args : Array Value} {s : State} {A : Nat → Prop} (hts : ∀ w ∈ lw_tbl, w.before args s = true) (hs : ∀ w ∈ am_nar, w.before args s = true) (hA : ∀ a : Nat, a < s.heap.size → ¬ A a) : ∃ a v : Nat, vk_R "SlotMat$RuleReader" 112 "day" a s ∧ va_O "java/lang/String" a A s s.heap ∧ va_OF "java/lang/String" "coder" "B" (.int 0) a A s s.heap ∧ va_OF "java/lang/String" "value" "[B" (.ref v) a A s s.heap ∧ va_T .byte v "day".length (fun j => .int ((am_tb "day").getD j 0)) A s s.heap := by
  refine st_mk (hts _ (am_m5 42 rfl)) (by decide) (hs _ z_433) (hs _ z_434) (hs _ z_435) (hs _ z_436) (fun j hj => ?_) hA
  have hj2 : j < 3 := hj
  match j, hj2 with
  | 0, _ => exact hs _ z_437
  | 1, _ => exact hs _ z_438
  | 2, _ => exact hs _ z_439
  | j + 3, h => exact absurd h (by omega)
theorem st_14 {args : Array Value} {s : State} {A : Nat → Prop} (hts : ∀ w ∈ lw_tbl, w.before args s = true) (hs : ∀ w ∈ am_nar, w.before args s = true) (hA : ∀ a : Nat, a < s.heap.size → ¬ A a) : ∃ a v : Nat, vk_R "SlotMat$RuleReader" 114 "much" a s ∧ va_O "java/lang/String" a A s s.heap ∧ va_OF "java/lang/String" "coder" "B" (.int 0) a A s s.heap ∧ va_OF "java/lang/String" "value" "[B" (.ref v) a A s s.heap ∧ va_T .byte v "much".length (fun j => .int ((am_tb "much").getD j 0)) A s s.heap := by
  refine st_mk (hts _ (am_m5 46 rfl)) (by decide) (hs _ z_440) (hs _ z_441) (hs _ z_442) (hs _ z_443) (fun j hj => ?_) hA
  have hj2 : j < 4 := hj
  match j, hj2 with
  | 0, _ => exact hs _ z_444
  | 1, _ => exact hs _ z_445
  | 2, _ => exact hs _ z_446
  | 3, _ => exact hs _ z_447
  | j + 4, h => exact absurd h (by omega)
theorem st_15 {args : Array Value} {s : State} {A : Nat → Prop} (hts : ∀ w ∈ lw_tbl, w.before args s = true) (hs : ∀ w ∈ am_nar, w.before args s = true) (hA : ∀ a : Nat, a < s.heap.size → ¬ A a) : ∃ a v : Nat, vk_R "SlotMat$RuleReader" 116 "far" a s ∧ va_O "java/lang/String" a A s s.heap ∧ va_OF "java/lang/String" "coder" "B" (.int 0) a A s s.heap ∧ va_OF "java/lang/String" "value" "[B" (.ref v) a A s s.heap ∧ va_T .byte v "far".length (fun j => .int ((am_tb "far").getD j 0)) A s s.heap := by
  refine st_mk (hts _ (am_m5 47 rfl)) (by decide) (hs _ z_448) (hs _ z_449) (hs _ z_450) (hs _ z_451) (fun j hj => ?_) hA
  have hj2 : j < 3 := hj
  match j, hj2 with
  | 0, _ => exact hs _ z_452
  | 1, _ => exact hs _ z_453
  | 2, _ => exact hs _ z_454
  | j + 3, h => exact absurd h (by omega)
theorem st_16 {args : Array Value} {s : State} {A : Nat → Prop} (hts : ∀ w ∈ lw_tbl, w.before args s = true) (hs : ∀ w ∈ am_nar, w.before args s = true) (hA : ∀ a : Nat, a < s.heap.size → ¬ A a) : ∃ a v : Nat, vk_R "SlotMat$RuleReader" 118 "wet" a s ∧ va_O "java/lang/String" a A s s.heap ∧ va_OF "java/lang/String" "coder" "B" (.int 0) a A s s.heap ∧ va_OF "java/lang/String" "value" "[B" (.ref v) a A s s.heap ∧ va_T .byte v "wet".length (fun j => .int ((am_tb "wet").getD j 0)) A s s.heap := by
  refine st_mk (hts _ (am_m5 48 rfl)) (by decide) (hs _ z_455) (hs _ z_456) (hs _ z_457) (hs _ z_458) (fun j hj => ?_) hA
  have hj2 : j < 3 := hj
  match j, hj2 with
  | 0, _ => exact hs _ z_459
  | 1, _ => exact hs _ z_460
  | 2, _ => exact hs _ z_461
  | j + 3, h => exact absurd h (by omega)
theorem st_17 {args : Array Value} {s : State} {A : Nat → Prop} (hts : ∀ w ∈ lw_tbl, w.before args s = true) (hs : ∀ w ∈ am_nar, w.before args s = true) (hA : ∀ a : Nat, a < s.heap.size → ¬ A a) : ∃ a v : Nat, vk_R "SlotMat$RuleReader" 135 "or" a s ∧ va_O "java/lang/String" a A s s.heap ∧ va_OF "java/lang/String" "coder" "B" (.int 0) a A s s.heap ∧ va_OF "java/lang/String" "value" "[B" (.ref v) a A s s.heap ∧ va_T .byte v "or".length (fun j => .int ((am_tb "or").getD j 0)) A s s.heap := by
  refine st_mk (hts _ (am_m5 60 rfl)) (by decide) (hs _ z_463) (hs _ z_464) (hs _ z_465) (hs _ z_466) (fun j hj => ?_) hA
  have hj2 : j < 2 := hj
  match j, hj2 with
  | 0, _ => exact hs _ z_467
  | 1, _ => exact hs _ z_468
  | j + 2, h => exact absurd h (by omega)
theorem st_18 {args : Array Value} {s : State} {A : Nat → Prop} (hts : ∀ w ∈ lw_tbl, w.before args s = true) (hs : ∀ w ∈ am_nar, w.before args s = true) (hA : ∀ a : Nat, a < s.heap.size → ¬ A a) : ∃ a v : Nat, vk_R "SlotMat$RuleReader" 137 "and" a s ∧ va_O "java/lang/String" a A s s.heap ∧ va_OF "java/lang/String" "coder" "B" (.int 0) a A s s.heap ∧ va_OF "java/lang/String" "value" "[B" (.ref v) a A s s.heap ∧ va_T .byte v "and".length (fun j => .int ((am_tb "and").getD j 0)) A s s.heap := by
  refine st_mk (hts _ (am_m5 61 rfl)) (by decide) (hs _ z_469) (hs _ z_470) (hs _ z_471) (hs _ z_472) (fun j hj => ?_) hA
  have hj2 : j < 3 := hj
  match j, hj2 with
  | 0, _ => exact hs _ z_473
  | 1, _ => exact hs _ z_474
  | 2, _ => exact hs _ z_475
  | j + 3, h => exact absurd h (by omega)
theorem st_19 {args : Array Value} {s : State} {A : Nat → Prop} (hts : ∀ w ∈ lw_tbl, w.before args s = true) (hs : ∀ w ∈ am_nar, w.before args s = true) (hA : ∀ a : Nat, a < s.heap.size → ¬ A a) : ∃ a v : Nat, vk_R "SlotMat$CityReader" 88 "sounds" a s ∧ va_O "java/lang/String" a A s s.heap ∧ va_OF "java/lang/String" "coder" "B" (.int 0) a A s s.heap ∧ va_OF "java/lang/String" "value" "[B" (.ref v) a A s s.heap ∧ va_T .byte v "sounds".length (fun j => .int ((am_tb "sounds").getD j 0)) A s s.heap := by
  refine st_mk (hts _ (am_m5 80 rfl)) (by decide) (hs _ z_476) (hs _ z_477) (hs _ z_478) (hs _ z_479) (fun j hj => ?_) hA
  have hj2 : j < 6 := hj
  match j, hj2 with
  | 0, _ => exact hs _ z_480
  | 1, _ => exact hs _ z_481
  | 2, _ => exact hs _ z_482
  | 3, _ => exact hs _ z_483
  | 4, _ => exact hs _ z_484
  | 5, _ => exact hs _ z_485
  | j + 6, h => exact absurd h (by omega)
theorem st_20 {args : Array Value} {s : State} {A : Nat → Prop} (hts : ∀ w ∈ lw_tbl, w.before args s = true) (hs : ∀ w ∈ am_nar, w.before args s = true) (hA : ∀ a : Nat, a < s.heap.size → ¬ A a) : ∃ a v : Nat, vk_R "SlotMat" 161 "no such what" a s ∧ va_O "java/lang/String" a A s s.heap ∧ va_OF "java/lang/String" "coder" "B" (.int 0) a A s s.heap ∧ va_OF "java/lang/String" "value" "[B" (.ref v) a A s s.heap ∧ va_T .byte v "no such what".length (fun j => .int ((am_tb "no such what").getD j 0)) A s s.heap := by
  refine st_mk (hts _ (am_m5 150 rfl)) (by decide) (hs _ z_486) (hs _ z_487) (hs _ z_488) (hs _ z_489) (fun j hj => ?_) hA
  have hj2 : j < 12 := hj
  match j, hj2 with
  | 0, _ => exact hs _ z_490
  | 1, _ => exact hs _ z_491
  | 2, _ => exact hs _ z_492
  | 3, _ => exact hs _ z_493
  | 4, _ => exact hs _ z_494
  | 5, _ => exact hs _ z_495
  | 6, _ => exact hs _ z_496
  | 7, _ => exact hs _ z_497
  | 8, _ => exact hs _ z_498
  | 9, _ => exact hs _ z_499
  | 10, _ => exact hs _ z_500
  | 11, _ => exact hs _ z_501
  | j + 12, h => exact absurd h (by omega)
theorem st_21 {args : Array Value} {s : State} {A : Nat → Prop} (hts : ∀ w ∈ lw_tbl, w.before args s = true) (hs : ∀ w ∈ am_nar, w.before args s = true) (hA : ∀ a : Nat, a < s.heap.size → ¬ A a) : ∃ a v : Nat, vk_R "SlotMat" 363 "no such box" a s ∧ va_O "java/lang/String" a A s s.heap ∧ va_OF "java/lang/String" "coder" "B" (.int 0) a A s s.heap ∧ va_OF "java/lang/String" "value" "[B" (.ref v) a A s s.heap ∧ va_T .byte v "no such box".length (fun j => .int ((am_tb "no such box").getD j 0)) A s s.heap := by
  refine st_mk (hts _ (am_m5 168 rfl)) (by decide) (hs _ z_502) (hs _ z_503) (hs _ z_504) (hs _ z_505) (fun j hj => ?_) hA
  have hj2 : j < 11 := hj
  match j, hj2 with
  | 0, _ => exact hs _ z_506
  | 1, _ => exact hs _ z_507
  | 2, _ => exact hs _ z_508
  | 3, _ => exact hs _ z_509
  | 4, _ => exact hs _ z_510
  | 5, _ => exact hs _ z_511
  | 6, _ => exact hs _ z_512
  | 7, _ => exact hs _ z_513
  | 8, _ => exact hs _ z_514
  | 9, _ => exact hs _ z_515
  | 10, _ => exact hs _ z_516
  | j + 11, h => exact absurd h (by omega)
theorem st_22 {args : Array Value} {s : State} {A : Nat → Prop} (hts : ∀ w ∈ lw_tbl, w.before args s = true) (hs : ∀ w ∈ am_nar, w.before args s = true) (hA : ∀ a : Nat, a < s.heap.size → ¬ A a) : ∃ a v : Nat, vk_R "SlotMat" 365 "no such person" a s ∧ va_O "java/lang/String" a A s s.heap ∧ va_OF "java/lang/String" "coder" "B" (.int 0) a A s s.heap ∧ va_OF "java/lang/String" "value" "[B" (.ref v) a A s s.heap ∧ va_T .byte v "no such person".length (fun j => .int ((am_tb "no such person").getD j 0)) A s s.heap := by
  refine st_mk (hts _ (am_m5 190 rfl)) (by decide) (hs _ z_517) (hs _ z_518) (hs _ z_519) (hs _ z_520) (fun j hj => ?_) hA
  have hj2 : j < 14 := hj
  match j, hj2 with
  | 0, _ => exact hs _ z_521
  | 1, _ => exact hs _ z_522
  | 2, _ => exact hs _ z_523
  | 3, _ => exact hs _ z_524
  | 4, _ => exact hs _ z_525
  | 5, _ => exact hs _ z_526
  | 6, _ => exact hs _ z_527
  | 7, _ => exact hs _ z_528
  | 8, _ => exact hs _ z_529
  | 9, _ => exact hs _ z_530
  | 10, _ => exact hs _ z_531
  | 11, _ => exact hs _ z_532
  | 12, _ => exact hs _ z_533
  | 13, _ => exact hs _ z_534
  | j + 14, h => exact absurd h (by omega)
theorem st_23 {args : Array Value} {s : State} {A : Nat → Prop} (hts : ∀ w ∈ lw_tbl, w.before args s = true) (hs : ∀ w ∈ am_nar, w.before args s = true) (hA : ∀ a : Nat, a < s.heap.size → ¬ A a) : ∃ a v : Nat, vk_R "SlotMat" 367 "a number is out of its range" a s ∧ va_O "java/lang/String" a A s s.heap ∧ va_OF "java/lang/String" "coder" "B" (.int 0) a A s s.heap ∧ va_OF "java/lang/String" "value" "[B" (.ref v) a A s s.heap ∧ va_T .byte v "a number is out of its range".length (fun j => .int ((am_tb "a number is out of its range").getD j 0)) A s s.heap := by
  refine st_mk (hts _ (am_m6 14 rfl)) (by decide) (hs _ z_535) (hs _ z_536) (hs _ z_537) (hs _ z_538) (fun j hj => ?_) hA
  have hj2 : j < 28 := hj
  match j, hj2 with
  | 0, _ => exact hs _ z_539
  | 1, _ => exact hs _ z_540
  | 2, _ => exact hs _ z_541
  | 3, _ => exact hs _ z_542
  | 4, _ => exact hs _ z_543
  | 5, _ => exact hs _ z_544
  | 6, _ => exact hs _ z_545
  | 7, _ => exact hs _ z_546
  | 8, _ => exact hs _ z_547
  | 9, _ => exact hs _ z_548
  | 10, _ => exact hs _ z_549
  | 11, _ => exact hs _ z_550
  | 12, _ => exact hs _ z_551
  | 13, _ => exact hs _ z_552
  | 14, _ => exact hs _ z_553
  | 15, _ => exact hs _ z_554
  | 16, _ => exact hs _ z_555
  | 17, _ => exact hs _ z_556
  | 18, _ => exact hs _ z_557
  | 19, _ => exact hs _ z_558
  | 20, _ => exact hs _ z_559
  | 21, _ => exact hs _ z_560
  | 22, _ => exact hs _ z_561
  | 23, _ => exact hs _ z_562
  | 24, _ => exact hs _ z_563
  | 25, _ => exact hs _ z_564
  | 26, _ => exact hs _ z_565
  | 27, _ => exact hs _ z_566
  | j + 28, h => exact absurd h (by omega)
theorem st_24 {args : Array Value} {s : State} {A : Nat → Prop} (hts : ∀ w ∈ lw_tbl, w.before args s = true) (hs : ∀ w ∈ am_nar, w.before args s = true) (hA : ∀ a : Nat, a < s.heap.size → ¬ A a) : ∃ a v : Nat, vk_R "SlotMat" 327 "both are one" a s ∧ va_O "java/lang/String" a A s s.heap ∧ va_OF "java/lang/String" "coder" "B" (.int 0) a A s s.heap ∧ va_OF "java/lang/String" "value" "[B" (.ref v) a A s s.heap ∧ va_T .byte v "both are one".length (fun j => .int ((am_tb "both are one").getD j 0)) A s s.heap := by
  refine st_mk (hts _ (am_m6 232 rfl)) (by decide) (hs _ z_567) (hs _ z_568) (hs _ z_569) (hs _ z_570) (fun j hj => ?_) hA
  have hj2 : j < 12 := hj
  match j, hj2 with
  | 0, _ => exact hs _ z_571
  | 1, _ => exact hs _ z_572
  | 2, _ => exact hs _ z_573
  | 3, _ => exact hs _ z_574
  | 4, _ => exact hs _ z_575
  | 5, _ => exact hs _ z_576
  | 6, _ => exact hs _ z_577
  | 7, _ => exact hs _ z_578
  | 8, _ => exact hs _ z_579
  | 9, _ => exact hs _ z_580
  | 10, _ => exact hs _ z_581
  | 11, _ => exact hs _ z_582
  | j + 12, h => exact absurd h (by omega)
theorem st_all {args : Array Value} {s : State} {A : Nat → Prop} (hts : ∀ w ∈ lw_tbl, w.before args s = true) (hs : ∀ w ∈ am_nar, w.before args s = true) (hA : ∀ a : Nat, a < s.heap.size → ¬ A a) : ∀ (i : Nat) (t : String × Nat × String), am_strs[i]? = some t → ∃ a v : Nat, vk_R t.1 t.2.1 t.2.2 a s ∧ va_O "java/lang/String" a A s s.heap ∧ va_OF "java/lang/String" "coder" "B" (.int 0) a A s s.heap ∧ va_OF "java/lang/String" "value" "[B" (.ref v) a A s s.heap ∧ va_T .byte v t.2.2.length (fun j => .int ((am_tb t.2.2).getD j 0)) A s s.heap := by
  intro i t ht
  match i, ht with
  | 0, ht => cases ht; exact st_0 hts hs hA
  | 1, ht => cases ht; exact st_1 hts hs hA
  | 2, ht => cases ht; exact st_2 hts hs hA
  | 3, ht => cases ht; exact st_3 hts hs hA
  | 4, ht => cases ht; exact st_4 hts hs hA
  | 5, ht => cases ht; exact st_5 hts hs hA
  | 6, ht => cases ht; exact st_6 hts hs hA
  | 7, ht => cases ht; exact st_7 hts hs hA
  | 8, ht => cases ht; exact st_8 hts hs hA
  | 9, ht => cases ht; exact st_9 hts hs hA
  | 10, ht => cases ht; exact st_10 hts hs hA
  | 11, ht => cases ht; exact st_11 hts hs hA
  | 12, ht => cases ht; exact st_12 hts hs hA
  | 13, ht => cases ht; exact st_13 hts hs hA
  | 14, ht => cases ht; exact st_14 hts hs hA
  | 15, ht => cases ht; exact st_15 hts hs hA
  | 16, ht => cases ht; exact st_16 hts hs hA
  | 17, ht => cases ht; exact st_17 hts hs hA
  | 18, ht => cases ht; exact st_18 hts hs hA
  | 19, ht => cases ht; exact st_19 hts hs hA
  | 20, ht => cases ht; exact st_20 hts hs hA
  | 21, ht => cases ht; exact st_21 hts hs hA
  | 22, ht => cases ht; exact st_22 hts hs hA
  | 23, ht => cases ht; exact st_23 hts hs hA
  | 24, ht => cases ht; exact st_24 hts hs hA
  | i + 25, ht => exact absurd ht (by simp [am_strs])
theorem ar_p {args : Array Value} {s : State} {ty : FieldType} (hty : ∀ C, ty ≠ .object C) (h : (Cond.arrayClass ty).before args s = true) : ∃ c : ClassId, ArrOfT s c ty ∧ va_RA s c ty := by
  obtain ⟨c, k, comp, h1, h2, h3⟩ := Cond.arrayClass_spec h
  refine ⟨c, fun n z => ⟨fun k h => (by cases h), k, h2, comp, h3⟩, ?_⟩
  cases ty with
  | object C => exact absurd rfl (hty C)
  | _ => exact h1
theorem ar_q {args : Array Value} {s : State} {C : String} (h : (Cond.arrayOver (.object C)).before args s = true) : ∃ c : ClassId, ArrOfT s c (.object C) ∧ va_RA s c (.object C) := by
  obtain ⟨comp, c, k, h1, -, h2, h3, h4⟩ := Cond.arrayOver_spec h
  exact ⟨c, fun n z => ⟨fun k h => (by cases h), k, h2, comp, h3⟩, k, comp, h2, h3, h1, h4⟩
