-- written by wip/whole/gen2.py: words by their places, the classes and their fields, the methods
theorem fa_c {α : Type} {P : α → Prop} {a : α} {l : List α} (h : P a) (hl : ∀ e ∈ l, P e) : ∀ e ∈ a :: l, P e := fun e he => (List.mem_cons.mp he).elim (fun q => by rw [q]; exact h) (hl e)
set_option maxRecDepth 20000 in
theorem w_344 : Cond.code yX0_empty cX0_empty 1 (none) ∈ tW := tW_in (List.mem_of_getElem? (i := 344) rfl) rfl
set_option maxRecDepth 20000 in
theorem w_48 : Cond.initialized "LooseHeap$Benches" ∈ tW := tW_in (List.mem_of_getElem? (i := 48) (by decide +kernel)) (by decide +kernel)
set_option maxRecDepth 20000 in
theorem w_611 : Cond.code yX0_copyFrom cX0_copyFrom 2 (none) ∈ tW := tW_in (List.mem_of_getElem? (i := 611) rfl) rfl
set_option maxRecDepth 20000 in
theorem w_491 : Cond.code yX0_sitter cX0_sitter 3 (some .int) ∈ tW := tW_in (List.mem_of_getElem? (i := 491) rfl) rfl
set_option maxRecDepth 20000 in
theorem w_487 : Cond.code yX0_seat cX0_seat 6 (some .int) ∈ tW := tW_in (List.mem_of_getElem? (i := 487) rfl) rfl
set_option maxRecDepth 20000 in
theorem w_450 : Cond.code yX1_bitsOf cX1_bitsOf 12 (some .long) ∈ tW := tW_in (List.mem_of_getElem? (i := 450) rfl) rfl
set_option maxRecDepth 20000 in
theorem w_55 : Cond.initialized "LooseHeap$Floats" ∈ tW := tW_in (List.mem_of_getElem? (i := 55) (by decide +kernel)) (by decide +kernel)
set_option maxRecDepth 20000 in
theorem w_340 : Cond.code yX2_empty cX2_empty 1 (none) ∈ tW := tW_in (List.mem_of_getElem? (i := 340) rfl) rfl
set_option maxRecDepth 20000 in
theorem w_47 : Cond.initialized "LooseHeap$Heap" ∈ tW := tW_in (List.mem_of_getElem? (i := 47) (by decide +kernel)) (by decide +kernel)
set_option maxRecDepth 20000 in
theorem w_604 : Cond.code yX2_copyFrom cX2_copyFrom 4 (none) ∈ tW := tW_in (List.mem_of_getElem? (i := 604) rfl) rfl
set_option maxRecDepth 20000 in
theorem w_226 : Cond.code yX2_hasRoom cX2_hasRoom 1 (some .boolean) ∈ tW := tW_in (List.mem_of_getElem? (i := 226) rfl) rfl
set_option maxRecDepth 20000 in
theorem w_241 : Cond.code yX2_has cX2_has 2 (some .boolean) ∈ tW := tW_in (List.mem_of_getElem? (i := 241) rfl) rfl
set_option maxRecDepth 20000 in
theorem w_231 : Cond.code yX2_add cX2_add 4 (some .int) ∈ tW := tW_in (List.mem_of_getElem? (i := 231) rfl) rfl
set_option maxRecDepth 20000 in
theorem w_255 : Cond.code yX2_lowerTo cX2_lowerTo 3 (none) ∈ tW := tW_in (List.mem_of_getElem? (i := 255) rfl) rfl
set_option maxRecDepth 20000 in
theorem w_307 : Cond.code yX2_takeOut cX2_takeOut 2 (none) ∈ tW := tW_in (List.mem_of_getElem? (i := 307) rfl) rfl
set_option maxRecDepth 20000 in
theorem w_315 : Cond.code yX2_joinAll cX2_joinAll 3 (some .int) ∈ tW := tW_in (List.mem_of_getElem? (i := 315) rfl) rfl
set_option maxRecDepth 20000 in
theorem w_263 : Cond.code yX2_settleAll cX2_settleAll 2 (none) ∈ tW := tW_in (List.mem_of_getElem? (i := 263) rfl) rfl
set_option maxRecDepth 20000 in
theorem w_267 : Cond.code yX2_findPair cX2_findPair 5 (some .boolean) ∈ tW := tW_in (List.mem_of_getElem? (i := 267) rfl) rfl
set_option maxRecDepth 20000 in
theorem w_288 : Cond.code yX2_linkTwo cX2_linkTwo 6 (none) ∈ tW := tW_in (List.mem_of_getElem? (i := 288) rfl) rfl
set_option maxRecDepth 20000 in
theorem w_276 : Cond.code yX2_cutOff cX2_cutOff 4 (none) ∈ tW := tW_in (List.mem_of_getElem? (i := 276) rfl) rfl
set_option maxRecDepth 20000 in
theorem w_311 : Cond.code yX2_freeChildren cX2_freeChildren 5 (none) ∈ tW := tW_in (List.mem_of_getElem? (i := 311) rfl) rfl
set_option maxRecDepth 20000 in
theorem w_284 : Cond.code yX2_makeRoot cX2_makeRoot 2 (none) ∈ tW := tW_in (List.mem_of_getElem? (i := 284) rfl) rfl
set_option maxRecDepth 20000 in
theorem w_280 : Cond.code yX2_besideBefore cX2_besideBefore 6 (some .int) ∈ tW := tW_in (List.mem_of_getElem? (i := 280) rfl) rfl
set_option maxRecDepth 20000 in
theorem w_259 : Cond.code yX2_isSooner cX2_isSooner 3 (some .boolean) ∈ tW := tW_in (List.mem_of_getElem? (i := 259) rfl) rfl
set_option maxRecDepth 20000 in
theorem w_272 : Cond.code yX2_isRoot cX2_isRoot 2 (some .boolean) ∈ tW := tW_in (List.mem_of_getElem? (i := 272) rfl) rfl
set_option maxRecDepth 20000 in
theorem w_336 : Cond.code yX2_count cX2_count 1 (some .int) ∈ tW := tW_in (List.mem_of_getElem? (i := 336) rfl) rfl
set_option maxRecDepth 20000 in
theorem w_402 : Cond.code yX2_links cX2_links 1 (some .int) ∈ tW := tW_in (List.mem_of_getElem? (i := 402) rfl) rfl
set_option maxRecDepth 20000 in
theorem w_406 : Cond.code yX2_cuts cX2_cuts 1 (some .int) ∈ tW := tW_in (List.mem_of_getElem? (i := 406) rfl) rfl
set_option maxRecDepth 20000 in
theorem w_430 : Cond.code yX2_kindOf cX2_kindOf 2 (some .int) ∈ tW := tW_in (List.mem_of_getElem? (i := 430) rfl) rfl
set_option maxRecDepth 20000 in
theorem w_250 : Cond.code yX2_keyOf cX2_keyOf 2 (some .int) ∈ tW := tW_in (List.mem_of_getElem? (i := 250) rfl) rfl
set_option maxRecDepth 20000 in
theorem w_434 : Cond.code yX2_aboveOf cX2_aboveOf 2 (some .int) ∈ tW := tW_in (List.mem_of_getElem? (i := 434) rfl) rfl
set_option maxRecDepth 20000 in
theorem w_438 : Cond.code yX2_rankOf cX2_rankOf 2 (some .int) ∈ tW := tW_in (List.mem_of_getElem? (i := 438) rfl) rfl
set_option maxRecDepth 20000 in
theorem w_246 : Cond.code yX2_isStanding cX2_isStanding 2 (some .boolean) ∈ tW := tW_in (List.mem_of_getElem? (i := 246) rfl) rfl
set_option maxRecDepth 20000 in
theorem w_292 : Cond.code yX2_isLoose cX2_isLoose 2 (some .boolean) ∈ tW := tW_in (List.mem_of_getElem? (i := 292) rfl) rfl
set_option maxRecDepth 20000 in
theorem w_303 : Cond.code yX2_soonest cX2_soonest 3 (some .int) ∈ tW := tW_in (List.mem_of_getElem? (i := 303) rfl) rfl
set_option maxRecDepth 20000 in
theorem w_323 : Cond.code yX2_standingCount cX2_standingCount 3 (some .int) ∈ tW := tW_in (List.mem_of_getElem? (i := 323) rfl) rfl
set_option maxRecDepth 20000 in
theorem w_375 : Cond.code yX2_standingAt cX2_standingAt 4 (some .int) ∈ tW := tW_in (List.mem_of_getElem? (i := 375) rfl) rfl
set_option maxRecDepth 20000 in
theorem w_387 : Cond.code yX2_rootCount cX2_rootCount 3 (some .int) ∈ tW := tW_in (List.mem_of_getElem? (i := 387) rfl) rfl
set_option maxRecDepth 20000 in
theorem w_391 : Cond.code yX2_looseCount cX2_looseCount 3 (some .int) ∈ tW := tW_in (List.mem_of_getElem? (i := 391) rfl) rfl
set_option maxRecDepth 20000 in
theorem w_469 : Cond.code yX2_looseOfRank cX2_looseOfRank 3 (some .int) ∈ tW := tW_in (List.mem_of_getElem? (i := 469) rfl) rfl
set_option maxRecDepth 20000 in
theorem w_395 : Cond.code yX2_greatestRank cX2_greatestRank 3 (some .int) ∈ tW := tW_in (List.mem_of_getElem? (i := 395) rfl) rfl
set_option maxRecDepth 20000 in
theorem w_410 : Cond.code yX2_longestRow cX2_longestRow 3 (some .int) ∈ tW := tW_in (List.mem_of_getElem? (i := 410) rfl) rfl
set_option maxRecDepth 20000 in
theorem w_414 : Cond.code yX2_depthOf cX2_depthOf 4 (some .int) ∈ tW := tW_in (List.mem_of_getElem? (i := 414) rfl) rfl
set_option maxRecDepth 20000 in
theorem w_443 : Cond.code yX2_sizeOf cX2_sizeOf 4 (some .int) ∈ tW := tW_in (List.mem_of_getElem? (i := 443) rfl) rfl
set_option maxRecDepth 20000 in
theorem w_447 : Cond.code yX2_isWithin cX2_isWithin 5 (some .boolean) ∈ tW := tW_in (List.mem_of_getElem? (i := 447) rfl) rfl
set_option maxRecDepth 20000 in
theorem w_461 : Cond.code yX2_childAt cX2_childAt 5 (some .int) ∈ tW := tW_in (List.mem_of_getElem? (i := 461) rfl) rfl
set_option maxRecDepth 20000 in
theorem w_477 : Cond.code yX2_sumOfKeys cX2_sumOfKeys 3 (some .int) ∈ tW := tW_in (List.mem_of_getElem? (i := 477) rfl) rfl
set_option maxRecDepth 20000 in
theorem w_622 : Cond.code yX3_isKept cX3_isKept 1 (some .boolean) ∈ tW := tW_in (List.mem_of_getElem? (i := 622) rfl) rfl
set_option maxRecDepth 20000 in
theorem w_52 : Cond.initialized "LooseHeap$Image" ∈ tW := tW_in (List.mem_of_getElem? (i := 52) (by decide +kernel)) (by decide +kernel)
set_option maxRecDepth 20000 in
theorem w_600 : Cond.code yX3_store cX3_store 3 (none) ∈ tW := tW_in (List.mem_of_getElem? (i := 600) rfl) rfl
set_option maxRecDepth 20000 in
theorem w_626 : Cond.code yX3_restore cX3_restore 3 (none) ∈ tW := tW_in (List.mem_of_getElem? (i := 626) rfl) rfl
set_option maxRecDepth 20000 in
theorem w_353 : Cond.code yX4_begin cX4_begin 2 (none) ∈ tW := tW_in (List.mem_of_getElem? (i := 353) rfl) rfl
set_option maxRecDepth 20000 in
theorem w_51 : Cond.initialized "LooseHeap$Lots" ∈ tW := tW_in (List.mem_of_getElem? (i := 51) (by decide +kernel)) (by decide +kernel)
set_option maxRecDepth 20000 in
theorem w_361 : Cond.code yX4_draw cX4_draw 2 (some .int) ∈ tW := tW_in (List.mem_of_getElem? (i := 361) rfl) rfl
set_option maxRecDepth 20000 in
theorem w_504 : Cond.code yX5_layOut cX5_layOut 2 (none) ∈ tW := tW_in (List.mem_of_getElem? (i := 504) rfl) rfl
set_option maxRecDepth 20000 in
theorem w_50 : Cond.initialized "LooseHeap$Roads" ∈ tW := tW_in (List.mem_of_getElem? (i := 50) (by decide +kernel)) (by decide +kernel)
set_option maxRecDepth 20000 in
theorem w_516 : Cond.code yX5_hasRoom cX5_hasRoom 1 (some .boolean) ∈ tW := tW_in (List.mem_of_getElem? (i := 516) rfl) rfl
set_option maxRecDepth 20000 in
theorem w_512 : Cond.code yX5_hasPlace cX5_hasPlace 2 (some .boolean) ∈ tW := tW_in (List.mem_of_getElem? (i := 512) rfl) rfl
set_option maxRecDepth 20000 in
theorem w_520 : Cond.code yX5_add cX5_add 5 (some .int) ∈ tW := tW_in (List.mem_of_getElem? (i := 520) rfl) rfl
set_option maxRecDepth 20000 in
theorem w_418 : Cond.code yX5_places cX5_places 1 (some .int) ∈ tW := tW_in (List.mem_of_getElem? (i := 418) rfl) rfl
set_option maxRecDepth 20000 in
theorem w_422 : Cond.code yX5_count cX5_count 1 (some .int) ∈ tW := tW_in (List.mem_of_getElem? (i := 422) rfl) rfl
set_option maxRecDepth 20000 in
theorem w_530 : Cond.code yX5_grow cX5_grow 5 (none) ∈ tW := tW_in (List.mem_of_getElem? (i := 530) rfl) rfl
set_option maxRecDepth 20000 in
theorem w_534 : Cond.code yX5_begin cX5_begin 3 (none) ∈ tW := tW_in (List.mem_of_getElem? (i := 534) rfl) rfl
set_option maxRecDepth 20000 in
theorem w_548 : Cond.code yX5_spread cX5_spread 6 (none) ∈ tW := tW_in (List.mem_of_getElem? (i := 548) rfl) rfl
set_option maxRecDepth 20000 in
theorem w_552 : Cond.code yX5_acrossFrom cX5_acrossFrom 3 (some .int) ∈ tW := tW_in (List.mem_of_getElem? (i := 552) rfl) rfl
set_option maxRecDepth 20000 in
theorem w_543 : Cond.code yX5_isReached cX5_isReached 2 (some .boolean) ∈ tW := tW_in (List.mem_of_getElem? (i := 543) rfl) rfl
set_option maxRecDepth 20000 in
theorem w_558 : Cond.code yX5_weightOfTree cX5_weightOfTree 3 (some .int) ∈ tW := tW_in (List.mem_of_getElem? (i := 558) rfl) rfl
set_option maxRecDepth 20000 in
theorem w_562 : Cond.code yX5_roadsOfTree cX5_roadsOfTree 3 (some .int) ∈ tW := tW_in (List.mem_of_getElem? (i := 562) rfl) rfl
set_option maxRecDepth 20000 in
theorem w_566 : Cond.code yX5_links cX5_links 1 (some .int) ∈ tW := tW_in (List.mem_of_getElem? (i := 566) rfl) rfl
set_option maxRecDepth 20000 in
theorem w_571 : Cond.code yX5_cuts cX5_cuts 1 (some .int) ∈ tW := tW_in (List.mem_of_getElem? (i := 571) rfl) rfl
set_option maxRecDepth 20000 in
theorem w_576 : Cond.code yX5_lowerings cX5_lowerings 1 (some .int) ∈ tW := tW_in (List.mem_of_getElem? (i := 576) rfl) rfl
set_option maxRecDepth 20000 in
theorem w_584 : Cond.code yX5_distanceTo cX5_distanceTo 2 (some .int) ∈ tW := tW_in (List.mem_of_getElem? (i := 584) rfl) rfl
set_option maxRecDepth 20000 in
theorem w_592 : Cond.code yX5_reachedCount cX5_reachedCount 3 (some .int) ∈ tW := tW_in (List.mem_of_getElem? (i := 592) rfl) rfl
set_option maxRecDepth 20000 in
theorem w_215 : Cond.code yX6_put cX6_put 3 (some .int) ∈ tW := tW_in (List.mem_of_getElem? (i := 215) rfl) rfl
set_option maxRecDepth 20000 in
theorem w_46 : Cond.initialized "LooseHeap" ∈ tW := tW_in (List.mem_of_getElem? (i := 46) (by decide +kernel)) (by decide +kernel)
set_option maxRecDepth 20000 in
theorem w_237 : Cond.code yX6_lower cX6_lower 3 (some .int) ∈ tW := tW_in (List.mem_of_getElem? (i := 237) rfl) rfl
set_option maxRecDepth 20000 in
theorem w_299 : Cond.code yX6_take cX6_take 2 (some .int) ∈ tW := tW_in (List.mem_of_getElem? (i := 299) rfl) rfl
set_option maxRecDepth 20000 in
theorem w_319 : Cond.code yX6_drop cX6_drop 2 (some .int) ∈ tW := tW_in (List.mem_of_getElem? (i := 319) rfl) rfl
set_option maxRecDepth 20000 in
theorem w_327 : Cond.code yX6_join cX6_join 1 (some .int) ∈ tW := tW_in (List.mem_of_getElem? (i := 327) rfl) rfl
set_option maxRecDepth 20000 in
theorem w_332 : Cond.code yX6_clear cX6_clear 2 (some .int) ∈ tW := tW_in (List.mem_of_getElem? (i := 332) rfl) rfl
set_option maxRecDepth 20000 in
theorem w_348 : Cond.code yX6_drift cX6_drift 4 (some .int) ∈ tW := tW_in (List.mem_of_getElem? (i := 348) rfl) rfl
set_option maxRecDepth 20000 in
theorem w_383 : Cond.code yX6_told cX6_told 2 (some .int) ∈ tW := tW_in (List.mem_of_getElem? (i := 383) rfl) rfl
set_option maxRecDepth 20000 in
theorem w_426 : Cond.code yX6_job cX6_job 3 (some .int) ∈ tW := tW_in (List.mem_of_getElem? (i := 426) rfl) rfl
set_option maxRecDepth 20000 in
theorem w_457 : Cond.code yX6_child cX6_child 3 (some .int) ∈ tW := tW_in (List.mem_of_getElem? (i := 457) rfl) rfl
set_option maxRecDepth 20000 in
theorem w_465 : Cond.code yX6_loose cX6_loose 2 (some .int) ∈ tW := tW_in (List.mem_of_getElem? (i := 465) rfl) rfl
set_option maxRecDepth 20000 in
theorem w_473 : Cond.code yX6_bits cX6_bits 1 (some .long) ∈ tW := tW_in (List.mem_of_getElem? (i := 473) rfl) rfl
set_option maxRecDepth 20000 in
theorem w_481 : Cond.code yX6_sit cX6_sit 4 (some .int) ∈ tW := tW_in (List.mem_of_getElem? (i := 481) rfl) rfl
set_option maxRecDepth 20000 in
theorem w_495 : Cond.code yX6_sits cX6_sits 3 (some .int) ∈ tW := tW_in (List.mem_of_getElem? (i := 495) rfl) rfl
set_option maxRecDepth 20000 in
theorem w_500 : Cond.code yX6_net cX6_net 3 (some .int) ∈ tW := tW_in (List.mem_of_getElem? (i := 500) rfl) rfl
set_option maxRecDepth 20000 in
theorem w_508 : Cond.code yX6_road cX6_road 4 (some .int) ∈ tW := tW_in (List.mem_of_getElem? (i := 508) rfl) rfl
set_option maxRecDepth 20000 in
theorem w_526 : Cond.code yX6_tree cX6_tree 3 (some .int) ∈ tW := tW_in (List.mem_of_getElem? (i := 526) rfl) rfl
set_option maxRecDepth 20000 in
theorem w_580 : Cond.code yX6_way cX6_way 3 (some .int) ∈ tW := tW_in (List.mem_of_getElem? (i := 580) rfl) rfl
set_option maxRecDepth 20000 in
theorem w_588 : Cond.code yX6_ways cX6_ways 3 (some .int) ∈ tW := tW_in (List.mem_of_getElem? (i := 588) rfl) rfl
set_option maxRecDepth 20000 in
theorem w_596 : Cond.code yX6_keep cX6_keep 2 (some .int) ∈ tW := tW_in (List.mem_of_getElem? (i := 596) rfl) rfl
set_option maxRecDepth 20000 in
theorem w_618 : Cond.code yX6_goBack cX6_goBack 2 (some .int) ∈ tW := tW_in (List.mem_of_getElem? (i := 618) rfl) rfl
set_option maxRecDepth 20000 in
theorem w_357 : Cond.code yX6_driftOnce cX6_driftOnce 2 (none) ∈ tW := tW_in (List.mem_of_getElem? (i := 357) rfl) rfl
set_option maxRecDepth 20000 in
theorem w_367 : Cond.code yX6_putByLots cX6_putByLots 3 (none) ∈ tW := tW_in (List.mem_of_getElem? (i := 367) rfl) rfl
set_option maxRecDepth 20000 in
theorem w_371 : Cond.code yX6_lowerByLots cX6_lowerByLots 4 (none) ∈ tW := tW_in (List.mem_of_getElem? (i := 371) rfl) rfl
set_option maxRecDepth 20000 in
theorem w_379 : Cond.code yX6_takeByLots cX6_takeByLots 2 (none) ∈ tW := tW_in (List.mem_of_getElem? (i := 379) rfl) rfl
set_option maxRecDepth 20000 in
theorem w_218 : Cond.code yX6_between cX6_between 3 (some .boolean) ∈ tW := tW_in (List.mem_of_getElem? (i := 218) rfl) rfl
set_option maxRecDepth 20000 in
theorem w_221 : Cond.code yX6_isKey cX6_isKey 1 (some .boolean) ∈ tW := tW_in (List.mem_of_getElem? (i := 221) rfl) rfl
set_option maxRecDepth 20000 in
theorem w_295 : Cond.code yX6_flag cX6_flag 1 (some .int) ∈ tW := tW_in (List.mem_of_getElem? (i := 295) rfl) rfl
set_option maxRecDepth 20000 in
theorem w_719 : Cond.code yX7_in cX7_in 3 (some .boolean) ∈ tW := tW_in (List.mem_of_getElem? (i := 719) rfl) rfl
set_option maxRecDepth 20000 in
theorem w_53 : Cond.initialized "LooseHeapModel" ∈ tW := tW_in (List.mem_of_getElem? (i := 53) (by decide +kernel)) (by decide +kernel)
set_option maxRecDepth 20000 in
theorem w_716 : Cond.code yX7_own cX7_own 1 (none) ∈ tW := tW_in (List.mem_of_getElem? (i := 716) rfl) rfl
set_option maxRecDepth 20000 in
theorem w_743 : Cond.code yX7_isSooner cX7_isSooner 3 (some .boolean) ∈ tW := tW_in (List.mem_of_getElem? (i := 743) rfl) rfl
set_option maxRecDepth 20000 in
theorem w_763 : Cond.code yX7_rank cX7_rank 4 (some .int) ∈ tW := tW_in (List.mem_of_getElem? (i := 763) rfl) rfl
set_option maxRecDepth 20000 in
theorem w_771 : Cond.code yX7_link cX7_link 5 (none) ∈ tW := tW_in (List.mem_of_getElem? (i := 771) rfl) rfl
set_option maxRecDepth 20000 in
theorem w_767 : Cond.code yX7_cut cX7_cut 2 (none) ∈ tW := tW_in (List.mem_of_getElem? (i := 767) rfl) rfl
set_option maxRecDepth 20000 in
theorem w_759 : Cond.code yX7_isOf cX7_isOf 3 (some .boolean) ∈ tW := tW_in (List.mem_of_getElem? (i := 759) rfl) rfl
set_option maxRecDepth 20000 in
theorem w_755 : Cond.code yX7_ofRank cX7_ofRank 6 (some .int) ∈ tW := tW_in (List.mem_of_getElem? (i := 755) rfl) rfl
set_option maxRecDepth 20000 in
theorem w_751 : Cond.code yX7_twice cX7_twice 6 (some .int) ∈ tW := tW_in (List.mem_of_getElem? (i := 751) rfl) rfl
set_option maxRecDepth 20000 in
theorem w_747 : Cond.code yX7_settle cX7_settle 4 (none) ∈ tW := tW_in (List.mem_of_getElem? (i := 747) rfl) rfl
set_option maxRecDepth 20000 in
theorem w_787 : Cond.code yX7_joinAll cX7_joinAll 3 (none) ∈ tW := tW_in (List.mem_of_getElem? (i := 787) rfl) rfl
set_option maxRecDepth 20000 in
theorem w_725 : Cond.code yX7_add cX7_add 4 (none) ∈ tW := tW_in (List.mem_of_getElem? (i := 725) rfl) rfl
set_option maxRecDepth 20000 in
theorem w_739 : Cond.code yX7_lowerTo cX7_lowerTo 3 (none) ∈ tW := tW_in (List.mem_of_getElem? (i := 739) rfl) rfl
set_option maxRecDepth 20000 in
theorem w_783 : Cond.code yX7_remove cX7_remove 4 (none) ∈ tW := tW_in (List.mem_of_getElem? (i := 783) rfl) rfl
set_option maxRecDepth 20000 in
theorem w_779 : Cond.code yX7_soonest cX7_soonest 3 (some .int) ∈ tW := tW_in (List.mem_of_getElem? (i := 779) rfl) rfl
set_option maxRecDepth 20000 in
theorem w_795 : Cond.code yX7_standing cX7_standing 3 (some .int) ∈ tW := tW_in (List.mem_of_getElem? (i := 795) rfl) rfl
set_option maxRecDepth 20000 in
theorem w_733 : Cond.code yX7_isJob cX7_isJob 2 (some .boolean) ∈ tW := tW_in (List.mem_of_getElem? (i := 733) rfl) rfl
set_option maxRecDepth 20000 in
theorem w_712 : Cond.code yX7_put cX7_put 3 (some .int) ∈ tW := tW_in (List.mem_of_getElem? (i := 712) rfl) rfl
set_option maxRecDepth 20000 in
theorem w_729 : Cond.code yX7_lower cX7_lower 3 (some .int) ∈ tW := tW_in (List.mem_of_getElem? (i := 729) rfl) rfl
set_option maxRecDepth 20000 in
theorem w_775 : Cond.code yX7_take cX7_take 2 (some .int) ∈ tW := tW_in (List.mem_of_getElem? (i := 775) rfl) rfl
set_option maxRecDepth 20000 in
theorem w_791 : Cond.code yX7_drop cX7_drop 2 (some .int) ∈ tW := tW_in (List.mem_of_getElem? (i := 791) rfl) rfl
set_option maxRecDepth 20000 in
theorem w_799 : Cond.code yX7_join cX7_join 2 (some .int) ∈ tW := tW_in (List.mem_of_getElem? (i := 799) rfl) rfl
set_option maxRecDepth 20000 in
theorem w_803 : Cond.code yX7_clear cX7_clear 3 (some .int) ∈ tW := tW_in (List.mem_of_getElem? (i := 803) rfl) rfl
set_option maxRecDepth 20000 in
theorem w_822 : Cond.code yX7_standingAt cX7_standingAt 4 (some .int) ∈ tW := tW_in (List.mem_of_getElem? (i := 822) rfl) rfl
set_option maxRecDepth 20000 in
theorem w_816 : Cond.code yX7_drawn cX7_drawn 2 (some .int) ∈ tW := tW_in (List.mem_of_getElem? (i := 816) rfl) rfl
set_option maxRecDepth 20000 in
theorem w_812 : Cond.code yX7_lot cX7_lot 4 (none) ∈ tW := tW_in (List.mem_of_getElem? (i := 812) rfl) rfl
set_option maxRecDepth 20000 in
theorem w_807 : Cond.code yX7_drift cX7_drift 4 (some .int) ∈ tW := tW_in (List.mem_of_getElem? (i := 807) rfl) rfl
set_option maxRecDepth 20000 in
theorem w_834 : Cond.code yX7_depth cX7_depth 4 (some .int) ∈ tW := tW_in (List.mem_of_getElem? (i := 834) rfl) rfl
set_option maxRecDepth 20000 in
theorem w_846 : Cond.code yX7_isUnder cX7_isUnder 4 (some .boolean) ∈ tW := tW_in (List.mem_of_getElem? (i := 846) rfl) rfl
set_option maxRecDepth 20000 in
theorem w_830 : Cond.code yX7_many cX7_many 6 (some .int) ∈ tW := tW_in (List.mem_of_getElem? (i := 830) rfl) rfl
set_option maxRecDepth 20000 in
theorem w_826 : Cond.code yX7_told cX7_told 2 (some .int) ∈ tW := tW_in (List.mem_of_getElem? (i := 826) rfl) rfl
set_option maxRecDepth 20000 in
theorem w_842 : Cond.code yX7_under cX7_under 4 (some .int) ∈ tW := tW_in (List.mem_of_getElem? (i := 842) rfl) rfl
set_option maxRecDepth 20000 in
theorem w_852 : Cond.code yX7_power cX7_power 2 (some .int) ∈ tW := tW_in (List.mem_of_getElem? (i := 852) rfl) rfl
set_option maxRecDepth 20000 in
theorem w_849 : Cond.code yX7_bitsOf cX7_bitsOf 4 (some .int) ∈ tW := tW_in (List.mem_of_getElem? (i := 849) rfl) rfl
set_option maxRecDepth 20000 in
theorem w_838 : Cond.code yX7_job cX7_job 4 (some .int) ∈ tW := tW_in (List.mem_of_getElem? (i := 838) rfl) rfl
set_option maxRecDepth 20000 in
theorem w_857 : Cond.code yX7_child cX7_child 6 (some .int) ∈ tW := tW_in (List.mem_of_getElem? (i := 857) rfl) rfl
set_option maxRecDepth 20000 in
theorem w_861 : Cond.code yX7_loose cX7_loose 2 (some .int) ∈ tW := tW_in (List.mem_of_getElem? (i := 861) rfl) rfl
set_option maxRecDepth 20000 in
theorem w_865 : Cond.code yX7_bits cX7_bits 6 (some .long) ∈ tW := tW_in (List.mem_of_getElem? (i := 865) rfl) rfl
set_option maxRecDepth 20000 in
theorem w_870 : Cond.code yX7_sit cX7_sit 6 (some .int) ∈ tW := tW_in (List.mem_of_getElem? (i := 870) rfl) rfl
set_option maxRecDepth 20000 in
theorem w_876 : Cond.code yX7_sits cX7_sits 3 (some .int) ∈ tW := tW_in (List.mem_of_getElem? (i := 876) rfl) rfl
set_option maxRecDepth 20000 in
theorem w_880 : Cond.code yX7_net cX7_net 3 (some .int) ∈ tW := tW_in (List.mem_of_getElem? (i := 880) rfl) rfl
set_option maxRecDepth 20000 in
theorem w_888 : Cond.code yX7_isPlace cX7_isPlace 2 (some .boolean) ∈ tW := tW_in (List.mem_of_getElem? (i := 888) rfl) rfl
set_option maxRecDepth 20000 in
theorem w_884 : Cond.code yX7_road cX7_road 4 (some .int) ∈ tW := tW_in (List.mem_of_getElem? (i := 884) rfl) rfl
set_option maxRecDepth 20000 in
theorem w_900 : Cond.code yX7_goFrom cX7_goFrom 6 (none) ∈ tW := tW_in (List.mem_of_getElem? (i := 900) rfl) rfl
set_option maxRecDepth 20000 in
theorem w_896 : Cond.code yX7_lay cX7_lay 8 (none) ∈ tW := tW_in (List.mem_of_getElem? (i := 896) rfl) rfl
set_option maxRecDepth 20000 in
theorem w_904 : Cond.code yX7_hanging cX7_hanging 4 (some .int) ∈ tW := tW_in (List.mem_of_getElem? (i := 904) rfl) rfl
set_option maxRecDepth 20000 in
theorem w_892 : Cond.code yX7_tree cX7_tree 3 (some .int) ∈ tW := tW_in (List.mem_of_getElem? (i := 892) rfl) rfl
set_option maxRecDepth 20000 in
theorem w_908 : Cond.code yX7_way cX7_way 3 (some .int) ∈ tW := tW_in (List.mem_of_getElem? (i := 908) rfl) rfl
set_option maxRecDepth 20000 in
theorem w_912 : Cond.code yX7_ways cX7_ways 5 (some .int) ∈ tW := tW_in (List.mem_of_getElem? (i := 912) rfl) rfl
set_option maxRecDepth 20000 in
theorem w_916 : Cond.code yX7_keep cX7_keep 5 (some .int) ∈ tW := tW_in (List.mem_of_getElem? (i := 916) rfl) rfl
set_option maxRecDepth 20000 in
theorem w_920 : Cond.code yX7_goBack cX7_goBack 5 (some .int) ∈ tW := tW_in (List.mem_of_getElem? (i := 920) rfl) rfl
set_option maxRecDepth 20000 in
theorem w_127 : Cond.code yJ7_fill_53178 cJ7_fill_53178 4 (none) ∈ tW := tW_in (List.mem_of_getElem? (i := 127) rfl) rfl
set_option maxRecDepth 20000 in
theorem w_49 : Cond.initialized "java/util/Arrays" ∈ tW := tW_in (List.mem_of_getElem? (i := 49) (by decide +kernel)) (by decide +kernel)
set_option maxRecDepth 20000 in
theorem w_128 : Cond.fieldLink RX0 9 "LooseHeap$Benches" "sitters" "[I" ∈ tW := tW_in (List.mem_of_getElem? (i := 128) (by decide +kernel)) (by decide +kernel)
set_option maxRecDepth 20000 in
theorem w_125 : Cond.methodLink RX0 15 yJ7_fill_53178 ∈ tW := tW_in (List.mem_of_getElem? (i := 125) (by decide +kernel)) (by decide +kernel)
set_option maxRecDepth 20000 in
theorem w_126 : Cond.static yJ7_fill_53178 ∈ tW := tW_in (List.mem_of_getElem? (i := 126) (by decide +kernel)) (by decide +kernel)
set_option maxRecDepth 20000 in
theorem w_612 : Cond.methodLink RX0 21 arraycopyName ∈ tW := tW_in (List.mem_of_getElem? (i := 612) (by decide +kernel)) (by decide +kernel)
set_option maxRecDepth 20000 in
theorem w_614 : Cond.native arraycopyName ∈ tW := tW_in (List.mem_of_getElem? (i := 614) (by decide +kernel)) (by decide +kernel)
set_option maxRecDepth 20000 in
theorem w_613 : Cond.static arraycopyName ∈ tW := tW_in (List.mem_of_getElem? (i := 613) (by decide +kernel)) (by decide +kernel)
set_option maxRecDepth 20000 in
theorem w_56 : Cond.initialized "java/lang/System" ∈ tW := tW_in (List.mem_of_getElem? (i := 56) (by decide +kernel)) (by decide +kernel)
set_option maxRecDepth 20000 in
theorem w_488 : Cond.methodLink RX0 27 yX0_sitter ∈ tW := tW_in (List.mem_of_getElem? (i := 488) (by decide +kernel)) (by decide +kernel)
set_option maxRecDepth 20000 in
theorem w_489 : Cond.instanceMethod yX0_sitter ∈ tW := tW_in (List.mem_of_getElem? (i := 489) (by decide +kernel)) (by decide +kernel)
set_option maxRecDepth 20000 in
theorem w_490 : Cond.selects RX0 yX0_sitter yX0_sitter ∈ tW := tW_in (List.mem_of_getElem? (i := 490) (by decide +kernel)) (by decide +kernel)
set_option maxRecDepth 20000 in
theorem w_453 : Cond.code Lib.MathLoose.abs_long.x Lib.MathLoose.abs_long.code 2 (some .long) ∈ tW := tW_in (List.mem_of_getElem? (i := 453) rfl) rfl
set_option maxRecDepth 20000 in
theorem w_451 : Cond.methodLink RX1 7 Lib.MathLoose.abs_long.x ∈ tW := tW_in (List.mem_of_getElem? (i := 451) (by decide +kernel)) (by decide +kernel)
set_option maxRecDepth 20000 in
theorem w_452 : Cond.static Lib.MathLoose.abs_long.x ∈ tW := tW_in (List.mem_of_getElem? (i := 452) (by decide +kernel)) (by decide +kernel)
set_option maxRecDepth 20000 in
theorem w_54 : Cond.initialized "java/lang/Math" ∈ tW := tW_in (List.mem_of_getElem? (i := 54) (by decide +kernel)) (by decide +kernel)
set_option maxRecDepth 20000 in
theorem w_81 : Cond.fieldLink RX2 44 "LooseHeap$Heap" "count" "I" ∈ tW := tW_in (List.mem_of_getElem? (i := 81) (by decide +kernel)) (by decide +kernel)
set_option maxRecDepth 20000 in
theorem w_82 : Cond.fieldLink RX2 47 "LooseHeap$Heap" "linked" "I" ∈ tW := tW_in (List.mem_of_getElem? (i := 82) (by decide +kernel)) (by decide +kernel)
set_option maxRecDepth 20000 in
theorem w_83 : Cond.fieldLink RX2 50 "LooseHeap$Heap" "cut" "I" ∈ tW := tW_in (List.mem_of_getElem? (i := 83) (by decide +kernel)) (by decide +kernel)
set_option maxRecDepth 20000 in
theorem w_71 : Cond.fieldLink RX2 9 "LooseHeap$Heap" "room" "I" ∈ tW := tW_in (List.mem_of_getElem? (i := 71) (by decide +kernel)) (by decide +kernel)
set_option maxRecDepth 20000 in
theorem w_607 : Cond.code Lib.Math.min.name Lib.Math.min.code 2 (some .int) ∈ tW := tW_in (List.mem_of_getElem? (i := 607) rfl) rfl
set_option maxRecDepth 20000 in
theorem w_605 : Cond.methodLink RX2 53 Lib.Math.min.name ∈ tW := tW_in (List.mem_of_getElem? (i := 605) (by decide +kernel)) (by decide +kernel)
set_option maxRecDepth 20000 in
theorem w_606 : Cond.static Lib.Math.min.name ∈ tW := tW_in (List.mem_of_getElem? (i := 606) (by decide +kernel)) (by decide +kernel)
set_option maxRecDepth 20000 in
theorem w_72 : Cond.fieldLink RX2 15 "LooseHeap$Heap" "kinds" "[I" ∈ tW := tW_in (List.mem_of_getElem? (i := 72) (by decide +kernel)) (by decide +kernel)
set_option maxRecDepth 20000 in
theorem w_73 : Cond.fieldLink RX2 19 "LooseHeap$Heap" "keys" "[I" ∈ tW := tW_in (List.mem_of_getElem? (i := 73) (by decide +kernel)) (by decide +kernel)
set_option maxRecDepth 20000 in
theorem w_74 : Cond.fieldLink RX2 22 "LooseHeap$Heap" "above" "[I" ∈ tW := tW_in (List.mem_of_getElem? (i := 74) (by decide +kernel)) (by decide +kernel)
set_option maxRecDepth 20000 in
theorem w_75 : Cond.fieldLink RX2 25 "LooseHeap$Heap" "ranks" "[I" ∈ tW := tW_in (List.mem_of_getElem? (i := 75) (by decide +kernel)) (by decide +kernel)
set_option maxRecDepth 20000 in
theorem w_76 : Cond.fieldLink RX2 28 "LooseHeap$Heap" "firstBelow" "[I" ∈ tW := tW_in (List.mem_of_getElem? (i := 76) (by decide +kernel)) (by decide +kernel)
set_option maxRecDepth 20000 in
theorem w_77 : Cond.fieldLink RX2 31 "LooseHeap$Heap" "nextBeside" "[I" ∈ tW := tW_in (List.mem_of_getElem? (i := 77) (by decide +kernel)) (by decide +kernel)
set_option maxRecDepth 20000 in
theorem w_78 : Cond.fieldLink RX2 34 "LooseHeap$Heap" "standing" "[Z" ∈ tW := tW_in (List.mem_of_getElem? (i := 78) (by decide +kernel)) (by decide +kernel)
set_option maxRecDepth 20000 in
theorem w_79 : Cond.fieldLink RX2 38 "LooseHeap$Heap" "loosened" "[Z" ∈ tW := tW_in (List.mem_of_getElem? (i := 79) (by decide +kernel)) (by decide +kernel)
set_option maxRecDepth 20000 in
theorem w_232 : Cond.methodLink RX2 59 yX2_hasRoom ∈ tW := tW_in (List.mem_of_getElem? (i := 232) (by decide +kernel)) (by decide +kernel)
set_option maxRecDepth 20000 in
theorem w_224 : Cond.instanceMethod yX2_hasRoom ∈ tW := tW_in (List.mem_of_getElem? (i := 224) (by decide +kernel)) (by decide +kernel)
set_option maxRecDepth 20000 in
theorem w_225 : Cond.selects RX2 yX2_hasRoom yX2_hasRoom ∈ tW := tW_in (List.mem_of_getElem? (i := 225) (by decide +kernel)) (by decide +kernel)
set_option maxRecDepth 20000 in
theorem w_233 : Cond.constant RX2 63 (-1000000004) ∈ tW := tW_in (List.mem_of_getElem? (i := 233) (by decide +kernel)) (by decide +kernel)
set_option maxRecDepth 20000 in
theorem w_256 : Cond.methodLink RX2 64 yX2_isSooner ∈ tW := tW_in (List.mem_of_getElem? (i := 256) (by decide +kernel)) (by decide +kernel)
set_option maxRecDepth 20000 in
theorem w_258 : Cond.instanceMethod yX2_isSooner ∈ tW := tW_in (List.mem_of_getElem? (i := 258) (by decide +kernel)) (by decide +kernel)
set_option maxRecDepth 20000 in
theorem w_0 : Cond.selects RX2 yX2_isSooner yX2_isSooner ∈ tW := tW_in (List.mem_of_getElem? (i := 0) (by decide +kernel)) (by decide +kernel)
set_option maxRecDepth 20000 in
theorem w_260 : Cond.methodLink RX2 68 yX2_settleAll ∈ tW := tW_in (List.mem_of_getElem? (i := 260) (by decide +kernel)) (by decide +kernel)
set_option maxRecDepth 20000 in
theorem w_262 : Cond.instanceMethod yX2_settleAll ∈ tW := tW_in (List.mem_of_getElem? (i := 262) (by decide +kernel)) (by decide +kernel)
set_option maxRecDepth 20000 in
theorem w_1 : Cond.selects RX2 yX2_settleAll yX2_settleAll ∈ tW := tW_in (List.mem_of_getElem? (i := 1) (by decide +kernel)) (by decide +kernel)
set_option maxRecDepth 20000 in
theorem w_273 : Cond.methodLink RX2 71 yX2_cutOff ∈ tW := tW_in (List.mem_of_getElem? (i := 273) (by decide +kernel)) (by decide +kernel)
set_option maxRecDepth 20000 in
theorem w_275 : Cond.instanceMethod yX2_cutOff ∈ tW := tW_in (List.mem_of_getElem? (i := 275) (by decide +kernel)) (by decide +kernel)
set_option maxRecDepth 20000 in
theorem w_4 : Cond.selects RX2 yX2_cutOff yX2_cutOff ∈ tW := tW_in (List.mem_of_getElem? (i := 4) (by decide +kernel)) (by decide +kernel)
set_option maxRecDepth 20000 in
theorem w_308 : Cond.methodLink RX2 75 yX2_freeChildren ∈ tW := tW_in (List.mem_of_getElem? (i := 308) (by decide +kernel)) (by decide +kernel)
set_option maxRecDepth 20000 in
theorem w_310 : Cond.instanceMethod yX2_freeChildren ∈ tW := tW_in (List.mem_of_getElem? (i := 310) (by decide +kernel)) (by decide +kernel)
set_option maxRecDepth 20000 in
theorem w_8 : Cond.selects RX2 yX2_freeChildren yX2_freeChildren ∈ tW := tW_in (List.mem_of_getElem? (i := 8) (by decide +kernel)) (by decide +kernel)
set_option maxRecDepth 20000 in
theorem w_312 : Cond.methodLink RX2 78 yX2_joinAll ∈ tW := tW_in (List.mem_of_getElem? (i := 312) (by decide +kernel)) (by decide +kernel)
set_option maxRecDepth 20000 in
theorem w_313 : Cond.instanceMethod yX2_joinAll ∈ tW := tW_in (List.mem_of_getElem? (i := 313) (by decide +kernel)) (by decide +kernel)
set_option maxRecDepth 20000 in
theorem w_314 : Cond.selects RX2 yX2_joinAll yX2_joinAll ∈ tW := tW_in (List.mem_of_getElem? (i := 314) (by decide +kernel)) (by decide +kernel)
set_option maxRecDepth 20000 in
theorem w_264 : Cond.methodLink RX2 82 yX2_findPair ∈ tW := tW_in (List.mem_of_getElem? (i := 264) (by decide +kernel)) (by decide +kernel)
set_option maxRecDepth 20000 in
theorem w_266 : Cond.instanceMethod yX2_findPair ∈ tW := tW_in (List.mem_of_getElem? (i := 266) (by decide +kernel)) (by decide +kernel)
set_option maxRecDepth 20000 in
theorem w_2 : Cond.selects RX2 yX2_findPair yX2_findPair ∈ tW := tW_in (List.mem_of_getElem? (i := 2) (by decide +kernel)) (by decide +kernel)
set_option maxRecDepth 20000 in
theorem w_84 : Cond.fieldLink RX2 86 "LooseHeap$Heap" "pairLesser" "I" ∈ tW := tW_in (List.mem_of_getElem? (i := 84) (by decide +kernel)) (by decide +kernel)
set_option maxRecDepth 20000 in
theorem w_85 : Cond.fieldLink RX2 89 "LooseHeap$Heap" "pairGreater" "I" ∈ tW := tW_in (List.mem_of_getElem? (i := 85) (by decide +kernel)) (by decide +kernel)
set_option maxRecDepth 20000 in
theorem w_285 : Cond.methodLink RX2 92 yX2_linkTwo ∈ tW := tW_in (List.mem_of_getElem? (i := 285) (by decide +kernel)) (by decide +kernel)
set_option maxRecDepth 20000 in
theorem w_287 : Cond.instanceMethod yX2_linkTwo ∈ tW := tW_in (List.mem_of_getElem? (i := 287) (by decide +kernel)) (by decide +kernel)
set_option maxRecDepth 20000 in
theorem w_7 : Cond.selects RX2 yX2_linkTwo yX2_linkTwo ∈ tW := tW_in (List.mem_of_getElem? (i := 7) (by decide +kernel)) (by decide +kernel)
set_option maxRecDepth 20000 in
theorem w_80 : Cond.fieldLink RX2 41 "LooseHeap$Heap" "firstOfRank" "[I" ∈ tW := tW_in (List.mem_of_getElem? (i := 80) (by decide +kernel)) (by decide +kernel)
set_option maxRecDepth 20000 in
theorem w_268 : Cond.methodLink RX2 96 yJ7_fill_53178 ∈ tW := tW_in (List.mem_of_getElem? (i := 268) (by decide +kernel)) (by decide +kernel)
set_option maxRecDepth 20000 in
theorem w_269 : Cond.methodLink RX2 102 yX2_isRoot ∈ tW := tW_in (List.mem_of_getElem? (i := 269) (by decide +kernel)) (by decide +kernel)
set_option maxRecDepth 20000 in
theorem w_271 : Cond.instanceMethod yX2_isRoot ∈ tW := tW_in (List.mem_of_getElem? (i := 271) (by decide +kernel)) (by decide +kernel)
set_option maxRecDepth 20000 in
theorem w_3 : Cond.selects RX2 yX2_isRoot yX2_isRoot ∈ tW := tW_in (List.mem_of_getElem? (i := 3) (by decide +kernel)) (by decide +kernel)
set_option maxRecDepth 20000 in
theorem w_277 : Cond.methodLink RX2 106 yX2_besideBefore ∈ tW := tW_in (List.mem_of_getElem? (i := 277) (by decide +kernel)) (by decide +kernel)
set_option maxRecDepth 20000 in
theorem w_279 : Cond.instanceMethod yX2_besideBefore ∈ tW := tW_in (List.mem_of_getElem? (i := 279) (by decide +kernel)) (by decide +kernel)
set_option maxRecDepth 20000 in
theorem w_5 : Cond.selects RX2 yX2_besideBefore yX2_besideBefore ∈ tW := tW_in (List.mem_of_getElem? (i := 5) (by decide +kernel)) (by decide +kernel)
set_option maxRecDepth 20000 in
theorem w_281 : Cond.methodLink RX2 109 yX2_makeRoot ∈ tW := tW_in (List.mem_of_getElem? (i := 281) (by decide +kernel)) (by decide +kernel)
set_option maxRecDepth 20000 in
theorem w_283 : Cond.instanceMethod yX2_makeRoot ∈ tW := tW_in (List.mem_of_getElem? (i := 283) (by decide +kernel)) (by decide +kernel)
set_option maxRecDepth 20000 in
theorem w_6 : Cond.selects RX2 yX2_makeRoot yX2_makeRoot ∈ tW := tW_in (List.mem_of_getElem? (i := 6) (by decide +kernel)) (by decide +kernel)
set_option maxRecDepth 20000 in
theorem w_398 : Cond.code Lib.Math.max.name Lib.Math.max.code 2 (some .int) ∈ tW := tW_in (List.mem_of_getElem? (i := 398) rfl) rfl
set_option maxRecDepth 20000 in
theorem w_396 : Cond.methodLink RX2 112 Lib.Math.max.name ∈ tW := tW_in (List.mem_of_getElem? (i := 396) (by decide +kernel)) (by decide +kernel)
set_option maxRecDepth 20000 in
theorem w_397 : Cond.static Lib.Math.max.name ∈ tW := tW_in (List.mem_of_getElem? (i := 397) (by decide +kernel)) (by decide +kernel)
set_option maxRecDepth 20000 in
theorem w_411 : Cond.methodLink RX2 115 yX2_depthOf ∈ tW := tW_in (List.mem_of_getElem? (i := 411) (by decide +kernel)) (by decide +kernel)
set_option maxRecDepth 20000 in
theorem w_412 : Cond.instanceMethod yX2_depthOf ∈ tW := tW_in (List.mem_of_getElem? (i := 412) (by decide +kernel)) (by decide +kernel)
set_option maxRecDepth 20000 in
theorem w_413 : Cond.selects RX2 yX2_depthOf yX2_depthOf ∈ tW := tW_in (List.mem_of_getElem? (i := 413) (by decide +kernel)) (by decide +kernel)
set_option maxRecDepth 20000 in
theorem w_444 : Cond.methodLink RX2 119 yX2_isWithin ∈ tW := tW_in (List.mem_of_getElem? (i := 444) (by decide +kernel)) (by decide +kernel)
set_option maxRecDepth 20000 in
theorem w_446 : Cond.instanceMethod yX2_isWithin ∈ tW := tW_in (List.mem_of_getElem? (i := 446) (by decide +kernel)) (by decide +kernel)
set_option maxRecDepth 20000 in
theorem w_13 : Cond.selects RX2 yX2_isWithin yX2_isWithin ∈ tW := tW_in (List.mem_of_getElem? (i := 13) (by decide +kernel)) (by decide +kernel)
set_option maxRecDepth 20000 in
theorem w_188 : Cond.fieldLink RX3 27 "LooseHeap$Image" "kept" "Z" ∈ tW := tW_in (List.mem_of_getElem? (i := 188) (by decide +kernel)) (by decide +kernel)
set_option maxRecDepth 20000 in
theorem w_186 : Cond.fieldLink RX3 14 "LooseHeap$Image" "heap" "LLooseHeap$Heap;" ∈ tW := tW_in (List.mem_of_getElem? (i := 186) (by decide +kernel)) (by decide +kernel)
set_option maxRecDepth 20000 in
theorem w_601 : Cond.methodLink RX3 31 yX2_copyFrom ∈ tW := tW_in (List.mem_of_getElem? (i := 601) (by decide +kernel)) (by decide +kernel)
set_option maxRecDepth 20000 in
theorem w_602 : Cond.instanceMethod yX2_copyFrom ∈ tW := tW_in (List.mem_of_getElem? (i := 602) (by decide +kernel)) (by decide +kernel)
set_option maxRecDepth 20000 in
theorem w_603 : Cond.selects RX2 yX2_copyFrom yX2_copyFrom ∈ tW := tW_in (List.mem_of_getElem? (i := 603) (by decide +kernel)) (by decide +kernel)
set_option maxRecDepth 20000 in
theorem w_187 : Cond.fieldLink RX3 23 "LooseHeap$Image" "benches" "LLooseHeap$Benches;" ∈ tW := tW_in (List.mem_of_getElem? (i := 187) (by decide +kernel)) (by decide +kernel)
set_option maxRecDepth 20000 in
theorem w_608 : Cond.methodLink RX3 35 yX0_copyFrom ∈ tW := tW_in (List.mem_of_getElem? (i := 608) (by decide +kernel)) (by decide +kernel)
set_option maxRecDepth 20000 in
theorem w_609 : Cond.instanceMethod yX0_copyFrom ∈ tW := tW_in (List.mem_of_getElem? (i := 609) (by decide +kernel)) (by decide +kernel)
set_option maxRecDepth 20000 in
theorem w_610 : Cond.selects RX0 yX0_copyFrom yX0_copyFrom ∈ tW := tW_in (List.mem_of_getElem? (i := 610) (by decide +kernel)) (by decide +kernel)
set_option maxRecDepth 20000 in
theorem w_171 : Cond.fieldLink RX4 7 "LooseHeap$Lots" "number" "J" ∈ tW := tW_in (List.mem_of_getElem? (i := 171) (by decide +kernel)) (by decide +kernel)
set_option maxRecDepth 20000 in
theorem w_362 : Cond.constantLong RX4 13 16807 ∈ tW := tW_in (List.mem_of_getElem? (i := 362) (by decide +kernel)) (by decide +kernel)
set_option maxRecDepth 20000 in
theorem w_363 : Cond.constantLong RX4 15 2147483647 ∈ tW := tW_in (List.mem_of_getElem? (i := 363) (by decide +kernel)) (by decide +kernel)
set_option maxRecDepth 20000 in
theorem w_145 : Cond.fieldLink RX5 33 "LooseHeap$Roads" "places" "I" ∈ tW := tW_in (List.mem_of_getElem? (i := 145) (by decide +kernel)) (by decide +kernel)
set_option maxRecDepth 20000 in
theorem w_146 : Cond.fieldLink RX5 37 "LooseHeap$Roads" "count" "I" ∈ tW := tW_in (List.mem_of_getElem? (i := 146) (by decide +kernel)) (by decide +kernel)
set_option maxRecDepth 20000 in
theorem w_521 : Cond.methodLink RX5 40 yX5_hasRoom ∈ tW := tW_in (List.mem_of_getElem? (i := 521) (by decide +kernel)) (by decide +kernel)
set_option maxRecDepth 20000 in
theorem w_514 : Cond.instanceMethod yX5_hasRoom ∈ tW := tW_in (List.mem_of_getElem? (i := 514) (by decide +kernel)) (by decide +kernel)
set_option maxRecDepth 20000 in
theorem w_515 : Cond.selects RX5 yX5_hasRoom yX5_hasRoom ∈ tW := tW_in (List.mem_of_getElem? (i := 515) (by decide +kernel)) (by decide +kernel)
set_option maxRecDepth 20000 in
theorem w_522 : Cond.constant RX5 44 (-1000000004) ∈ tW := tW_in (List.mem_of_getElem? (i := 522) (by decide +kernel)) (by decide +kernel)
set_option maxRecDepth 20000 in
theorem w_140 : Cond.fieldLink RX5 9 "LooseHeap$Roads" "oneEnd" "[I" ∈ tW := tW_in (List.mem_of_getElem? (i := 140) (by decide +kernel)) (by decide +kernel)
set_option maxRecDepth 20000 in
theorem w_141 : Cond.fieldLink RX5 15 "LooseHeap$Roads" "otherEnd" "[I" ∈ tW := tW_in (List.mem_of_getElem? (i := 141) (by decide +kernel)) (by decide +kernel)
set_option maxRecDepth 20000 in
theorem w_142 : Cond.fieldLink RX5 18 "LooseHeap$Roads" "weights" "[I" ∈ tW := tW_in (List.mem_of_getElem? (i := 142) (by decide +kernel)) (by decide +kernel)
set_option maxRecDepth 20000 in
theorem w_531 : Cond.methodLink RX5 45 yX5_begin ∈ tW := tW_in (List.mem_of_getElem? (i := 531) (by decide +kernel)) (by decide +kernel)
set_option maxRecDepth 20000 in
theorem w_533 : Cond.instanceMethod yX5_begin ∈ tW := tW_in (List.mem_of_getElem? (i := 533) (by decide +kernel)) (by decide +kernel)
set_option maxRecDepth 20000 in
theorem w_14 : Cond.selects RX5 yX5_begin yX5_begin ∈ tW := tW_in (List.mem_of_getElem? (i := 14) (by decide +kernel)) (by decide +kernel)
set_option maxRecDepth 20000 in
theorem w_144 : Cond.fieldLink RX5 29 "LooseHeap$Roads" "front" "LLooseHeap$Heap;" ∈ tW := tW_in (List.mem_of_getElem? (i := 144) (by decide +kernel)) (by decide +kernel)
set_option maxRecDepth 20000 in
theorem w_538 : Cond.methodLink RX5 48 yX2_soonest ∈ tW := tW_in (List.mem_of_getElem? (i := 538) (by decide +kernel)) (by decide +kernel)
set_option maxRecDepth 20000 in
theorem w_301 : Cond.instanceMethod yX2_soonest ∈ tW := tW_in (List.mem_of_getElem? (i := 301) (by decide +kernel)) (by decide +kernel)
set_option maxRecDepth 20000 in
theorem w_302 : Cond.selects RX2 yX2_soonest yX2_soonest ∈ tW := tW_in (List.mem_of_getElem? (i := 302) (by decide +kernel)) (by decide +kernel)
set_option maxRecDepth 20000 in
theorem w_539 : Cond.methodLink RX5 52 yX2_takeOut ∈ tW := tW_in (List.mem_of_getElem? (i := 539) (by decide +kernel)) (by decide +kernel)
set_option maxRecDepth 20000 in
theorem w_305 : Cond.instanceMethod yX2_takeOut ∈ tW := tW_in (List.mem_of_getElem? (i := 305) (by decide +kernel)) (by decide +kernel)
set_option maxRecDepth 20000 in
theorem w_306 : Cond.selects RX2 yX2_takeOut yX2_takeOut ∈ tW := tW_in (List.mem_of_getElem? (i := 306) (by decide +kernel)) (by decide +kernel)
set_option maxRecDepth 20000 in
theorem w_540 : Cond.methodLink RX5 55 yX5_isReached ∈ tW := tW_in (List.mem_of_getElem? (i := 540) (by decide +kernel)) (by decide +kernel)
set_option maxRecDepth 20000 in
theorem w_542 : Cond.instanceMethod yX5_isReached ∈ tW := tW_in (List.mem_of_getElem? (i := 542) (by decide +kernel)) (by decide +kernel)
set_option maxRecDepth 20000 in
theorem w_15 : Cond.selects RX5 yX5_isReached yX5_isReached ∈ tW := tW_in (List.mem_of_getElem? (i := 15) (by decide +kernel)) (by decide +kernel)
set_option maxRecDepth 20000 in
theorem w_544 : Cond.methodLink RX5 59 yX2_keyOf ∈ tW := tW_in (List.mem_of_getElem? (i := 544) (by decide +kernel)) (by decide +kernel)
set_option maxRecDepth 20000 in
theorem w_248 : Cond.instanceMethod yX2_keyOf ∈ tW := tW_in (List.mem_of_getElem? (i := 248) (by decide +kernel)) (by decide +kernel)
set_option maxRecDepth 20000 in
theorem w_249 : Cond.selects RX2 yX2_keyOf yX2_keyOf ∈ tW := tW_in (List.mem_of_getElem? (i := 249) (by decide +kernel)) (by decide +kernel)
set_option maxRecDepth 20000 in
theorem w_545 : Cond.methodLink RX5 63 yX5_spread ∈ tW := tW_in (List.mem_of_getElem? (i := 545) (by decide +kernel)) (by decide +kernel)
set_option maxRecDepth 20000 in
theorem w_547 : Cond.instanceMethod yX5_spread ∈ tW := tW_in (List.mem_of_getElem? (i := 547) (by decide +kernel)) (by decide +kernel)
set_option maxRecDepth 20000 in
theorem w_16 : Cond.selects RX5 yX5_spread yX5_spread ∈ tW := tW_in (List.mem_of_getElem? (i := 16) (by decide +kernel)) (by decide +kernel)
set_option maxRecDepth 20000 in
theorem w_147 : Cond.fieldLink RX5 67 "LooseHeap$Roads" "lowered" "I" ∈ tW := tW_in (List.mem_of_getElem? (i := 147) (by decide +kernel)) (by decide +kernel)
set_option maxRecDepth 20000 in
theorem w_535 : Cond.methodLink RX5 70 yX2_empty ∈ tW := tW_in (List.mem_of_getElem? (i := 535) (by decide +kernel)) (by decide +kernel)
set_option maxRecDepth 20000 in
theorem w_338 : Cond.instanceMethod yX2_empty ∈ tW := tW_in (List.mem_of_getElem? (i := 338) (by decide +kernel)) (by decide +kernel)
set_option maxRecDepth 20000 in
theorem w_339 : Cond.selects RX2 yX2_empty yX2_empty ∈ tW := tW_in (List.mem_of_getElem? (i := 339) (by decide +kernel)) (by decide +kernel)
set_option maxRecDepth 20000 in
theorem w_143 : Cond.fieldLink RX5 21 "LooseHeap$Roads" "hangsBy" "[I" ∈ tW := tW_in (List.mem_of_getElem? (i := 143) (by decide +kernel)) (by decide +kernel)
set_option maxRecDepth 20000 in
theorem w_536 : Cond.methodLink RX5 73 yJ7_fill_53178 ∈ tW := tW_in (List.mem_of_getElem? (i := 536) (by decide +kernel)) (by decide +kernel)
set_option maxRecDepth 20000 in
theorem w_537 : Cond.methodLink RX5 79 yX2_add ∈ tW := tW_in (List.mem_of_getElem? (i := 537) (by decide +kernel)) (by decide +kernel)
set_option maxRecDepth 20000 in
theorem w_229 : Cond.instanceMethod yX2_add ∈ tW := tW_in (List.mem_of_getElem? (i := 229) (by decide +kernel)) (by decide +kernel)
set_option maxRecDepth 20000 in
theorem w_230 : Cond.selects RX2 yX2_add yX2_add ∈ tW := tW_in (List.mem_of_getElem? (i := 230) (by decide +kernel)) (by decide +kernel)
set_option maxRecDepth 20000 in
theorem w_549 : Cond.methodLink RX5 83 yX5_acrossFrom ∈ tW := tW_in (List.mem_of_getElem? (i := 549) (by decide +kernel)) (by decide +kernel)
set_option maxRecDepth 20000 in
theorem w_551 : Cond.instanceMethod yX5_acrossFrom ∈ tW := tW_in (List.mem_of_getElem? (i := 551) (by decide +kernel)) (by decide +kernel)
set_option maxRecDepth 20000 in
theorem w_17 : Cond.selects RX5 yX5_acrossFrom yX5_acrossFrom ∈ tW := tW_in (List.mem_of_getElem? (i := 17) (by decide +kernel)) (by decide +kernel)
set_option maxRecDepth 20000 in
theorem w_553 : Cond.methodLink RX5 86 yX2_isStanding ∈ tW := tW_in (List.mem_of_getElem? (i := 553) (by decide +kernel)) (by decide +kernel)
set_option maxRecDepth 20000 in
theorem w_244 : Cond.instanceMethod yX2_isStanding ∈ tW := tW_in (List.mem_of_getElem? (i := 244) (by decide +kernel)) (by decide +kernel)
set_option maxRecDepth 20000 in
theorem w_245 : Cond.selects RX2 yX2_isStanding yX2_isStanding ∈ tW := tW_in (List.mem_of_getElem? (i := 245) (by decide +kernel)) (by decide +kernel)
set_option maxRecDepth 20000 in
theorem w_554 : Cond.methodLink RX5 89 yX2_lowerTo ∈ tW := tW_in (List.mem_of_getElem? (i := 554) (by decide +kernel)) (by decide +kernel)
set_option maxRecDepth 20000 in
theorem w_253 : Cond.instanceMethod yX2_lowerTo ∈ tW := tW_in (List.mem_of_getElem? (i := 253) (by decide +kernel)) (by decide +kernel)
set_option maxRecDepth 20000 in
theorem w_254 : Cond.selects RX2 yX2_lowerTo yX2_lowerTo ∈ tW := tW_in (List.mem_of_getElem? (i := 254) (by decide +kernel)) (by decide +kernel)
set_option maxRecDepth 20000 in
theorem w_567 : Cond.methodLink RX5 92 yX2_links ∈ tW := tW_in (List.mem_of_getElem? (i := 567) (by decide +kernel)) (by decide +kernel)
set_option maxRecDepth 20000 in
theorem w_400 : Cond.instanceMethod yX2_links ∈ tW := tW_in (List.mem_of_getElem? (i := 400) (by decide +kernel)) (by decide +kernel)
set_option maxRecDepth 20000 in
theorem w_401 : Cond.selects RX2 yX2_links yX2_links ∈ tW := tW_in (List.mem_of_getElem? (i := 401) (by decide +kernel)) (by decide +kernel)
set_option maxRecDepth 20000 in
theorem w_572 : Cond.methodLink RX5 95 yX2_cuts ∈ tW := tW_in (List.mem_of_getElem? (i := 572) (by decide +kernel)) (by decide +kernel)
set_option maxRecDepth 20000 in
theorem w_404 : Cond.instanceMethod yX2_cuts ∈ tW := tW_in (List.mem_of_getElem? (i := 404) (by decide +kernel)) (by decide +kernel)
set_option maxRecDepth 20000 in
theorem w_405 : Cond.selects RX2 yX2_cuts yX2_cuts ∈ tW := tW_in (List.mem_of_getElem? (i := 405) (by decide +kernel)) (by decide +kernel)
set_option maxRecDepth 20000 in
theorem w_216 : Cond.methodLink RX6 46 yX6_between ∈ tW := tW_in (List.mem_of_getElem? (i := 216) (by decide +kernel)) (by decide +kernel)
set_option maxRecDepth 20000 in
theorem w_217 : Cond.static yX6_between ∈ tW := tW_in (List.mem_of_getElem? (i := 217) (by decide +kernel)) (by decide +kernel)
set_option maxRecDepth 20000 in
theorem w_219 : Cond.methodLink RX6 50 yX6_isKey ∈ tW := tW_in (List.mem_of_getElem? (i := 219) (by decide +kernel)) (by decide +kernel)
set_option maxRecDepth 20000 in
theorem w_220 : Cond.static yX6_isKey ∈ tW := tW_in (List.mem_of_getElem? (i := 220) (by decide +kernel)) (by decide +kernel)
set_option maxRecDepth 20000 in
theorem w_222 : Cond.constant RX6 54 (-1000000002) ∈ tW := tW_in (List.mem_of_getElem? (i := 222) (by decide +kernel)) (by decide +kernel)
set_option maxRecDepth 20000 in
theorem w_196 : Cond.fieldLink RX6 14 "LooseHeap" "heap" "LLooseHeap$Heap;" ∈ tW := tW_in (List.mem_of_getElem? (i := 196) (by decide +kernel)) (by decide +kernel)
set_option maxRecDepth 20000 in
theorem w_223 : Cond.methodLink RX6 55 yX2_hasRoom ∈ tW := tW_in (List.mem_of_getElem? (i := 223) (by decide +kernel)) (by decide +kernel)
set_option maxRecDepth 20000 in
theorem w_227 : Cond.constant RX6 59 (-1000000004) ∈ tW := tW_in (List.mem_of_getElem? (i := 227) (by decide +kernel)) (by decide +kernel)
set_option maxRecDepth 20000 in
theorem w_228 : Cond.methodLink RX6 60 yX2_add ∈ tW := tW_in (List.mem_of_getElem? (i := 228) (by decide +kernel)) (by decide +kernel)
set_option maxRecDepth 20000 in
theorem w_238 : Cond.methodLink RX6 64 yX2_has ∈ tW := tW_in (List.mem_of_getElem? (i := 238) (by decide +kernel)) (by decide +kernel)
set_option maxRecDepth 20000 in
theorem w_239 : Cond.instanceMethod yX2_has ∈ tW := tW_in (List.mem_of_getElem? (i := 239) (by decide +kernel)) (by decide +kernel)
set_option maxRecDepth 20000 in
theorem w_240 : Cond.selects RX2 yX2_has yX2_has ∈ tW := tW_in (List.mem_of_getElem? (i := 240) (by decide +kernel)) (by decide +kernel)
set_option maxRecDepth 20000 in
theorem w_242 : Cond.constant RX6 67 (-1000000001) ∈ tW := tW_in (List.mem_of_getElem? (i := 242) (by decide +kernel)) (by decide +kernel)
set_option maxRecDepth 20000 in
theorem w_243 : Cond.methodLink RX6 68 yX2_isStanding ∈ tW := tW_in (List.mem_of_getElem? (i := 243) (by decide +kernel)) (by decide +kernel)
set_option maxRecDepth 20000 in
theorem w_247 : Cond.methodLink RX6 71 yX2_keyOf ∈ tW := tW_in (List.mem_of_getElem? (i := 247) (by decide +kernel)) (by decide +kernel)
set_option maxRecDepth 20000 in
theorem w_251 : Cond.constant RX6 75 (-1000000003) ∈ tW := tW_in (List.mem_of_getElem? (i := 251) (by decide +kernel)) (by decide +kernel)
set_option maxRecDepth 20000 in
theorem w_252 : Cond.methodLink RX6 76 yX2_lowerTo ∈ tW := tW_in (List.mem_of_getElem? (i := 252) (by decide +kernel)) (by decide +kernel)
set_option maxRecDepth 20000 in
theorem w_289 : Cond.methodLink RX6 80 yX2_isLoose ∈ tW := tW_in (List.mem_of_getElem? (i := 289) (by decide +kernel)) (by decide +kernel)
set_option maxRecDepth 20000 in
theorem w_290 : Cond.instanceMethod yX2_isLoose ∈ tW := tW_in (List.mem_of_getElem? (i := 290) (by decide +kernel)) (by decide +kernel)
set_option maxRecDepth 20000 in
theorem w_291 : Cond.selects RX2 yX2_isLoose yX2_isLoose ∈ tW := tW_in (List.mem_of_getElem? (i := 291) (by decide +kernel)) (by decide +kernel)
set_option maxRecDepth 20000 in
theorem w_293 : Cond.methodLink RX6 83 yX6_flag ∈ tW := tW_in (List.mem_of_getElem? (i := 293) (by decide +kernel)) (by decide +kernel)
set_option maxRecDepth 20000 in
theorem w_294 : Cond.static yX6_flag ∈ tW := tW_in (List.mem_of_getElem? (i := 294) (by decide +kernel)) (by decide +kernel)
set_option maxRecDepth 20000 in
theorem w_300 : Cond.methodLink RX6 87 yX2_soonest ∈ tW := tW_in (List.mem_of_getElem? (i := 300) (by decide +kernel)) (by decide +kernel)
set_option maxRecDepth 20000 in
theorem w_304 : Cond.methodLink RX6 91 yX2_takeOut ∈ tW := tW_in (List.mem_of_getElem? (i := 304) (by decide +kernel)) (by decide +kernel)
set_option maxRecDepth 20000 in
theorem w_320 : Cond.methodLink RX6 94 yX2_standingCount ∈ tW := tW_in (List.mem_of_getElem? (i := 320) (by decide +kernel)) (by decide +kernel)
set_option maxRecDepth 20000 in
theorem w_321 : Cond.instanceMethod yX2_standingCount ∈ tW := tW_in (List.mem_of_getElem? (i := 321) (by decide +kernel)) (by decide +kernel)
set_option maxRecDepth 20000 in
theorem w_322 : Cond.selects RX2 yX2_standingCount yX2_standingCount ∈ tW := tW_in (List.mem_of_getElem? (i := 322) (by decide +kernel)) (by decide +kernel)
set_option maxRecDepth 20000 in
theorem w_328 : Cond.methodLink RX6 97 yX2_joinAll ∈ tW := tW_in (List.mem_of_getElem? (i := 328) (by decide +kernel)) (by decide +kernel)
set_option maxRecDepth 20000 in
theorem w_333 : Cond.methodLink RX6 100 yX2_count ∈ tW := tW_in (List.mem_of_getElem? (i := 333) (by decide +kernel)) (by decide +kernel)
set_option maxRecDepth 20000 in
theorem w_334 : Cond.instanceMethod yX2_count ∈ tW := tW_in (List.mem_of_getElem? (i := 334) (by decide +kernel)) (by decide +kernel)
set_option maxRecDepth 20000 in
theorem w_335 : Cond.selects RX2 yX2_count yX2_count ∈ tW := tW_in (List.mem_of_getElem? (i := 335) (by decide +kernel)) (by decide +kernel)
set_option maxRecDepth 20000 in
theorem w_337 : Cond.methodLink RX6 103 yX2_empty ∈ tW := tW_in (List.mem_of_getElem? (i := 337) (by decide +kernel)) (by decide +kernel)
set_option maxRecDepth 20000 in
theorem w_197 : Cond.fieldLink RX6 21 "LooseHeap" "benches" "LLooseHeap$Benches;" ∈ tW := tW_in (List.mem_of_getElem? (i := 197) (by decide +kernel)) (by decide +kernel)
set_option maxRecDepth 20000 in
theorem w_341 : Cond.methodLink RX6 106 yX0_empty ∈ tW := tW_in (List.mem_of_getElem? (i := 341) (by decide +kernel)) (by decide +kernel)
set_option maxRecDepth 20000 in
theorem w_342 : Cond.instanceMethod yX0_empty ∈ tW := tW_in (List.mem_of_getElem? (i := 342) (by decide +kernel)) (by decide +kernel)
set_option maxRecDepth 20000 in
theorem w_343 : Cond.selects RX0 yX0_empty yX0_empty ∈ tW := tW_in (List.mem_of_getElem? (i := 343) (by decide +kernel)) (by decide +kernel)
set_option maxRecDepth 20000 in
theorem w_349 : Cond.constant RX6 107 999999 ∈ tW := tW_in (List.mem_of_getElem? (i := 349) (by decide +kernel)) (by decide +kernel)
set_option maxRecDepth 20000 in
theorem w_199 : Cond.fieldLink RX6 35 "LooseHeap" "lots" "LLooseHeap$Lots;" ∈ tW := tW_in (List.mem_of_getElem? (i := 199) (by decide +kernel)) (by decide +kernel)
set_option maxRecDepth 20000 in
theorem w_350 : Cond.methodLink RX6 108 yX4_begin ∈ tW := tW_in (List.mem_of_getElem? (i := 350) (by decide +kernel)) (by decide +kernel)
set_option maxRecDepth 20000 in
theorem w_351 : Cond.instanceMethod yX4_begin ∈ tW := tW_in (List.mem_of_getElem? (i := 351) (by decide +kernel)) (by decide +kernel)
set_option maxRecDepth 20000 in
theorem w_352 : Cond.selects RX4 yX4_begin yX4_begin ∈ tW := tW_in (List.mem_of_getElem? (i := 352) (by decide +kernel)) (by decide +kernel)
set_option maxRecDepth 20000 in
theorem w_354 : Cond.methodLink RX6 111 yX6_driftOnce ∈ tW := tW_in (List.mem_of_getElem? (i := 354) (by decide +kernel)) (by decide +kernel)
set_option maxRecDepth 20000 in
theorem w_356 : Cond.instanceMethod yX6_driftOnce ∈ tW := tW_in (List.mem_of_getElem? (i := 356) (by decide +kernel)) (by decide +kernel)
set_option maxRecDepth 20000 in
theorem w_9 : Cond.selects RX6 yX6_driftOnce yX6_driftOnce ∈ tW := tW_in (List.mem_of_getElem? (i := 9) (by decide +kernel)) (by decide +kernel)
set_option maxRecDepth 20000 in
theorem w_384 : Cond.methodLink RX6 114 yX2_rootCount ∈ tW := tW_in (List.mem_of_getElem? (i := 384) (by decide +kernel)) (by decide +kernel)
set_option maxRecDepth 20000 in
theorem w_385 : Cond.instanceMethod yX2_rootCount ∈ tW := tW_in (List.mem_of_getElem? (i := 385) (by decide +kernel)) (by decide +kernel)
set_option maxRecDepth 20000 in
theorem w_386 : Cond.selects RX2 yX2_rootCount yX2_rootCount ∈ tW := tW_in (List.mem_of_getElem? (i := 386) (by decide +kernel)) (by decide +kernel)
set_option maxRecDepth 20000 in
theorem w_388 : Cond.methodLink RX6 117 yX2_looseCount ∈ tW := tW_in (List.mem_of_getElem? (i := 388) (by decide +kernel)) (by decide +kernel)
set_option maxRecDepth 20000 in
theorem w_389 : Cond.instanceMethod yX2_looseCount ∈ tW := tW_in (List.mem_of_getElem? (i := 389) (by decide +kernel)) (by decide +kernel)
set_option maxRecDepth 20000 in
theorem w_390 : Cond.selects RX2 yX2_looseCount yX2_looseCount ∈ tW := tW_in (List.mem_of_getElem? (i := 390) (by decide +kernel)) (by decide +kernel)
set_option maxRecDepth 20000 in
theorem w_392 : Cond.methodLink RX6 120 yX2_greatestRank ∈ tW := tW_in (List.mem_of_getElem? (i := 392) (by decide +kernel)) (by decide +kernel)
set_option maxRecDepth 20000 in
theorem w_393 : Cond.instanceMethod yX2_greatestRank ∈ tW := tW_in (List.mem_of_getElem? (i := 393) (by decide +kernel)) (by decide +kernel)
set_option maxRecDepth 20000 in
theorem w_394 : Cond.selects RX2 yX2_greatestRank yX2_greatestRank ∈ tW := tW_in (List.mem_of_getElem? (i := 394) (by decide +kernel)) (by decide +kernel)
set_option maxRecDepth 20000 in
theorem w_399 : Cond.methodLink RX6 123 yX2_links ∈ tW := tW_in (List.mem_of_getElem? (i := 399) (by decide +kernel)) (by decide +kernel)
set_option maxRecDepth 20000 in
theorem w_403 : Cond.methodLink RX6 126 yX2_cuts ∈ tW := tW_in (List.mem_of_getElem? (i := 403) (by decide +kernel)) (by decide +kernel)
set_option maxRecDepth 20000 in
theorem w_407 : Cond.methodLink RX6 129 yX2_longestRow ∈ tW := tW_in (List.mem_of_getElem? (i := 407) (by decide +kernel)) (by decide +kernel)
set_option maxRecDepth 20000 in
theorem w_408 : Cond.instanceMethod yX2_longestRow ∈ tW := tW_in (List.mem_of_getElem? (i := 408) (by decide +kernel)) (by decide +kernel)
set_option maxRecDepth 20000 in
theorem w_409 : Cond.selects RX2 yX2_longestRow yX2_longestRow ∈ tW := tW_in (List.mem_of_getElem? (i := 409) (by decide +kernel)) (by decide +kernel)
set_option maxRecDepth 20000 in
theorem w_198 : Cond.fieldLink RX6 28 "LooseHeap" "roads" "LLooseHeap$Roads;" ∈ tW := tW_in (List.mem_of_getElem? (i := 198) (by decide +kernel)) (by decide +kernel)
set_option maxRecDepth 20000 in
theorem w_415 : Cond.methodLink RX6 132 yX5_places ∈ tW := tW_in (List.mem_of_getElem? (i := 415) (by decide +kernel)) (by decide +kernel)
set_option maxRecDepth 20000 in
theorem w_416 : Cond.instanceMethod yX5_places ∈ tW := tW_in (List.mem_of_getElem? (i := 416) (by decide +kernel)) (by decide +kernel)
set_option maxRecDepth 20000 in
theorem w_417 : Cond.selects RX5 yX5_places yX5_places ∈ tW := tW_in (List.mem_of_getElem? (i := 417) (by decide +kernel)) (by decide +kernel)
set_option maxRecDepth 20000 in
theorem w_419 : Cond.methodLink RX6 135 yX5_count ∈ tW := tW_in (List.mem_of_getElem? (i := 419) (by decide +kernel)) (by decide +kernel)
set_option maxRecDepth 20000 in
theorem w_420 : Cond.instanceMethod yX5_count ∈ tW := tW_in (List.mem_of_getElem? (i := 420) (by decide +kernel)) (by decide +kernel)
set_option maxRecDepth 20000 in
theorem w_421 : Cond.selects RX5 yX5_count yX5_count ∈ tW := tW_in (List.mem_of_getElem? (i := 421) (by decide +kernel)) (by decide +kernel)
set_option maxRecDepth 20000 in
theorem w_427 : Cond.methodLink RX6 136 yX2_kindOf ∈ tW := tW_in (List.mem_of_getElem? (i := 427) (by decide +kernel)) (by decide +kernel)
set_option maxRecDepth 20000 in
theorem w_428 : Cond.instanceMethod yX2_kindOf ∈ tW := tW_in (List.mem_of_getElem? (i := 428) (by decide +kernel)) (by decide +kernel)
set_option maxRecDepth 20000 in
theorem w_429 : Cond.selects RX2 yX2_kindOf yX2_kindOf ∈ tW := tW_in (List.mem_of_getElem? (i := 429) (by decide +kernel)) (by decide +kernel)
set_option maxRecDepth 20000 in
theorem w_431 : Cond.methodLink RX6 139 yX2_aboveOf ∈ tW := tW_in (List.mem_of_getElem? (i := 431) (by decide +kernel)) (by decide +kernel)
set_option maxRecDepth 20000 in
theorem w_432 : Cond.instanceMethod yX2_aboveOf ∈ tW := tW_in (List.mem_of_getElem? (i := 432) (by decide +kernel)) (by decide +kernel)
set_option maxRecDepth 20000 in
theorem w_433 : Cond.selects RX2 yX2_aboveOf yX2_aboveOf ∈ tW := tW_in (List.mem_of_getElem? (i := 433) (by decide +kernel)) (by decide +kernel)
set_option maxRecDepth 20000 in
theorem w_435 : Cond.methodLink RX6 142 yX2_rankOf ∈ tW := tW_in (List.mem_of_getElem? (i := 435) (by decide +kernel)) (by decide +kernel)
set_option maxRecDepth 20000 in
theorem w_436 : Cond.instanceMethod yX2_rankOf ∈ tW := tW_in (List.mem_of_getElem? (i := 436) (by decide +kernel)) (by decide +kernel)
set_option maxRecDepth 20000 in
theorem w_437 : Cond.selects RX2 yX2_rankOf yX2_rankOf ∈ tW := tW_in (List.mem_of_getElem? (i := 437) (by decide +kernel)) (by decide +kernel)
set_option maxRecDepth 20000 in
theorem w_439 : Cond.methodLink RX6 145 yX2_depthOf ∈ tW := tW_in (List.mem_of_getElem? (i := 439) (by decide +kernel)) (by decide +kernel)
set_option maxRecDepth 20000 in
theorem w_440 : Cond.methodLink RX6 148 yX2_sizeOf ∈ tW := tW_in (List.mem_of_getElem? (i := 440) (by decide +kernel)) (by decide +kernel)
set_option maxRecDepth 20000 in
theorem w_441 : Cond.instanceMethod yX2_sizeOf ∈ tW := tW_in (List.mem_of_getElem? (i := 441) (by decide +kernel)) (by decide +kernel)
set_option maxRecDepth 20000 in
theorem w_442 : Cond.selects RX2 yX2_sizeOf yX2_sizeOf ∈ tW := tW_in (List.mem_of_getElem? (i := 442) (by decide +kernel)) (by decide +kernel)
set_option maxRecDepth 20000 in
theorem w_448 : Cond.methodLink RX6 153 yX1_bitsOf ∈ tW := tW_in (List.mem_of_getElem? (i := 448) (by decide +kernel)) (by decide +kernel)
set_option maxRecDepth 20000 in
theorem w_449 : Cond.static yX1_bitsOf ∈ tW := tW_in (List.mem_of_getElem? (i := 449) (by decide +kernel)) (by decide +kernel)
set_option maxRecDepth 20000 in
theorem w_458 : Cond.methodLink RX6 157 yX2_childAt ∈ tW := tW_in (List.mem_of_getElem? (i := 458) (by decide +kernel)) (by decide +kernel)
set_option maxRecDepth 20000 in
theorem w_459 : Cond.instanceMethod yX2_childAt ∈ tW := tW_in (List.mem_of_getElem? (i := 459) (by decide +kernel)) (by decide +kernel)
set_option maxRecDepth 20000 in
theorem w_460 : Cond.selects RX2 yX2_childAt yX2_childAt ∈ tW := tW_in (List.mem_of_getElem? (i := 460) (by decide +kernel)) (by decide +kernel)
set_option maxRecDepth 20000 in
theorem w_466 : Cond.methodLink RX6 160 yX2_looseOfRank ∈ tW := tW_in (List.mem_of_getElem? (i := 466) (by decide +kernel)) (by decide +kernel)
set_option maxRecDepth 20000 in
theorem w_467 : Cond.instanceMethod yX2_looseOfRank ∈ tW := tW_in (List.mem_of_getElem? (i := 467) (by decide +kernel)) (by decide +kernel)
set_option maxRecDepth 20000 in
theorem w_468 : Cond.selects RX2 yX2_looseOfRank yX2_looseOfRank ∈ tW := tW_in (List.mem_of_getElem? (i := 468) (by decide +kernel)) (by decide +kernel)
set_option maxRecDepth 20000 in
theorem w_474 : Cond.methodLink RX6 163 yX2_sumOfKeys ∈ tW := tW_in (List.mem_of_getElem? (i := 474) (by decide +kernel)) (by decide +kernel)
set_option maxRecDepth 20000 in
theorem w_475 : Cond.instanceMethod yX2_sumOfKeys ∈ tW := tW_in (List.mem_of_getElem? (i := 475) (by decide +kernel)) (by decide +kernel)
set_option maxRecDepth 20000 in
theorem w_476 : Cond.selects RX2 yX2_sumOfKeys yX2_sumOfKeys ∈ tW := tW_in (List.mem_of_getElem? (i := 476) (by decide +kernel)) (by decide +kernel)
set_option maxRecDepth 20000 in
theorem w_482 : Cond.constant RX6 166 (-1000000011) ∈ tW := tW_in (List.mem_of_getElem? (i := 482) (by decide +kernel)) (by decide +kernel)
set_option maxRecDepth 20000 in
theorem w_483 : Cond.constant RX6 167 (-1000000012) ∈ tW := tW_in (List.mem_of_getElem? (i := 483) (by decide +kernel)) (by decide +kernel)
set_option maxRecDepth 20000 in
theorem w_484 : Cond.methodLink RX6 168 yX0_seat ∈ tW := tW_in (List.mem_of_getElem? (i := 484) (by decide +kernel)) (by decide +kernel)
set_option maxRecDepth 20000 in
theorem w_485 : Cond.instanceMethod yX0_seat ∈ tW := tW_in (List.mem_of_getElem? (i := 485) (by decide +kernel)) (by decide +kernel)
set_option maxRecDepth 20000 in
theorem w_486 : Cond.selects RX0 yX0_seat yX0_seat ∈ tW := tW_in (List.mem_of_getElem? (i := 486) (by decide +kernel)) (by decide +kernel)
set_option maxRecDepth 20000 in
theorem w_496 : Cond.methodLink RX6 172 yX0_sitter ∈ tW := tW_in (List.mem_of_getElem? (i := 496) (by decide +kernel)) (by decide +kernel)
set_option maxRecDepth 20000 in
theorem w_501 : Cond.methodLink RX6 175 yX5_layOut ∈ tW := tW_in (List.mem_of_getElem? (i := 501) (by decide +kernel)) (by decide +kernel)
set_option maxRecDepth 20000 in
theorem w_502 : Cond.instanceMethod yX5_layOut ∈ tW := tW_in (List.mem_of_getElem? (i := 502) (by decide +kernel)) (by decide +kernel)
set_option maxRecDepth 20000 in
theorem w_503 : Cond.selects RX5 yX5_layOut yX5_layOut ∈ tW := tW_in (List.mem_of_getElem? (i := 503) (by decide +kernel)) (by decide +kernel)
set_option maxRecDepth 20000 in
theorem w_509 : Cond.methodLink RX6 178 yX5_hasPlace ∈ tW := tW_in (List.mem_of_getElem? (i := 509) (by decide +kernel)) (by decide +kernel)
set_option maxRecDepth 20000 in
theorem w_510 : Cond.instanceMethod yX5_hasPlace ∈ tW := tW_in (List.mem_of_getElem? (i := 510) (by decide +kernel)) (by decide +kernel)
set_option maxRecDepth 20000 in
theorem w_511 : Cond.selects RX5 yX5_hasPlace yX5_hasPlace ∈ tW := tW_in (List.mem_of_getElem? (i := 511) (by decide +kernel)) (by decide +kernel)
set_option maxRecDepth 20000 in
theorem w_513 : Cond.methodLink RX6 181 yX5_hasRoom ∈ tW := tW_in (List.mem_of_getElem? (i := 513) (by decide +kernel)) (by decide +kernel)
set_option maxRecDepth 20000 in
theorem w_517 : Cond.methodLink RX6 182 yX5_add ∈ tW := tW_in (List.mem_of_getElem? (i := 517) (by decide +kernel)) (by decide +kernel)
set_option maxRecDepth 20000 in
theorem w_518 : Cond.instanceMethod yX5_add ∈ tW := tW_in (List.mem_of_getElem? (i := 518) (by decide +kernel)) (by decide +kernel)
set_option maxRecDepth 20000 in
theorem w_519 : Cond.selects RX5 yX5_add yX5_add ∈ tW := tW_in (List.mem_of_getElem? (i := 519) (by decide +kernel)) (by decide +kernel)
set_option maxRecDepth 20000 in
theorem w_527 : Cond.methodLink RX6 184 yX5_grow ∈ tW := tW_in (List.mem_of_getElem? (i := 527) (by decide +kernel)) (by decide +kernel)
set_option maxRecDepth 20000 in
theorem w_528 : Cond.instanceMethod yX5_grow ∈ tW := tW_in (List.mem_of_getElem? (i := 528) (by decide +kernel)) (by decide +kernel)
set_option maxRecDepth 20000 in
theorem w_529 : Cond.selects RX5 yX5_grow yX5_grow ∈ tW := tW_in (List.mem_of_getElem? (i := 529) (by decide +kernel)) (by decide +kernel)
set_option maxRecDepth 20000 in
theorem w_555 : Cond.methodLink RX6 188 yX5_weightOfTree ∈ tW := tW_in (List.mem_of_getElem? (i := 555) (by decide +kernel)) (by decide +kernel)
set_option maxRecDepth 20000 in
theorem w_556 : Cond.instanceMethod yX5_weightOfTree ∈ tW := tW_in (List.mem_of_getElem? (i := 556) (by decide +kernel)) (by decide +kernel)
set_option maxRecDepth 20000 in
theorem w_557 : Cond.selects RX5 yX5_weightOfTree yX5_weightOfTree ∈ tW := tW_in (List.mem_of_getElem? (i := 557) (by decide +kernel)) (by decide +kernel)
set_option maxRecDepth 20000 in
theorem w_559 : Cond.methodLink RX6 191 yX5_roadsOfTree ∈ tW := tW_in (List.mem_of_getElem? (i := 559) (by decide +kernel)) (by decide +kernel)
set_option maxRecDepth 20000 in
theorem w_560 : Cond.instanceMethod yX5_roadsOfTree ∈ tW := tW_in (List.mem_of_getElem? (i := 560) (by decide +kernel)) (by decide +kernel)
set_option maxRecDepth 20000 in
theorem w_561 : Cond.selects RX5 yX5_roadsOfTree yX5_roadsOfTree ∈ tW := tW_in (List.mem_of_getElem? (i := 561) (by decide +kernel)) (by decide +kernel)
set_option maxRecDepth 20000 in
theorem w_563 : Cond.methodLink RX6 194 yX5_links ∈ tW := tW_in (List.mem_of_getElem? (i := 563) (by decide +kernel)) (by decide +kernel)
set_option maxRecDepth 20000 in
theorem w_564 : Cond.instanceMethod yX5_links ∈ tW := tW_in (List.mem_of_getElem? (i := 564) (by decide +kernel)) (by decide +kernel)
set_option maxRecDepth 20000 in
theorem w_565 : Cond.selects RX5 yX5_links yX5_links ∈ tW := tW_in (List.mem_of_getElem? (i := 565) (by decide +kernel)) (by decide +kernel)
set_option maxRecDepth 20000 in
theorem w_568 : Cond.methodLink RX6 195 yX5_cuts ∈ tW := tW_in (List.mem_of_getElem? (i := 568) (by decide +kernel)) (by decide +kernel)
set_option maxRecDepth 20000 in
theorem w_569 : Cond.instanceMethod yX5_cuts ∈ tW := tW_in (List.mem_of_getElem? (i := 569) (by decide +kernel)) (by decide +kernel)
set_option maxRecDepth 20000 in
theorem w_570 : Cond.selects RX5 yX5_cuts yX5_cuts ∈ tW := tW_in (List.mem_of_getElem? (i := 570) (by decide +kernel)) (by decide +kernel)
set_option maxRecDepth 20000 in
theorem w_573 : Cond.methodLink RX6 196 yX5_lowerings ∈ tW := tW_in (List.mem_of_getElem? (i := 573) (by decide +kernel)) (by decide +kernel)
set_option maxRecDepth 20000 in
theorem w_574 : Cond.instanceMethod yX5_lowerings ∈ tW := tW_in (List.mem_of_getElem? (i := 574) (by decide +kernel)) (by decide +kernel)
set_option maxRecDepth 20000 in
theorem w_575 : Cond.selects RX5 yX5_lowerings yX5_lowerings ∈ tW := tW_in (List.mem_of_getElem? (i := 575) (by decide +kernel)) (by decide +kernel)
set_option maxRecDepth 20000 in
theorem w_581 : Cond.methodLink RX6 199 yX5_distanceTo ∈ tW := tW_in (List.mem_of_getElem? (i := 581) (by decide +kernel)) (by decide +kernel)
set_option maxRecDepth 20000 in
theorem w_582 : Cond.instanceMethod yX5_distanceTo ∈ tW := tW_in (List.mem_of_getElem? (i := 582) (by decide +kernel)) (by decide +kernel)
set_option maxRecDepth 20000 in
theorem w_583 : Cond.selects RX5 yX5_distanceTo yX5_distanceTo ∈ tW := tW_in (List.mem_of_getElem? (i := 583) (by decide +kernel)) (by decide +kernel)
set_option maxRecDepth 20000 in
theorem w_589 : Cond.methodLink RX6 202 yX5_reachedCount ∈ tW := tW_in (List.mem_of_getElem? (i := 589) (by decide +kernel)) (by decide +kernel)
set_option maxRecDepth 20000 in
theorem w_590 : Cond.instanceMethod yX5_reachedCount ∈ tW := tW_in (List.mem_of_getElem? (i := 590) (by decide +kernel)) (by decide +kernel)
set_option maxRecDepth 20000 in
theorem w_591 : Cond.selects RX5 yX5_reachedCount yX5_reachedCount ∈ tW := tW_in (List.mem_of_getElem? (i := 591) (by decide +kernel)) (by decide +kernel)
set_option maxRecDepth 20000 in
theorem w_200 : Cond.fieldLink RX6 41 "LooseHeap" "images" "[LLooseHeap$Image;" ∈ tW := tW_in (List.mem_of_getElem? (i := 200) (by decide +kernel)) (by decide +kernel)
set_option maxRecDepth 20000 in
theorem w_597 : Cond.methodLink RX6 205 yX3_store ∈ tW := tW_in (List.mem_of_getElem? (i := 597) (by decide +kernel)) (by decide +kernel)
set_option maxRecDepth 20000 in
theorem w_598 : Cond.instanceMethod yX3_store ∈ tW := tW_in (List.mem_of_getElem? (i := 598) (by decide +kernel)) (by decide +kernel)
set_option maxRecDepth 20000 in
theorem w_599 : Cond.selects RX3 yX3_store yX3_store ∈ tW := tW_in (List.mem_of_getElem? (i := 599) (by decide +kernel)) (by decide +kernel)
set_option maxRecDepth 20000 in
theorem w_619 : Cond.methodLink RX6 209 yX3_isKept ∈ tW := tW_in (List.mem_of_getElem? (i := 619) (by decide +kernel)) (by decide +kernel)
set_option maxRecDepth 20000 in
theorem w_620 : Cond.instanceMethod yX3_isKept ∈ tW := tW_in (List.mem_of_getElem? (i := 620) (by decide +kernel)) (by decide +kernel)
set_option maxRecDepth 20000 in
theorem w_621 : Cond.selects RX3 yX3_isKept yX3_isKept ∈ tW := tW_in (List.mem_of_getElem? (i := 621) (by decide +kernel)) (by decide +kernel)
set_option maxRecDepth 20000 in
theorem w_623 : Cond.methodLink RX6 212 yX3_restore ∈ tW := tW_in (List.mem_of_getElem? (i := 623) (by decide +kernel)) (by decide +kernel)
set_option maxRecDepth 20000 in
theorem w_624 : Cond.instanceMethod yX3_restore ∈ tW := tW_in (List.mem_of_getElem? (i := 624) (by decide +kernel)) (by decide +kernel)
set_option maxRecDepth 20000 in
theorem w_625 : Cond.selects RX3 yX3_restore yX3_restore ∈ tW := tW_in (List.mem_of_getElem? (i := 625) (by decide +kernel)) (by decide +kernel)
set_option maxRecDepth 20000 in
theorem w_358 : Cond.methodLink RX6 215 yX4_draw ∈ tW := tW_in (List.mem_of_getElem? (i := 358) (by decide +kernel)) (by decide +kernel)
set_option maxRecDepth 20000 in
theorem w_359 : Cond.instanceMethod yX4_draw ∈ tW := tW_in (List.mem_of_getElem? (i := 359) (by decide +kernel)) (by decide +kernel)
set_option maxRecDepth 20000 in
theorem w_360 : Cond.selects RX4 yX4_draw yX4_draw ∈ tW := tW_in (List.mem_of_getElem? (i := 360) (by decide +kernel)) (by decide +kernel)
set_option maxRecDepth 20000 in
theorem w_364 : Cond.methodLink RX6 218 yX6_putByLots ∈ tW := tW_in (List.mem_of_getElem? (i := 364) (by decide +kernel)) (by decide +kernel)
set_option maxRecDepth 20000 in
theorem w_366 : Cond.instanceMethod yX6_putByLots ∈ tW := tW_in (List.mem_of_getElem? (i := 366) (by decide +kernel)) (by decide +kernel)
set_option maxRecDepth 20000 in
theorem w_10 : Cond.selects RX6 yX6_putByLots yX6_putByLots ∈ tW := tW_in (List.mem_of_getElem? (i := 10) (by decide +kernel)) (by decide +kernel)
set_option maxRecDepth 20000 in
theorem w_368 : Cond.methodLink RX6 221 yX6_lowerByLots ∈ tW := tW_in (List.mem_of_getElem? (i := 368) (by decide +kernel)) (by decide +kernel)
set_option maxRecDepth 20000 in
theorem w_370 : Cond.instanceMethod yX6_lowerByLots ∈ tW := tW_in (List.mem_of_getElem? (i := 370) (by decide +kernel)) (by decide +kernel)
set_option maxRecDepth 20000 in
theorem w_11 : Cond.selects RX6 yX6_lowerByLots yX6_lowerByLots ∈ tW := tW_in (List.mem_of_getElem? (i := 11) (by decide +kernel)) (by decide +kernel)
set_option maxRecDepth 20000 in
theorem w_376 : Cond.methodLink RX6 224 yX6_takeByLots ∈ tW := tW_in (List.mem_of_getElem? (i := 376) (by decide +kernel)) (by decide +kernel)
set_option maxRecDepth 20000 in
theorem w_378 : Cond.instanceMethod yX6_takeByLots ∈ tW := tW_in (List.mem_of_getElem? (i := 378) (by decide +kernel)) (by decide +kernel)
set_option maxRecDepth 20000 in
theorem w_12 : Cond.selects RX6 yX6_takeByLots yX6_takeByLots ∈ tW := tW_in (List.mem_of_getElem? (i := 12) (by decide +kernel)) (by decide +kernel)
set_option maxRecDepth 20000 in
theorem w_372 : Cond.methodLink RX6 227 yX2_standingAt ∈ tW := tW_in (List.mem_of_getElem? (i := 372) (by decide +kernel)) (by decide +kernel)
set_option maxRecDepth 20000 in
theorem w_373 : Cond.instanceMethod yX2_standingAt ∈ tW := tW_in (List.mem_of_getElem? (i := 373) (by decide +kernel)) (by decide +kernel)
set_option maxRecDepth 20000 in
theorem w_374 : Cond.selects RX2 yX2_standingAt yX2_standingAt ∈ tW := tW_in (List.mem_of_getElem? (i := 374) (by decide +kernel)) (by decide +kernel)
set_option maxRecDepth 20000 in
theorem w_643 : Cond.fieldLink RX7 50 "LooseHeapModel" "base" "I" ∈ tW := tW_in (List.mem_of_getElem? (i := 643) (by decide +kernel)) (by decide +kernel)
set_option maxRecDepth 20000 in
theorem w_633 : Cond.fieldLink RX7 54 "LooseHeapModel" "jobs" "I" ∈ tW := tW_in (List.mem_of_getElem? (i := 633) (by decide +kernel)) (by decide +kernel)
set_option maxRecDepth 20000 in
theorem w_644 : Cond.fieldLink RX7 57 "LooseHeapModel" "end" "I" ∈ tW := tW_in (List.mem_of_getElem? (i := 644) (by decide +kernel)) (by decide +kernel)
set_option maxRecDepth 20000 in
theorem w_635 : Cond.fieldLink RX7 13 "LooseHeapModel" "key" "[I" ∈ tW := tW_in (List.mem_of_getElem? (i := 635) (by decide +kernel)) (by decide +kernel)
set_option maxRecDepth 20000 in
theorem w_636 : Cond.fieldLink RX7 16 "LooseHeapModel" "stands" "[Z" ∈ tW := tW_in (List.mem_of_getElem? (i := 636) (by decide +kernel)) (by decide +kernel)
set_option maxRecDepth 20000 in
theorem w_637 : Cond.fieldLink RX7 20 "LooseHeapModel" "below" "[I" ∈ tW := tW_in (List.mem_of_getElem? (i := 637) (by decide +kernel)) (by decide +kernel)
set_option maxRecDepth 20000 in
theorem w_740 : Cond.methodLink RX7 60 yX7_isSooner ∈ tW := tW_in (List.mem_of_getElem? (i := 740) (by decide +kernel)) (by decide +kernel)
set_option maxRecDepth 20000 in
theorem w_742 : Cond.instanceMethod yX7_isSooner ∈ tW := tW_in (List.mem_of_getElem? (i := 742) (by decide +kernel)) (by decide +kernel)
set_option maxRecDepth 20000 in
theorem w_22 : Cond.selects RX7 yX7_isSooner yX7_isSooner ∈ tW := tW_in (List.mem_of_getElem? (i := 22) (by decide +kernel)) (by decide +kernel)
set_option maxRecDepth 20000 in
theorem w_639 : Cond.fieldLink RX7 26 "LooseHeapModel" "came" "[I" ∈ tW := tW_in (List.mem_of_getElem? (i := 639) (by decide +kernel)) (by decide +kernel)
set_option maxRecDepth 20000 in
theorem w_640 : Cond.fieldLink RX7 64 "LooseHeapModel" "counted" "I" ∈ tW := tW_in (List.mem_of_getElem? (i := 640) (by decide +kernel)) (by decide +kernel)
set_option maxRecDepth 20000 in
theorem w_641 : Cond.fieldLink RX7 67 "LooseHeapModel" "links" "I" ∈ tW := tW_in (List.mem_of_getElem? (i := 641) (by decide +kernel)) (by decide +kernel)
set_option maxRecDepth 20000 in
theorem w_638 : Cond.fieldLink RX7 23 "LooseHeapModel" "isLoose" "[Z" ∈ tW := tW_in (List.mem_of_getElem? (i := 638) (by decide +kernel)) (by decide +kernel)
set_option maxRecDepth 20000 in
theorem w_642 : Cond.fieldLink RX7 70 "LooseHeapModel" "cuts" "I" ∈ tW := tW_in (List.mem_of_getElem? (i := 642) (by decide +kernel)) (by decide +kernel)
set_option maxRecDepth 20000 in
theorem w_756 : Cond.methodLink RX7 73 yX7_isOf ∈ tW := tW_in (List.mem_of_getElem? (i := 756) (by decide +kernel)) (by decide +kernel)
set_option maxRecDepth 20000 in
theorem w_758 : Cond.instanceMethod yX7_isOf ∈ tW := tW_in (List.mem_of_getElem? (i := 758) (by decide +kernel)) (by decide +kernel)
set_option maxRecDepth 20000 in
theorem w_26 : Cond.selects RX7 yX7_isOf yX7_isOf ∈ tW := tW_in (List.mem_of_getElem? (i := 26) (by decide +kernel)) (by decide +kernel)
set_option maxRecDepth 20000 in
theorem w_760 : Cond.methodLink RX7 77 yX7_rank ∈ tW := tW_in (List.mem_of_getElem? (i := 760) (by decide +kernel)) (by decide +kernel)
set_option maxRecDepth 20000 in
theorem w_762 : Cond.instanceMethod yX7_rank ∈ tW := tW_in (List.mem_of_getElem? (i := 762) (by decide +kernel)) (by decide +kernel)
set_option maxRecDepth 20000 in
theorem w_27 : Cond.selects RX7 yX7_rank yX7_rank ∈ tW := tW_in (List.mem_of_getElem? (i := 27) (by decide +kernel)) (by decide +kernel)
set_option maxRecDepth 20000 in
theorem w_752 : Cond.methodLink RX7 81 yX7_ofRank ∈ tW := tW_in (List.mem_of_getElem? (i := 752) (by decide +kernel)) (by decide +kernel)
set_option maxRecDepth 20000 in
theorem w_754 : Cond.instanceMethod yX7_ofRank ∈ tW := tW_in (List.mem_of_getElem? (i := 754) (by decide +kernel)) (by decide +kernel)
set_option maxRecDepth 20000 in
theorem w_25 : Cond.selects RX7 yX7_ofRank yX7_ofRank ∈ tW := tW_in (List.mem_of_getElem? (i := 25) (by decide +kernel)) (by decide +kernel)
set_option maxRecDepth 20000 in
theorem w_748 : Cond.methodLink RX7 85 yX7_twice ∈ tW := tW_in (List.mem_of_getElem? (i := 748) (by decide +kernel)) (by decide +kernel)
set_option maxRecDepth 20000 in
theorem w_750 : Cond.instanceMethod yX7_twice ∈ tW := tW_in (List.mem_of_getElem? (i := 750) (by decide +kernel)) (by decide +kernel)
set_option maxRecDepth 20000 in
theorem w_24 : Cond.selects RX7 yX7_twice yX7_twice ∈ tW := tW_in (List.mem_of_getElem? (i := 24) (by decide +kernel)) (by decide +kernel)
set_option maxRecDepth 20000 in
theorem w_764 : Cond.methodLink RX7 89 yX7_cut ∈ tW := tW_in (List.mem_of_getElem? (i := 764) (by decide +kernel)) (by decide +kernel)
set_option maxRecDepth 20000 in
theorem w_766 : Cond.instanceMethod yX7_cut ∈ tW := tW_in (List.mem_of_getElem? (i := 766) (by decide +kernel)) (by decide +kernel)
set_option maxRecDepth 20000 in
theorem w_28 : Cond.selects RX7 yX7_cut yX7_cut ∈ tW := tW_in (List.mem_of_getElem? (i := 28) (by decide +kernel)) (by decide +kernel)
set_option maxRecDepth 20000 in
theorem w_768 : Cond.methodLink RX7 93 yX7_link ∈ tW := tW_in (List.mem_of_getElem? (i := 768) (by decide +kernel)) (by decide +kernel)
set_option maxRecDepth 20000 in
theorem w_770 : Cond.instanceMethod yX7_link ∈ tW := tW_in (List.mem_of_getElem? (i := 770) (by decide +kernel)) (by decide +kernel)
set_option maxRecDepth 20000 in
theorem w_29 : Cond.selects RX7 yX7_link yX7_link ∈ tW := tW_in (List.mem_of_getElem? (i := 29) (by decide +kernel)) (by decide +kernel)
set_option maxRecDepth 20000 in
theorem w_634 : Cond.fieldLink RX7 7 "LooseHeapModel" "kind" "[I" ∈ tW := tW_in (List.mem_of_getElem? (i := 634) (by decide +kernel)) (by decide +kernel)
set_option maxRecDepth 20000 in
theorem w_744 : Cond.methodLink RX7 97 yX7_settle ∈ tW := tW_in (List.mem_of_getElem? (i := 744) (by decide +kernel)) (by decide +kernel)
set_option maxRecDepth 20000 in
theorem w_746 : Cond.instanceMethod yX7_settle ∈ tW := tW_in (List.mem_of_getElem? (i := 746) (by decide +kernel)) (by decide +kernel)
set_option maxRecDepth 20000 in
theorem w_23 : Cond.selects RX7 yX7_settle yX7_settle ∈ tW := tW_in (List.mem_of_getElem? (i := 23) (by decide +kernel)) (by decide +kernel)
set_option maxRecDepth 20000 in
theorem w_784 : Cond.methodLink RX7 100 yX7_joinAll ∈ tW := tW_in (List.mem_of_getElem? (i := 784) (by decide +kernel)) (by decide +kernel)
set_option maxRecDepth 20000 in
theorem w_786 : Cond.instanceMethod yX7_joinAll ∈ tW := tW_in (List.mem_of_getElem? (i := 786) (by decide +kernel)) (by decide +kernel)
set_option maxRecDepth 20000 in
theorem w_32 : Cond.selects RX7 yX7_joinAll yX7_joinAll ∈ tW := tW_in (List.mem_of_getElem? (i := 32) (by decide +kernel)) (by decide +kernel)
set_option maxRecDepth 20000 in
theorem w_713 : Cond.methodLink RX7 103 yX7_own ∈ tW := tW_in (List.mem_of_getElem? (i := 713) (by decide +kernel)) (by decide +kernel)
set_option maxRecDepth 20000 in
theorem w_715 : Cond.instanceMethod yX7_own ∈ tW := tW_in (List.mem_of_getElem? (i := 715) (by decide +kernel)) (by decide +kernel)
set_option maxRecDepth 20000 in
theorem w_18 : Cond.selects RX7 yX7_own yX7_own ∈ tW := tW_in (List.mem_of_getElem? (i := 18) (by decide +kernel)) (by decide +kernel)
set_option maxRecDepth 20000 in
theorem w_717 : Cond.methodLink RX7 106 yX7_in ∈ tW := tW_in (List.mem_of_getElem? (i := 717) (by decide +kernel)) (by decide +kernel)
set_option maxRecDepth 20000 in
theorem w_718 : Cond.static yX7_in ∈ tW := tW_in (List.mem_of_getElem? (i := 718) (by decide +kernel)) (by decide +kernel)
set_option maxRecDepth 20000 in
theorem w_720 : Cond.constant RX7 110 (-1000000002) ∈ tW := tW_in (List.mem_of_getElem? (i := 720) (by decide +kernel)) (by decide +kernel)
set_option maxRecDepth 20000 in
theorem w_721 : Cond.constant RX7 111 (-1000000004) ∈ tW := tW_in (List.mem_of_getElem? (i := 721) (by decide +kernel)) (by decide +kernel)
set_option maxRecDepth 20000 in
theorem w_722 : Cond.methodLink RX7 112 yX7_add ∈ tW := tW_in (List.mem_of_getElem? (i := 722) (by decide +kernel)) (by decide +kernel)
set_option maxRecDepth 20000 in
theorem w_724 : Cond.instanceMethod yX7_add ∈ tW := tW_in (List.mem_of_getElem? (i := 724) (by decide +kernel)) (by decide +kernel)
set_option maxRecDepth 20000 in
theorem w_19 : Cond.selects RX7 yX7_add yX7_add ∈ tW := tW_in (List.mem_of_getElem? (i := 19) (by decide +kernel)) (by decide +kernel)
set_option maxRecDepth 20000 in
theorem w_730 : Cond.methodLink RX7 116 yX7_isJob ∈ tW := tW_in (List.mem_of_getElem? (i := 730) (by decide +kernel)) (by decide +kernel)
set_option maxRecDepth 20000 in
theorem w_732 : Cond.instanceMethod yX7_isJob ∈ tW := tW_in (List.mem_of_getElem? (i := 732) (by decide +kernel)) (by decide +kernel)
set_option maxRecDepth 20000 in
theorem w_20 : Cond.selects RX7 yX7_isJob yX7_isJob ∈ tW := tW_in (List.mem_of_getElem? (i := 20) (by decide +kernel)) (by decide +kernel)
set_option maxRecDepth 20000 in
theorem w_734 : Cond.constant RX7 120 (-1000000001) ∈ tW := tW_in (List.mem_of_getElem? (i := 734) (by decide +kernel)) (by decide +kernel)
set_option maxRecDepth 20000 in
theorem w_735 : Cond.constant RX7 121 (-1000000003) ∈ tW := tW_in (List.mem_of_getElem? (i := 735) (by decide +kernel)) (by decide +kernel)
set_option maxRecDepth 20000 in
theorem w_736 : Cond.methodLink RX7 122 yX7_lowerTo ∈ tW := tW_in (List.mem_of_getElem? (i := 736) (by decide +kernel)) (by decide +kernel)
set_option maxRecDepth 20000 in
theorem w_738 : Cond.instanceMethod yX7_lowerTo ∈ tW := tW_in (List.mem_of_getElem? (i := 738) (by decide +kernel)) (by decide +kernel)
set_option maxRecDepth 20000 in
theorem w_21 : Cond.selects RX7 yX7_lowerTo yX7_lowerTo ∈ tW := tW_in (List.mem_of_getElem? (i := 21) (by decide +kernel)) (by decide +kernel)
set_option maxRecDepth 20000 in
theorem w_776 : Cond.methodLink RX7 125 yX7_soonest ∈ tW := tW_in (List.mem_of_getElem? (i := 776) (by decide +kernel)) (by decide +kernel)
set_option maxRecDepth 20000 in
theorem w_778 : Cond.instanceMethod yX7_soonest ∈ tW := tW_in (List.mem_of_getElem? (i := 778) (by decide +kernel)) (by decide +kernel)
set_option maxRecDepth 20000 in
theorem w_30 : Cond.selects RX7 yX7_soonest yX7_soonest ∈ tW := tW_in (List.mem_of_getElem? (i := 30) (by decide +kernel)) (by decide +kernel)
set_option maxRecDepth 20000 in
theorem w_780 : Cond.methodLink RX7 129 yX7_remove ∈ tW := tW_in (List.mem_of_getElem? (i := 780) (by decide +kernel)) (by decide +kernel)
set_option maxRecDepth 20000 in
theorem w_782 : Cond.instanceMethod yX7_remove ∈ tW := tW_in (List.mem_of_getElem? (i := 782) (by decide +kernel)) (by decide +kernel)
set_option maxRecDepth 20000 in
theorem w_31 : Cond.selects RX7 yX7_remove yX7_remove ∈ tW := tW_in (List.mem_of_getElem? (i := 31) (by decide +kernel)) (by decide +kernel)
set_option maxRecDepth 20000 in
theorem w_792 : Cond.methodLink RX7 132 yX7_standing ∈ tW := tW_in (List.mem_of_getElem? (i := 792) (by decide +kernel)) (by decide +kernel)
set_option maxRecDepth 20000 in
theorem w_794 : Cond.instanceMethod yX7_standing ∈ tW := tW_in (List.mem_of_getElem? (i := 794) (by decide +kernel)) (by decide +kernel)
set_option maxRecDepth 20000 in
theorem w_33 : Cond.selects RX7 yX7_standing yX7_standing ∈ tW := tW_in (List.mem_of_getElem? (i := 33) (by decide +kernel)) (by decide +kernel)
set_option maxRecDepth 20000 in
theorem w_645 : Cond.fieldLink RX7 29 "LooseHeapModel" "bench" "[I" ∈ tW := tW_in (List.mem_of_getElem? (i := 645) (by decide +kernel)) (by decide +kernel)
set_option maxRecDepth 20000 in
theorem w_657 : Cond.fieldLink RX7 135 "LooseHeapModel" "seed" "J" ∈ tW := tW_in (List.mem_of_getElem? (i := 657) (by decide +kernel)) (by decide +kernel)
set_option maxRecDepth 20000 in
theorem w_817 : Cond.constantLong RX7 139 16807 ∈ tW := tW_in (List.mem_of_getElem? (i := 817) (by decide +kernel)) (by decide +kernel)
set_option maxRecDepth 20000 in
theorem w_818 : Cond.constantLong RX7 141 2147483647 ∈ tW := tW_in (List.mem_of_getElem? (i := 818) (by decide +kernel)) (by decide +kernel)
set_option maxRecDepth 20000 in
theorem w_813 : Cond.methodLink RX7 143 yX7_drawn ∈ tW := tW_in (List.mem_of_getElem? (i := 813) (by decide +kernel)) (by decide +kernel)
set_option maxRecDepth 20000 in
theorem w_815 : Cond.instanceMethod yX7_drawn ∈ tW := tW_in (List.mem_of_getElem? (i := 815) (by decide +kernel)) (by decide +kernel)
set_option maxRecDepth 20000 in
theorem w_35 : Cond.selects RX7 yX7_drawn yX7_drawn ∈ tW := tW_in (List.mem_of_getElem? (i := 35) (by decide +kernel)) (by decide +kernel)
set_option maxRecDepth 20000 in
theorem w_819 : Cond.methodLink RX7 146 yX7_standingAt ∈ tW := tW_in (List.mem_of_getElem? (i := 819) (by decide +kernel)) (by decide +kernel)
set_option maxRecDepth 20000 in
theorem w_821 : Cond.instanceMethod yX7_standingAt ∈ tW := tW_in (List.mem_of_getElem? (i := 821) (by decide +kernel)) (by decide +kernel)
set_option maxRecDepth 20000 in
theorem w_36 : Cond.selects RX7 yX7_standingAt yX7_standingAt ∈ tW := tW_in (List.mem_of_getElem? (i := 36) (by decide +kernel)) (by decide +kernel)
set_option maxRecDepth 20000 in
theorem w_808 : Cond.constant RX7 149 999999 ∈ tW := tW_in (List.mem_of_getElem? (i := 808) (by decide +kernel)) (by decide +kernel)
set_option maxRecDepth 20000 in
theorem w_809 : Cond.methodLink RX7 150 yX7_lot ∈ tW := tW_in (List.mem_of_getElem? (i := 809) (by decide +kernel)) (by decide +kernel)
set_option maxRecDepth 20000 in
theorem w_811 : Cond.instanceMethod yX7_lot ∈ tW := tW_in (List.mem_of_getElem? (i := 811) (by decide +kernel)) (by decide +kernel)
set_option maxRecDepth 20000 in
theorem w_34 : Cond.selects RX7 yX7_lot yX7_lot ∈ tW := tW_in (List.mem_of_getElem? (i := 34) (by decide +kernel)) (by decide +kernel)
set_option maxRecDepth 20000 in
theorem w_831 : Cond.methodLink RX7 153 yX7_depth ∈ tW := tW_in (List.mem_of_getElem? (i := 831) (by decide +kernel)) (by decide +kernel)
set_option maxRecDepth 20000 in
theorem w_833 : Cond.instanceMethod yX7_depth ∈ tW := tW_in (List.mem_of_getElem? (i := 833) (by decide +kernel)) (by decide +kernel)
set_option maxRecDepth 20000 in
theorem w_38 : Cond.selects RX7 yX7_depth yX7_depth ∈ tW := tW_in (List.mem_of_getElem? (i := 38) (by decide +kernel)) (by decide +kernel)
set_option maxRecDepth 20000 in
theorem w_827 : Cond.methodLink RX7 156 yX7_many ∈ tW := tW_in (List.mem_of_getElem? (i := 827) (by decide +kernel)) (by decide +kernel)
set_option maxRecDepth 20000 in
theorem w_829 : Cond.instanceMethod yX7_many ∈ tW := tW_in (List.mem_of_getElem? (i := 829) (by decide +kernel)) (by decide +kernel)
set_option maxRecDepth 20000 in
theorem w_37 : Cond.selects RX7 yX7_many yX7_many ∈ tW := tW_in (List.mem_of_getElem? (i := 37) (by decide +kernel)) (by decide +kernel)
set_option maxRecDepth 20000 in
theorem w_646 : Cond.fieldLink RX7 159 "LooseHeapModel" "places" "I" ∈ tW := tW_in (List.mem_of_getElem? (i := 646) (by decide +kernel)) (by decide +kernel)
set_option maxRecDepth 20000 in
theorem w_647 : Cond.fieldLink RX7 162 "LooseHeapModel" "roads" "I" ∈ tW := tW_in (List.mem_of_getElem? (i := 647) (by decide +kernel)) (by decide +kernel)
set_option maxRecDepth 20000 in
theorem w_843 : Cond.methodLink RX7 165 yX7_isUnder ∈ tW := tW_in (List.mem_of_getElem? (i := 843) (by decide +kernel)) (by decide +kernel)
set_option maxRecDepth 20000 in
theorem w_845 : Cond.instanceMethod yX7_isUnder ∈ tW := tW_in (List.mem_of_getElem? (i := 845) (by decide +kernel)) (by decide +kernel)
set_option maxRecDepth 20000 in
theorem w_40 : Cond.selects RX7 yX7_isUnder yX7_isUnder ∈ tW := tW_in (List.mem_of_getElem? (i := 40) (by decide +kernel)) (by decide +kernel)
set_option maxRecDepth 20000 in
theorem w_850 : Cond.methodLink RX7 168 yX7_power ∈ tW := tW_in (List.mem_of_getElem? (i := 850) (by decide +kernel)) (by decide +kernel)
set_option maxRecDepth 20000 in
theorem w_851 : Cond.static yX7_power ∈ tW := tW_in (List.mem_of_getElem? (i := 851) (by decide +kernel)) (by decide +kernel)
set_option maxRecDepth 20000 in
theorem w_853 : Cond.constant RX7 171 (-2147483648) ∈ tW := tW_in (List.mem_of_getElem? (i := 853) (by decide +kernel)) (by decide +kernel)
set_option maxRecDepth 20000 in
theorem w_839 : Cond.methodLink RX7 172 yX7_under ∈ tW := tW_in (List.mem_of_getElem? (i := 839) (by decide +kernel)) (by decide +kernel)
set_option maxRecDepth 20000 in
theorem w_841 : Cond.instanceMethod yX7_under ∈ tW := tW_in (List.mem_of_getElem? (i := 841) (by decide +kernel)) (by decide +kernel)
set_option maxRecDepth 20000 in
theorem w_39 : Cond.selects RX7 yX7_under yX7_under ∈ tW := tW_in (List.mem_of_getElem? (i := 39) (by decide +kernel)) (by decide +kernel)
set_option maxRecDepth 20000 in
theorem w_847 : Cond.methodLink RX7 175 yX7_bitsOf ∈ tW := tW_in (List.mem_of_getElem? (i := 847) (by decide +kernel)) (by decide +kernel)
set_option maxRecDepth 20000 in
theorem w_848 : Cond.static yX7_bitsOf ∈ tW := tW_in (List.mem_of_getElem? (i := 848) (by decide +kernel)) (by decide +kernel)
set_option maxRecDepth 20000 in
theorem w_866 : Cond.constantLong RX7 178 (-9223372036854775808) ∈ tW := tW_in (List.mem_of_getElem? (i := 866) (by decide +kernel)) (by decide +kernel)
set_option maxRecDepth 20000 in
theorem w_871 : Cond.constant RX7 180 (-1000000011) ∈ tW := tW_in (List.mem_of_getElem? (i := 871) (by decide +kernel)) (by decide +kernel)
set_option maxRecDepth 20000 in
theorem w_872 : Cond.constant RX7 181 (-1000000012) ∈ tW := tW_in (List.mem_of_getElem? (i := 872) (by decide +kernel)) (by decide +kernel)
set_option maxRecDepth 20000 in
theorem w_885 : Cond.methodLink RX7 182 yX7_isPlace ∈ tW := tW_in (List.mem_of_getElem? (i := 885) (by decide +kernel)) (by decide +kernel)
set_option maxRecDepth 20000 in
theorem w_887 : Cond.instanceMethod yX7_isPlace ∈ tW := tW_in (List.mem_of_getElem? (i := 887) (by decide +kernel)) (by decide +kernel)
set_option maxRecDepth 20000 in
theorem w_41 : Cond.selects RX7 yX7_isPlace yX7_isPlace ∈ tW := tW_in (List.mem_of_getElem? (i := 41) (by decide +kernel)) (by decide +kernel)
set_option maxRecDepth 20000 in
theorem w_648 : Cond.fieldLink RX7 32 "LooseHeapModel" "one" "[I" ∈ tW := tW_in (List.mem_of_getElem? (i := 648) (by decide +kernel)) (by decide +kernel)
set_option maxRecDepth 20000 in
theorem w_649 : Cond.fieldLink RX7 35 "LooseHeapModel" "other" "[I" ∈ tW := tW_in (List.mem_of_getElem? (i := 649) (by decide +kernel)) (by decide +kernel)
set_option maxRecDepth 20000 in
theorem w_650 : Cond.fieldLink RX7 38 "LooseHeapModel" "weight" "[I" ∈ tW := tW_in (List.mem_of_getElem? (i := 650) (by decide +kernel)) (by decide +kernel)
set_option maxRecDepth 20000 in
theorem w_651 : Cond.fieldLink RX7 41 "LooseHeapModel" "hangs" "[I" ∈ tW := tW_in (List.mem_of_getElem? (i := 651) (by decide +kernel)) (by decide +kernel)
set_option maxRecDepth 20000 in
theorem w_652 : Cond.fieldLink RX7 185 "LooseHeapModel" "lowered" "I" ∈ tW := tW_in (List.mem_of_getElem? (i := 652) (by decide +kernel)) (by decide +kernel)
set_option maxRecDepth 20000 in
theorem w_897 : Cond.methodLink RX7 188 yX7_goFrom ∈ tW := tW_in (List.mem_of_getElem? (i := 897) (by decide +kernel)) (by decide +kernel)
set_option maxRecDepth 20000 in
theorem w_899 : Cond.instanceMethod yX7_goFrom ∈ tW := tW_in (List.mem_of_getElem? (i := 899) (by decide +kernel)) (by decide +kernel)
set_option maxRecDepth 20000 in
theorem w_43 : Cond.selects RX7 yX7_goFrom yX7_goFrom ∈ tW := tW_in (List.mem_of_getElem? (i := 43) (by decide +kernel)) (by decide +kernel)
set_option maxRecDepth 20000 in
theorem w_653 : Cond.fieldLink RX7 192 "LooseHeapModel" "ownLinks" "I" ∈ tW := tW_in (List.mem_of_getElem? (i := 653) (by decide +kernel)) (by decide +kernel)
set_option maxRecDepth 20000 in
theorem w_654 : Cond.fieldLink RX7 195 "LooseHeapModel" "ownCuts" "I" ∈ tW := tW_in (List.mem_of_getElem? (i := 654) (by decide +kernel)) (by decide +kernel)
set_option maxRecDepth 20000 in
theorem w_893 : Cond.methodLink RX7 198 yX7_lay ∈ tW := tW_in (List.mem_of_getElem? (i := 893) (by decide +kernel)) (by decide +kernel)
set_option maxRecDepth 20000 in
theorem w_895 : Cond.instanceMethod yX7_lay ∈ tW := tW_in (List.mem_of_getElem? (i := 895) (by decide +kernel)) (by decide +kernel)
set_option maxRecDepth 20000 in
theorem w_42 : Cond.selects RX7 yX7_lay yX7_lay ∈ tW := tW_in (List.mem_of_getElem? (i := 42) (by decide +kernel)) (by decide +kernel)
set_option maxRecDepth 20000 in
theorem w_901 : Cond.methodLink RX7 201 yX7_hanging ∈ tW := tW_in (List.mem_of_getElem? (i := 901) (by decide +kernel)) (by decide +kernel)
set_option maxRecDepth 20000 in
theorem w_903 : Cond.instanceMethod yX7_hanging ∈ tW := tW_in (List.mem_of_getElem? (i := 903) (by decide +kernel)) (by decide +kernel)
set_option maxRecDepth 20000 in
theorem w_44 : Cond.selects RX7 yX7_hanging yX7_hanging ∈ tW := tW_in (List.mem_of_getElem? (i := 44) (by decide +kernel)) (by decide +kernel)
set_option maxRecDepth 20000 in
theorem w_655 : Cond.fieldLink RX7 44 "LooseHeapModel" "image" "[I" ∈ tW := tW_in (List.mem_of_getElem? (i := 655) (by decide +kernel)) (by decide +kernel)
set_option maxRecDepth 20000 in
theorem w_656 : Cond.fieldLink RX7 47 "LooseHeapModel" "isKept" "[Z" ∈ tW := tW_in (List.mem_of_getElem? (i := 656) (by decide +kernel)) (by decide +kernel)
set_option maxRecDepth 20000 in
theorem w_212 : Cond.methodLink RL 13 yX6_put ∈ tW := tW_in (List.mem_of_getElem? (i := 212) (by decide +kernel)) (by decide +kernel)
set_option maxRecDepth 20000 in
theorem w_213 : Cond.instanceMethod yX6_put ∈ tW := tW_in (List.mem_of_getElem? (i := 213) (by decide +kernel)) (by decide +kernel)
set_option maxRecDepth 20000 in
theorem w_214 : Cond.selects RX6 yX6_put yX6_put ∈ tW := tW_in (List.mem_of_getElem? (i := 214) (by decide +kernel)) (by decide +kernel)
set_option maxRecDepth 20000 in
theorem w_709 : Cond.methodLink RL 17 yX7_put ∈ tW := tW_in (List.mem_of_getElem? (i := 709) (by decide +kernel)) (by decide +kernel)
set_option maxRecDepth 20000 in
theorem w_710 : Cond.instanceMethod yX7_put ∈ tW := tW_in (List.mem_of_getElem? (i := 710) (by decide +kernel)) (by decide +kernel)
set_option maxRecDepth 20000 in
theorem w_711 : Cond.selects RX7 yX7_put yX7_put ∈ tW := tW_in (List.mem_of_getElem? (i := 711) (by decide +kernel)) (by decide +kernel)
set_option maxRecDepth 20000 in
theorem w_234 : Cond.methodLink RL 18 yX6_lower ∈ tW := tW_in (List.mem_of_getElem? (i := 234) (by decide +kernel)) (by decide +kernel)
set_option maxRecDepth 20000 in
theorem w_235 : Cond.instanceMethod yX6_lower ∈ tW := tW_in (List.mem_of_getElem? (i := 235) (by decide +kernel)) (by decide +kernel)
set_option maxRecDepth 20000 in
theorem w_236 : Cond.selects RX6 yX6_lower yX6_lower ∈ tW := tW_in (List.mem_of_getElem? (i := 236) (by decide +kernel)) (by decide +kernel)
set_option maxRecDepth 20000 in
theorem w_726 : Cond.methodLink RL 21 yX7_lower ∈ tW := tW_in (List.mem_of_getElem? (i := 726) (by decide +kernel)) (by decide +kernel)
set_option maxRecDepth 20000 in
theorem w_727 : Cond.instanceMethod yX7_lower ∈ tW := tW_in (List.mem_of_getElem? (i := 727) (by decide +kernel)) (by decide +kernel)
set_option maxRecDepth 20000 in
theorem w_728 : Cond.selects RX7 yX7_lower yX7_lower ∈ tW := tW_in (List.mem_of_getElem? (i := 728) (by decide +kernel)) (by decide +kernel)
set_option maxRecDepth 20000 in
theorem w_296 : Cond.methodLink RL 22 yX6_take ∈ tW := tW_in (List.mem_of_getElem? (i := 296) (by decide +kernel)) (by decide +kernel)
set_option maxRecDepth 20000 in
theorem w_297 : Cond.instanceMethod yX6_take ∈ tW := tW_in (List.mem_of_getElem? (i := 297) (by decide +kernel)) (by decide +kernel)
set_option maxRecDepth 20000 in
theorem w_298 : Cond.selects RX6 yX6_take yX6_take ∈ tW := tW_in (List.mem_of_getElem? (i := 298) (by decide +kernel)) (by decide +kernel)
set_option maxRecDepth 20000 in
theorem w_772 : Cond.methodLink RL 26 yX7_take ∈ tW := tW_in (List.mem_of_getElem? (i := 772) (by decide +kernel)) (by decide +kernel)
set_option maxRecDepth 20000 in
theorem w_773 : Cond.instanceMethod yX7_take ∈ tW := tW_in (List.mem_of_getElem? (i := 773) (by decide +kernel)) (by decide +kernel)
set_option maxRecDepth 20000 in
theorem w_774 : Cond.selects RX7 yX7_take yX7_take ∈ tW := tW_in (List.mem_of_getElem? (i := 774) (by decide +kernel)) (by decide +kernel)
set_option maxRecDepth 20000 in
theorem w_316 : Cond.methodLink RL 27 yX6_drop ∈ tW := tW_in (List.mem_of_getElem? (i := 316) (by decide +kernel)) (by decide +kernel)
set_option maxRecDepth 20000 in
theorem w_317 : Cond.instanceMethod yX6_drop ∈ tW := tW_in (List.mem_of_getElem? (i := 317) (by decide +kernel)) (by decide +kernel)
set_option maxRecDepth 20000 in
theorem w_318 : Cond.selects RX6 yX6_drop yX6_drop ∈ tW := tW_in (List.mem_of_getElem? (i := 318) (by decide +kernel)) (by decide +kernel)
set_option maxRecDepth 20000 in
theorem w_788 : Cond.methodLink RL 31 yX7_drop ∈ tW := tW_in (List.mem_of_getElem? (i := 788) (by decide +kernel)) (by decide +kernel)
set_option maxRecDepth 20000 in
theorem w_789 : Cond.instanceMethod yX7_drop ∈ tW := tW_in (List.mem_of_getElem? (i := 789) (by decide +kernel)) (by decide +kernel)
set_option maxRecDepth 20000 in
theorem w_790 : Cond.selects RX7 yX7_drop yX7_drop ∈ tW := tW_in (List.mem_of_getElem? (i := 790) (by decide +kernel)) (by decide +kernel)
set_option maxRecDepth 20000 in
theorem w_324 : Cond.methodLink RL 32 yX6_join ∈ tW := tW_in (List.mem_of_getElem? (i := 324) (by decide +kernel)) (by decide +kernel)
set_option maxRecDepth 20000 in
theorem w_325 : Cond.instanceMethod yX6_join ∈ tW := tW_in (List.mem_of_getElem? (i := 325) (by decide +kernel)) (by decide +kernel)
set_option maxRecDepth 20000 in
theorem w_326 : Cond.selects RX6 yX6_join yX6_join ∈ tW := tW_in (List.mem_of_getElem? (i := 326) (by decide +kernel)) (by decide +kernel)
set_option maxRecDepth 20000 in
theorem w_796 : Cond.methodLink RL 35 yX7_join ∈ tW := tW_in (List.mem_of_getElem? (i := 796) (by decide +kernel)) (by decide +kernel)
set_option maxRecDepth 20000 in
theorem w_797 : Cond.instanceMethod yX7_join ∈ tW := tW_in (List.mem_of_getElem? (i := 797) (by decide +kernel)) (by decide +kernel)
set_option maxRecDepth 20000 in
theorem w_798 : Cond.selects RX7 yX7_join yX7_join ∈ tW := tW_in (List.mem_of_getElem? (i := 798) (by decide +kernel)) (by decide +kernel)
set_option maxRecDepth 20000 in
theorem w_329 : Cond.methodLink RL 36 yX6_clear ∈ tW := tW_in (List.mem_of_getElem? (i := 329) (by decide +kernel)) (by decide +kernel)
set_option maxRecDepth 20000 in
theorem w_330 : Cond.instanceMethod yX6_clear ∈ tW := tW_in (List.mem_of_getElem? (i := 330) (by decide +kernel)) (by decide +kernel)
set_option maxRecDepth 20000 in
theorem w_331 : Cond.selects RX6 yX6_clear yX6_clear ∈ tW := tW_in (List.mem_of_getElem? (i := 331) (by decide +kernel)) (by decide +kernel)
set_option maxRecDepth 20000 in
theorem w_800 : Cond.methodLink RL 39 yX7_clear ∈ tW := tW_in (List.mem_of_getElem? (i := 800) (by decide +kernel)) (by decide +kernel)
set_option maxRecDepth 20000 in
theorem w_801 : Cond.instanceMethod yX7_clear ∈ tW := tW_in (List.mem_of_getElem? (i := 801) (by decide +kernel)) (by decide +kernel)
set_option maxRecDepth 20000 in
theorem w_802 : Cond.selects RX7 yX7_clear yX7_clear ∈ tW := tW_in (List.mem_of_getElem? (i := 802) (by decide +kernel)) (by decide +kernel)
set_option maxRecDepth 20000 in
theorem w_345 : Cond.methodLink RL 40 yX6_drift ∈ tW := tW_in (List.mem_of_getElem? (i := 345) (by decide +kernel)) (by decide +kernel)
set_option maxRecDepth 20000 in
theorem w_346 : Cond.instanceMethod yX6_drift ∈ tW := tW_in (List.mem_of_getElem? (i := 346) (by decide +kernel)) (by decide +kernel)
set_option maxRecDepth 20000 in
theorem w_347 : Cond.selects RX6 yX6_drift yX6_drift ∈ tW := tW_in (List.mem_of_getElem? (i := 347) (by decide +kernel)) (by decide +kernel)
set_option maxRecDepth 20000 in
theorem w_804 : Cond.methodLink RL 43 yX7_drift ∈ tW := tW_in (List.mem_of_getElem? (i := 804) (by decide +kernel)) (by decide +kernel)
set_option maxRecDepth 20000 in
theorem w_805 : Cond.instanceMethod yX7_drift ∈ tW := tW_in (List.mem_of_getElem? (i := 805) (by decide +kernel)) (by decide +kernel)
set_option maxRecDepth 20000 in
theorem w_806 : Cond.selects RX7 yX7_drift yX7_drift ∈ tW := tW_in (List.mem_of_getElem? (i := 806) (by decide +kernel)) (by decide +kernel)
set_option maxRecDepth 20000 in
theorem w_380 : Cond.methodLink RL 44 yX6_told ∈ tW := tW_in (List.mem_of_getElem? (i := 380) (by decide +kernel)) (by decide +kernel)
set_option maxRecDepth 20000 in
theorem w_381 : Cond.instanceMethod yX6_told ∈ tW := tW_in (List.mem_of_getElem? (i := 381) (by decide +kernel)) (by decide +kernel)
set_option maxRecDepth 20000 in
theorem w_382 : Cond.selects RX6 yX6_told yX6_told ∈ tW := tW_in (List.mem_of_getElem? (i := 382) (by decide +kernel)) (by decide +kernel)
set_option maxRecDepth 20000 in
theorem w_823 : Cond.methodLink RL 47 yX7_told ∈ tW := tW_in (List.mem_of_getElem? (i := 823) (by decide +kernel)) (by decide +kernel)
set_option maxRecDepth 20000 in
theorem w_824 : Cond.instanceMethod yX7_told ∈ tW := tW_in (List.mem_of_getElem? (i := 824) (by decide +kernel)) (by decide +kernel)
set_option maxRecDepth 20000 in
theorem w_825 : Cond.selects RX7 yX7_told yX7_told ∈ tW := tW_in (List.mem_of_getElem? (i := 825) (by decide +kernel)) (by decide +kernel)
set_option maxRecDepth 20000 in
theorem w_423 : Cond.methodLink RL 48 yX6_job ∈ tW := tW_in (List.mem_of_getElem? (i := 423) (by decide +kernel)) (by decide +kernel)
set_option maxRecDepth 20000 in
theorem w_424 : Cond.instanceMethod yX6_job ∈ tW := tW_in (List.mem_of_getElem? (i := 424) (by decide +kernel)) (by decide +kernel)
set_option maxRecDepth 20000 in
theorem w_425 : Cond.selects RX6 yX6_job yX6_job ∈ tW := tW_in (List.mem_of_getElem? (i := 425) (by decide +kernel)) (by decide +kernel)
set_option maxRecDepth 20000 in
theorem w_835 : Cond.methodLink RL 51 yX7_job ∈ tW := tW_in (List.mem_of_getElem? (i := 835) (by decide +kernel)) (by decide +kernel)
set_option maxRecDepth 20000 in
theorem w_836 : Cond.instanceMethod yX7_job ∈ tW := tW_in (List.mem_of_getElem? (i := 836) (by decide +kernel)) (by decide +kernel)
set_option maxRecDepth 20000 in
theorem w_837 : Cond.selects RX7 yX7_job yX7_job ∈ tW := tW_in (List.mem_of_getElem? (i := 837) (by decide +kernel)) (by decide +kernel)
set_option maxRecDepth 20000 in
theorem w_454 : Cond.methodLink RL 52 yX6_child ∈ tW := tW_in (List.mem_of_getElem? (i := 454) (by decide +kernel)) (by decide +kernel)
set_option maxRecDepth 20000 in
theorem w_455 : Cond.instanceMethod yX6_child ∈ tW := tW_in (List.mem_of_getElem? (i := 455) (by decide +kernel)) (by decide +kernel)
set_option maxRecDepth 20000 in
theorem w_456 : Cond.selects RX6 yX6_child yX6_child ∈ tW := tW_in (List.mem_of_getElem? (i := 456) (by decide +kernel)) (by decide +kernel)
set_option maxRecDepth 20000 in
theorem w_854 : Cond.methodLink RL 55 yX7_child ∈ tW := tW_in (List.mem_of_getElem? (i := 854) (by decide +kernel)) (by decide +kernel)
set_option maxRecDepth 20000 in
theorem w_855 : Cond.instanceMethod yX7_child ∈ tW := tW_in (List.mem_of_getElem? (i := 855) (by decide +kernel)) (by decide +kernel)
set_option maxRecDepth 20000 in
theorem w_856 : Cond.selects RX7 yX7_child yX7_child ∈ tW := tW_in (List.mem_of_getElem? (i := 856) (by decide +kernel)) (by decide +kernel)
set_option maxRecDepth 20000 in
theorem w_462 : Cond.methodLink RL 56 yX6_loose ∈ tW := tW_in (List.mem_of_getElem? (i := 462) (by decide +kernel)) (by decide +kernel)
set_option maxRecDepth 20000 in
theorem w_463 : Cond.instanceMethod yX6_loose ∈ tW := tW_in (List.mem_of_getElem? (i := 463) (by decide +kernel)) (by decide +kernel)
set_option maxRecDepth 20000 in
theorem w_464 : Cond.selects RX6 yX6_loose yX6_loose ∈ tW := tW_in (List.mem_of_getElem? (i := 464) (by decide +kernel)) (by decide +kernel)
set_option maxRecDepth 20000 in
theorem w_858 : Cond.methodLink RL 59 yX7_loose ∈ tW := tW_in (List.mem_of_getElem? (i := 858) (by decide +kernel)) (by decide +kernel)
set_option maxRecDepth 20000 in
theorem w_859 : Cond.instanceMethod yX7_loose ∈ tW := tW_in (List.mem_of_getElem? (i := 859) (by decide +kernel)) (by decide +kernel)
set_option maxRecDepth 20000 in
theorem w_860 : Cond.selects RX7 yX7_loose yX7_loose ∈ tW := tW_in (List.mem_of_getElem? (i := 860) (by decide +kernel)) (by decide +kernel)
set_option maxRecDepth 20000 in
theorem w_470 : Cond.methodLink RL 60 yX6_bits ∈ tW := tW_in (List.mem_of_getElem? (i := 470) (by decide +kernel)) (by decide +kernel)
set_option maxRecDepth 20000 in
theorem w_471 : Cond.instanceMethod yX6_bits ∈ tW := tW_in (List.mem_of_getElem? (i := 471) (by decide +kernel)) (by decide +kernel)
set_option maxRecDepth 20000 in
theorem w_472 : Cond.selects RX6 yX6_bits yX6_bits ∈ tW := tW_in (List.mem_of_getElem? (i := 472) (by decide +kernel)) (by decide +kernel)
set_option maxRecDepth 20000 in
theorem w_862 : Cond.methodLink RL 64 yX7_bits ∈ tW := tW_in (List.mem_of_getElem? (i := 862) (by decide +kernel)) (by decide +kernel)
set_option maxRecDepth 20000 in
theorem w_863 : Cond.instanceMethod yX7_bits ∈ tW := tW_in (List.mem_of_getElem? (i := 863) (by decide +kernel)) (by decide +kernel)
set_option maxRecDepth 20000 in
theorem w_864 : Cond.selects RX7 yX7_bits yX7_bits ∈ tW := tW_in (List.mem_of_getElem? (i := 864) (by decide +kernel)) (by decide +kernel)
set_option maxRecDepth 20000 in
theorem w_478 : Cond.methodLink RL 65 yX6_sit ∈ tW := tW_in (List.mem_of_getElem? (i := 478) (by decide +kernel)) (by decide +kernel)
set_option maxRecDepth 20000 in
theorem w_479 : Cond.instanceMethod yX6_sit ∈ tW := tW_in (List.mem_of_getElem? (i := 479) (by decide +kernel)) (by decide +kernel)
set_option maxRecDepth 20000 in
theorem w_480 : Cond.selects RX6 yX6_sit yX6_sit ∈ tW := tW_in (List.mem_of_getElem? (i := 480) (by decide +kernel)) (by decide +kernel)
set_option maxRecDepth 20000 in
theorem w_867 : Cond.methodLink RL 69 yX7_sit ∈ tW := tW_in (List.mem_of_getElem? (i := 867) (by decide +kernel)) (by decide +kernel)
set_option maxRecDepth 20000 in
theorem w_868 : Cond.instanceMethod yX7_sit ∈ tW := tW_in (List.mem_of_getElem? (i := 868) (by decide +kernel)) (by decide +kernel)
set_option maxRecDepth 20000 in
theorem w_869 : Cond.selects RX7 yX7_sit yX7_sit ∈ tW := tW_in (List.mem_of_getElem? (i := 869) (by decide +kernel)) (by decide +kernel)
set_option maxRecDepth 20000 in
theorem w_492 : Cond.methodLink RL 70 yX6_sits ∈ tW := tW_in (List.mem_of_getElem? (i := 492) (by decide +kernel)) (by decide +kernel)
set_option maxRecDepth 20000 in
theorem w_493 : Cond.instanceMethod yX6_sits ∈ tW := tW_in (List.mem_of_getElem? (i := 493) (by decide +kernel)) (by decide +kernel)
set_option maxRecDepth 20000 in
theorem w_494 : Cond.selects RX6 yX6_sits yX6_sits ∈ tW := tW_in (List.mem_of_getElem? (i := 494) (by decide +kernel)) (by decide +kernel)
set_option maxRecDepth 20000 in
theorem w_873 : Cond.methodLink RL 73 yX7_sits ∈ tW := tW_in (List.mem_of_getElem? (i := 873) (by decide +kernel)) (by decide +kernel)
set_option maxRecDepth 20000 in
theorem w_874 : Cond.instanceMethod yX7_sits ∈ tW := tW_in (List.mem_of_getElem? (i := 874) (by decide +kernel)) (by decide +kernel)
set_option maxRecDepth 20000 in
theorem w_875 : Cond.selects RX7 yX7_sits yX7_sits ∈ tW := tW_in (List.mem_of_getElem? (i := 875) (by decide +kernel)) (by decide +kernel)
set_option maxRecDepth 20000 in
theorem w_497 : Cond.methodLink RL 74 yX6_net ∈ tW := tW_in (List.mem_of_getElem? (i := 497) (by decide +kernel)) (by decide +kernel)
set_option maxRecDepth 20000 in
theorem w_498 : Cond.instanceMethod yX6_net ∈ tW := tW_in (List.mem_of_getElem? (i := 498) (by decide +kernel)) (by decide +kernel)
set_option maxRecDepth 20000 in
theorem w_499 : Cond.selects RX6 yX6_net yX6_net ∈ tW := tW_in (List.mem_of_getElem? (i := 499) (by decide +kernel)) (by decide +kernel)
set_option maxRecDepth 20000 in
theorem w_877 : Cond.methodLink RL 77 yX7_net ∈ tW := tW_in (List.mem_of_getElem? (i := 877) (by decide +kernel)) (by decide +kernel)
set_option maxRecDepth 20000 in
theorem w_878 : Cond.instanceMethod yX7_net ∈ tW := tW_in (List.mem_of_getElem? (i := 878) (by decide +kernel)) (by decide +kernel)
set_option maxRecDepth 20000 in
theorem w_879 : Cond.selects RX7 yX7_net yX7_net ∈ tW := tW_in (List.mem_of_getElem? (i := 879) (by decide +kernel)) (by decide +kernel)
set_option maxRecDepth 20000 in
theorem w_505 : Cond.methodLink RL 78 yX6_road ∈ tW := tW_in (List.mem_of_getElem? (i := 505) (by decide +kernel)) (by decide +kernel)
set_option maxRecDepth 20000 in
theorem w_506 : Cond.instanceMethod yX6_road ∈ tW := tW_in (List.mem_of_getElem? (i := 506) (by decide +kernel)) (by decide +kernel)
set_option maxRecDepth 20000 in
theorem w_507 : Cond.selects RX6 yX6_road yX6_road ∈ tW := tW_in (List.mem_of_getElem? (i := 507) (by decide +kernel)) (by decide +kernel)
set_option maxRecDepth 20000 in
theorem w_881 : Cond.methodLink RL 81 yX7_road ∈ tW := tW_in (List.mem_of_getElem? (i := 881) (by decide +kernel)) (by decide +kernel)
set_option maxRecDepth 20000 in
theorem w_882 : Cond.instanceMethod yX7_road ∈ tW := tW_in (List.mem_of_getElem? (i := 882) (by decide +kernel)) (by decide +kernel)
set_option maxRecDepth 20000 in
theorem w_883 : Cond.selects RX7 yX7_road yX7_road ∈ tW := tW_in (List.mem_of_getElem? (i := 883) (by decide +kernel)) (by decide +kernel)
set_option maxRecDepth 20000 in
theorem w_523 : Cond.methodLink RL 82 yX6_tree ∈ tW := tW_in (List.mem_of_getElem? (i := 523) (by decide +kernel)) (by decide +kernel)
set_option maxRecDepth 20000 in
theorem w_524 : Cond.instanceMethod yX6_tree ∈ tW := tW_in (List.mem_of_getElem? (i := 524) (by decide +kernel)) (by decide +kernel)
set_option maxRecDepth 20000 in
theorem w_525 : Cond.selects RX6 yX6_tree yX6_tree ∈ tW := tW_in (List.mem_of_getElem? (i := 525) (by decide +kernel)) (by decide +kernel)
set_option maxRecDepth 20000 in
theorem w_889 : Cond.methodLink RL 85 yX7_tree ∈ tW := tW_in (List.mem_of_getElem? (i := 889) (by decide +kernel)) (by decide +kernel)
set_option maxRecDepth 20000 in
theorem w_890 : Cond.instanceMethod yX7_tree ∈ tW := tW_in (List.mem_of_getElem? (i := 890) (by decide +kernel)) (by decide +kernel)
set_option maxRecDepth 20000 in
theorem w_891 : Cond.selects RX7 yX7_tree yX7_tree ∈ tW := tW_in (List.mem_of_getElem? (i := 891) (by decide +kernel)) (by decide +kernel)
set_option maxRecDepth 20000 in
theorem w_577 : Cond.methodLink RL 86 yX6_way ∈ tW := tW_in (List.mem_of_getElem? (i := 577) (by decide +kernel)) (by decide +kernel)
set_option maxRecDepth 20000 in
theorem w_578 : Cond.instanceMethod yX6_way ∈ tW := tW_in (List.mem_of_getElem? (i := 578) (by decide +kernel)) (by decide +kernel)
set_option maxRecDepth 20000 in
theorem w_579 : Cond.selects RX6 yX6_way yX6_way ∈ tW := tW_in (List.mem_of_getElem? (i := 579) (by decide +kernel)) (by decide +kernel)
set_option maxRecDepth 20000 in
theorem w_905 : Cond.methodLink RL 89 yX7_way ∈ tW := tW_in (List.mem_of_getElem? (i := 905) (by decide +kernel)) (by decide +kernel)
set_option maxRecDepth 20000 in
theorem w_906 : Cond.instanceMethod yX7_way ∈ tW := tW_in (List.mem_of_getElem? (i := 906) (by decide +kernel)) (by decide +kernel)
set_option maxRecDepth 20000 in
theorem w_907 : Cond.selects RX7 yX7_way yX7_way ∈ tW := tW_in (List.mem_of_getElem? (i := 907) (by decide +kernel)) (by decide +kernel)
set_option maxRecDepth 20000 in
theorem w_585 : Cond.methodLink RL 90 yX6_ways ∈ tW := tW_in (List.mem_of_getElem? (i := 585) (by decide +kernel)) (by decide +kernel)
set_option maxRecDepth 20000 in
theorem w_586 : Cond.instanceMethod yX6_ways ∈ tW := tW_in (List.mem_of_getElem? (i := 586) (by decide +kernel)) (by decide +kernel)
set_option maxRecDepth 20000 in
theorem w_587 : Cond.selects RX6 yX6_ways yX6_ways ∈ tW := tW_in (List.mem_of_getElem? (i := 587) (by decide +kernel)) (by decide +kernel)
set_option maxRecDepth 20000 in
theorem w_909 : Cond.methodLink RL 93 yX7_ways ∈ tW := tW_in (List.mem_of_getElem? (i := 909) (by decide +kernel)) (by decide +kernel)
set_option maxRecDepth 20000 in
theorem w_910 : Cond.instanceMethod yX7_ways ∈ tW := tW_in (List.mem_of_getElem? (i := 910) (by decide +kernel)) (by decide +kernel)
set_option maxRecDepth 20000 in
theorem w_911 : Cond.selects RX7 yX7_ways yX7_ways ∈ tW := tW_in (List.mem_of_getElem? (i := 911) (by decide +kernel)) (by decide +kernel)
set_option maxRecDepth 20000 in
theorem w_593 : Cond.methodLink RL 94 yX6_keep ∈ tW := tW_in (List.mem_of_getElem? (i := 593) (by decide +kernel)) (by decide +kernel)
set_option maxRecDepth 20000 in
theorem w_594 : Cond.instanceMethod yX6_keep ∈ tW := tW_in (List.mem_of_getElem? (i := 594) (by decide +kernel)) (by decide +kernel)
set_option maxRecDepth 20000 in
theorem w_595 : Cond.selects RX6 yX6_keep yX6_keep ∈ tW := tW_in (List.mem_of_getElem? (i := 595) (by decide +kernel)) (by decide +kernel)
set_option maxRecDepth 20000 in
theorem w_913 : Cond.methodLink RL 97 yX7_keep ∈ tW := tW_in (List.mem_of_getElem? (i := 913) (by decide +kernel)) (by decide +kernel)
set_option maxRecDepth 20000 in
theorem w_914 : Cond.instanceMethod yX7_keep ∈ tW := tW_in (List.mem_of_getElem? (i := 914) (by decide +kernel)) (by decide +kernel)
set_option maxRecDepth 20000 in
theorem w_915 : Cond.selects RX7 yX7_keep yX7_keep ∈ tW := tW_in (List.mem_of_getElem? (i := 915) (by decide +kernel)) (by decide +kernel)
set_option maxRecDepth 20000 in
theorem w_615 : Cond.methodLink RL 98 yX6_goBack ∈ tW := tW_in (List.mem_of_getElem? (i := 615) (by decide +kernel)) (by decide +kernel)
set_option maxRecDepth 20000 in
theorem w_616 : Cond.instanceMethod yX6_goBack ∈ tW := tW_in (List.mem_of_getElem? (i := 616) (by decide +kernel)) (by decide +kernel)
set_option maxRecDepth 20000 in
theorem w_617 : Cond.selects RX6 yX6_goBack yX6_goBack ∈ tW := tW_in (List.mem_of_getElem? (i := 617) (by decide +kernel)) (by decide +kernel)
set_option maxRecDepth 20000 in
theorem w_917 : Cond.methodLink RL 101 yX7_goBack ∈ tW := tW_in (List.mem_of_getElem? (i := 917) (by decide +kernel)) (by decide +kernel)
set_option maxRecDepth 20000 in
theorem w_918 : Cond.instanceMethod yX7_goBack ∈ tW := tW_in (List.mem_of_getElem? (i := 918) (by decide +kernel)) (by decide +kernel)
set_option maxRecDepth 20000 in
theorem w_919 : Cond.selects RX7 yX7_goBack yX7_goBack ∈ tW := tW_in (List.mem_of_getElem? (i := 919) (by decide +kernel)) (by decide +kernel)
def mtl : List MT := [
  (yX0_empty, cX0_empty, 1, none),
  (yX0_copyFrom, cX0_copyFrom, 2, none),
  (yX0_sitter, cX0_sitter, 3, some .int),
  (yX0_seat, cX0_seat, 6, some .int),
  (yX1_bitsOf, cX1_bitsOf, 12, some .long),
  (yX2_empty, cX2_empty, 1, none),
  (yX2_copyFrom, cX2_copyFrom, 4, none),
  (yX2_hasRoom, cX2_hasRoom, 1, some .boolean),
  (yX2_has, cX2_has, 2, some .boolean),
  (yX2_add, cX2_add, 4, some .int),
  (yX2_lowerTo, cX2_lowerTo, 3, none),
  (yX2_takeOut, cX2_takeOut, 2, none),
  (yX2_joinAll, cX2_joinAll, 3, some .int),
  (yX2_settleAll, cX2_settleAll, 2, none),
  (yX2_findPair, cX2_findPair, 5, some .boolean),
  (yX2_linkTwo, cX2_linkTwo, 6, none),
  (yX2_cutOff, cX2_cutOff, 4, none),
  (yX2_freeChildren, cX2_freeChildren, 5, none),
  (yX2_makeRoot, cX2_makeRoot, 2, none),
  (yX2_besideBefore, cX2_besideBefore, 6, some .int),
  (yX2_isSooner, cX2_isSooner, 3, some .boolean),
  (yX2_isRoot, cX2_isRoot, 2, some .boolean),
  (yX2_count, cX2_count, 1, some .int),
  (yX2_links, cX2_links, 1, some .int),
  (yX2_cuts, cX2_cuts, 1, some .int),
  (yX2_kindOf, cX2_kindOf, 2, some .int),
  (yX2_keyOf, cX2_keyOf, 2, some .int),
  (yX2_aboveOf, cX2_aboveOf, 2, some .int),
  (yX2_rankOf, cX2_rankOf, 2, some .int),
  (yX2_isStanding, cX2_isStanding, 2, some .boolean),
  (yX2_isLoose, cX2_isLoose, 2, some .boolean),
  (yX2_soonest, cX2_soonest, 3, some .int),
  (yX2_standingCount, cX2_standingCount, 3, some .int),
  (yX2_standingAt, cX2_standingAt, 4, some .int),
  (yX2_rootCount, cX2_rootCount, 3, some .int),
  (yX2_looseCount, cX2_looseCount, 3, some .int),
  (yX2_looseOfRank, cX2_looseOfRank, 3, some .int),
  (yX2_greatestRank, cX2_greatestRank, 3, some .int),
  (yX2_longestRow, cX2_longestRow, 3, some .int),
  (yX2_depthOf, cX2_depthOf, 4, some .int),
  (yX2_sizeOf, cX2_sizeOf, 4, some .int),
  (yX2_isWithin, cX2_isWithin, 5, some .boolean),
  (yX2_childAt, cX2_childAt, 5, some .int),
  (yX2_sumOfKeys, cX2_sumOfKeys, 3, some .int),
  (yX3_isKept, cX3_isKept, 1, some .boolean),
  (yX3_store, cX3_store, 3, none),
  (yX3_restore, cX3_restore, 3, none),
  (yX4_begin, cX4_begin, 2, none),
  (yX4_draw, cX4_draw, 2, some .int),
  (yX5_layOut, cX5_layOut, 2, none),
  (yX5_hasRoom, cX5_hasRoom, 1, some .boolean),
  (yX5_hasPlace, cX5_hasPlace, 2, some .boolean),
  (yX5_add, cX5_add, 5, some .int),
  (yX5_places, cX5_places, 1, some .int),
  (yX5_count, cX5_count, 1, some .int),
  (yX5_grow, cX5_grow, 5, none),
  (yX5_begin, cX5_begin, 3, none),
  (yX5_spread, cX5_spread, 6, none),
  (yX5_acrossFrom, cX5_acrossFrom, 3, some .int),
  (yX5_isReached, cX5_isReached, 2, some .boolean),
  (yX5_weightOfTree, cX5_weightOfTree, 3, some .int),
  (yX5_roadsOfTree, cX5_roadsOfTree, 3, some .int),
  (yX5_links, cX5_links, 1, some .int),
  (yX5_cuts, cX5_cuts, 1, some .int),
  (yX5_lowerings, cX5_lowerings, 1, some .int),
  (yX5_distanceTo, cX5_distanceTo, 2, some .int),
  (yX5_reachedCount, cX5_reachedCount, 3, some .int),
  (yX6_put, cX6_put, 3, some .int),
  (yX6_lower, cX6_lower, 3, some .int),
  (yX6_take, cX6_take, 2, some .int),
  (yX6_drop, cX6_drop, 2, some .int),
  (yX6_join, cX6_join, 1, some .int),
  (yX6_clear, cX6_clear, 2, some .int),
  (yX6_drift, cX6_drift, 4, some .int),
  (yX6_told, cX6_told, 2, some .int),
  (yX6_job, cX6_job, 3, some .int),
  (yX6_child, cX6_child, 3, some .int),
  (yX6_loose, cX6_loose, 2, some .int),
  (yX6_bits, cX6_bits, 1, some .long),
  (yX6_sit, cX6_sit, 4, some .int),
  (yX6_sits, cX6_sits, 3, some .int),
  (yX6_net, cX6_net, 3, some .int),
  (yX6_road, cX6_road, 4, some .int),
  (yX6_tree, cX6_tree, 3, some .int),
  (yX6_way, cX6_way, 3, some .int),
  (yX6_ways, cX6_ways, 3, some .int),
  (yX6_keep, cX6_keep, 2, some .int),
  (yX6_goBack, cX6_goBack, 2, some .int),
  (yX6_driftOnce, cX6_driftOnce, 2, none),
  (yX6_putByLots, cX6_putByLots, 3, none),
  (yX6_lowerByLots, cX6_lowerByLots, 4, none),
  (yX6_takeByLots, cX6_takeByLots, 2, none),
  (yX6_between, cX6_between, 3, some .boolean),
  (yX6_isKey, cX6_isKey, 1, some .boolean),
  (yX6_flag, cX6_flag, 1, some .int),
  (yX7_in, cX7_in, 3, some .boolean),
  (yX7_own, cX7_own, 1, none),
  (yX7_isSooner, cX7_isSooner, 3, some .boolean),
  (yX7_rank, cX7_rank, 4, some .int),
  (yX7_link, cX7_link, 5, none),
  (yX7_cut, cX7_cut, 2, none),
  (yX7_isOf, cX7_isOf, 3, some .boolean),
  (yX7_ofRank, cX7_ofRank, 6, some .int),
  (yX7_twice, cX7_twice, 6, some .int),
  (yX7_settle, cX7_settle, 4, none),
  (yX7_joinAll, cX7_joinAll, 3, none),
  (yX7_add, cX7_add, 4, none),
  (yX7_lowerTo, cX7_lowerTo, 3, none),
  (yX7_remove, cX7_remove, 4, none),
  (yX7_soonest, cX7_soonest, 3, some .int),
  (yX7_standing, cX7_standing, 3, some .int),
  (yX7_isJob, cX7_isJob, 2, some .boolean),
  (yX7_put, cX7_put, 3, some .int),
  (yX7_lower, cX7_lower, 3, some .int),
  (yX7_take, cX7_take, 2, some .int),
  (yX7_drop, cX7_drop, 2, some .int),
  (yX7_join, cX7_join, 2, some .int),
  (yX7_clear, cX7_clear, 3, some .int),
  (yX7_standingAt, cX7_standingAt, 4, some .int),
  (yX7_drawn, cX7_drawn, 2, some .int),
  (yX7_lot, cX7_lot, 4, none),
  (yX7_drift, cX7_drift, 4, some .int),
  (yX7_depth, cX7_depth, 4, some .int),
  (yX7_isUnder, cX7_isUnder, 4, some .boolean),
  (yX7_many, cX7_many, 6, some .int),
  (yX7_told, cX7_told, 2, some .int),
  (yX7_under, cX7_under, 4, some .int),
  (yX7_power, cX7_power, 2, some .int),
  (yX7_bitsOf, cX7_bitsOf, 4, some .int),
  (yX7_job, cX7_job, 4, some .int),
  (yX7_child, cX7_child, 6, some .int),
  (yX7_loose, cX7_loose, 2, some .int),
  (yX7_bits, cX7_bits, 6, some .long),
  (yX7_sit, cX7_sit, 6, some .int),
  (yX7_sits, cX7_sits, 3, some .int),
  (yX7_net, cX7_net, 3, some .int),
  (yX7_isPlace, cX7_isPlace, 2, some .boolean),
  (yX7_road, cX7_road, 4, some .int),
  (yX7_goFrom, cX7_goFrom, 6, none),
  (yX7_lay, cX7_lay, 8, none),
  (yX7_hanging, cX7_hanging, 4, some .int),
  (yX7_tree, cX7_tree, 3, some .int),
  (yX7_way, cX7_way, 3, some .int),
  (yX7_ways, cX7_ways, 5, some .int),
  (yX7_keep, cX7_keep, 5, some .int),
  (yX7_goBack, cX7_goBack, 5, some .int),
  (yJ7_fill_53178, cJ7_fill_53178, 4, none)]
def mts : Nat → Option MT := fun y => mtl[y]?
theorem in_X0 : ∀ w ∈ u_ws RX0 TX0 1, w ∈ tW := fun w h => tW_in (goodIn_r (big := lw_tbl) _ [129] (by decide +kernel) (by decide +kernel) w h).1 (List.all_eq_true.mp (by decide +kernel : (u_ws RX0 TX0 1).all goodWord = true) w h)
theorem co_X0 : CO 0 11 RX0 TX0 1 tyX0 := ⟨fun a h => by
  unfold acl at h
  split at h <;> first | rfl | (exact absurd h (by decide)), rfl, in_X0, tyX0_ok, nmX0⟩
theorem gf_X0_0 {G : GX} {mts : Nat → Option MT} {own : String} {cc : ByteArray} {mL : Nat} {rt : Option FieldType} {d : Nat} {sx : SX} {pc index : Nat} (hw : Cond.fieldLink own index "LooseHeap$Benches" "sitters" "[I" ∈ tW) (hd : decode cc pc = .ok (.getfield index, 3)) : Snd G mts own cc mL rt d sx pc (i_gR 0 (fun t => (12, t)) (pc + 3)) := s_gR co_X0 (j := 0) (f := (fun t => (12, t))) (by decide) hw hd (fun _ _ => ⟨_, rfl, rfl⟩) (by decide) (fun t ht => by first | exact ht | decide | (show t + 1 < _; simp only [cnt] at ht ⊢; omega))
theorem in_X2 : ∀ w ∈ u_ws RX2 TX2 15, w ∈ tW := fun w h => tW_in (goodIn_r (big := lw_tbl) _ [86, 88, 90, 92, 94, 96, 98, 100, 102, 104, 106, 108, 110, 112, 114] (by decide +kernel) (by decide +kernel) w h).1 (List.all_eq_true.mp (by decide +kernel : (u_ws RX2 TX2 15).all goodWord = true) w h)
theorem co_X2 : CO 1 1 RX2 TX2 15 tyX2 := ⟨fun a h => by
  unfold acl at h
  split at h <;> first | rfl | (exact absurd h (by decide)), rfl, in_X2, tyX2_ok, nmX2⟩
theorem gf_X2_0 {G : GX} {mts : Nat → Option MT} {own : String} {cc : ByteArray} {mL : Nat} {rt : Option FieldType} {d : Nat} {sx : SX} {pc index : Nat} (hw : Cond.fieldLink own index "LooseHeap$Heap" "room" "I" ∈ tW) (hd : decode cc pc = .ok (.getfield index, 3)) : Snd G mts own cc mL rt d sx pc (i_gI 1 0 (pc + 3)) := s_gI co_X2 (j := 0) (by decide) hw hd (fun _ _ => ⟨_, rfl, rfl⟩) (by decide)
theorem gf_X2_1 {G : GX} {mts : Nat → Option MT} {own : String} {cc : ByteArray} {mL : Nat} {rt : Option FieldType} {d : Nat} {sx : SX} {pc index : Nat} (hw : Cond.fieldLink own index "LooseHeap$Heap" "kinds" "[I" ∈ tW) (hd : decode cc pc = .ok (.getfield index, 3)) : Snd G mts own cc mL rt d sx pc (i_gR 1 (fun t => (2, t)) (pc + 3)) := s_gR co_X2 (j := 1) (f := (fun t => (2, t))) (by decide) hw hd (fun _ _ => ⟨_, rfl, rfl⟩) (by decide) (fun t ht => by first | exact ht | decide | (show t + 1 < _; simp only [cnt] at ht ⊢; omega))
theorem gf_X2_2 {G : GX} {mts : Nat → Option MT} {own : String} {cc : ByteArray} {mL : Nat} {rt : Option FieldType} {d : Nat} {sx : SX} {pc index : Nat} (hw : Cond.fieldLink own index "LooseHeap$Heap" "keys" "[I" ∈ tW) (hd : decode cc pc = .ok (.getfield index, 3)) : Snd G mts own cc mL rt d sx pc (i_gR 1 (fun t => (3, t)) (pc + 3)) := s_gR co_X2 (j := 2) (f := (fun t => (3, t))) (by decide) hw hd (fun _ _ => ⟨_, rfl, rfl⟩) (by decide) (fun t ht => by first | exact ht | decide | (show t + 1 < _; simp only [cnt] at ht ⊢; omega))
theorem gf_X2_3 {G : GX} {mts : Nat → Option MT} {own : String} {cc : ByteArray} {mL : Nat} {rt : Option FieldType} {d : Nat} {sx : SX} {pc index : Nat} (hw : Cond.fieldLink own index "LooseHeap$Heap" "above" "[I" ∈ tW) (hd : decode cc pc = .ok (.getfield index, 3)) : Snd G mts own cc mL rt d sx pc (i_gR 1 (fun t => (4, t)) (pc + 3)) := s_gR co_X2 (j := 3) (f := (fun t => (4, t))) (by decide) hw hd (fun _ _ => ⟨_, rfl, rfl⟩) (by decide) (fun t ht => by first | exact ht | decide | (show t + 1 < _; simp only [cnt] at ht ⊢; omega))
theorem gf_X2_4 {G : GX} {mts : Nat → Option MT} {own : String} {cc : ByteArray} {mL : Nat} {rt : Option FieldType} {d : Nat} {sx : SX} {pc index : Nat} (hw : Cond.fieldLink own index "LooseHeap$Heap" "ranks" "[I" ∈ tW) (hd : decode cc pc = .ok (.getfield index, 3)) : Snd G mts own cc mL rt d sx pc (i_gR 1 (fun t => (5, t)) (pc + 3)) := s_gR co_X2 (j := 4) (f := (fun t => (5, t))) (by decide) hw hd (fun _ _ => ⟨_, rfl, rfl⟩) (by decide) (fun t ht => by first | exact ht | decide | (show t + 1 < _; simp only [cnt] at ht ⊢; omega))
theorem gf_X2_5 {G : GX} {mts : Nat → Option MT} {own : String} {cc : ByteArray} {mL : Nat} {rt : Option FieldType} {d : Nat} {sx : SX} {pc index : Nat} (hw : Cond.fieldLink own index "LooseHeap$Heap" "firstBelow" "[I" ∈ tW) (hd : decode cc pc = .ok (.getfield index, 3)) : Snd G mts own cc mL rt d sx pc (i_gR 1 (fun t => (6, t)) (pc + 3)) := s_gR co_X2 (j := 5) (f := (fun t => (6, t))) (by decide) hw hd (fun _ _ => ⟨_, rfl, rfl⟩) (by decide) (fun t ht => by first | exact ht | decide | (show t + 1 < _; simp only [cnt] at ht ⊢; omega))
theorem gf_X2_6 {G : GX} {mts : Nat → Option MT} {own : String} {cc : ByteArray} {mL : Nat} {rt : Option FieldType} {d : Nat} {sx : SX} {pc index : Nat} (hw : Cond.fieldLink own index "LooseHeap$Heap" "nextBeside" "[I" ∈ tW) (hd : decode cc pc = .ok (.getfield index, 3)) : Snd G mts own cc mL rt d sx pc (i_gR 1 (fun t => (7, t)) (pc + 3)) := s_gR co_X2 (j := 6) (f := (fun t => (7, t))) (by decide) hw hd (fun _ _ => ⟨_, rfl, rfl⟩) (by decide) (fun t ht => by first | exact ht | decide | (show t + 1 < _; simp only [cnt] at ht ⊢; omega))
theorem gf_X2_7 {G : GX} {mts : Nat → Option MT} {own : String} {cc : ByteArray} {mL : Nat} {rt : Option FieldType} {d : Nat} {sx : SX} {pc index : Nat} (hw : Cond.fieldLink own index "LooseHeap$Heap" "standing" "[Z" ∈ tW) (hd : decode cc pc = .ok (.getfield index, 3)) : Snd G mts own cc mL rt d sx pc (i_gR 1 (fun t => (8, t)) (pc + 3)) := s_gR co_X2 (j := 7) (f := (fun t => (8, t))) (by decide) hw hd (fun _ _ => ⟨_, rfl, rfl⟩) (by decide) (fun t ht => by first | exact ht | decide | (show t + 1 < _; simp only [cnt] at ht ⊢; omega))
theorem gf_X2_8 {G : GX} {mts : Nat → Option MT} {own : String} {cc : ByteArray} {mL : Nat} {rt : Option FieldType} {d : Nat} {sx : SX} {pc index : Nat} (hw : Cond.fieldLink own index "LooseHeap$Heap" "loosened" "[Z" ∈ tW) (hd : decode cc pc = .ok (.getfield index, 3)) : Snd G mts own cc mL rt d sx pc (i_gR 1 (fun t => (9, t)) (pc + 3)) := s_gR co_X2 (j := 8) (f := (fun t => (9, t))) (by decide) hw hd (fun _ _ => ⟨_, rfl, rfl⟩) (by decide) (fun t ht => by first | exact ht | decide | (show t + 1 < _; simp only [cnt] at ht ⊢; omega))
theorem gf_X2_9 {G : GX} {mts : Nat → Option MT} {own : String} {cc : ByteArray} {mL : Nat} {rt : Option FieldType} {d : Nat} {sx : SX} {pc index : Nat} (hw : Cond.fieldLink own index "LooseHeap$Heap" "firstOfRank" "[I" ∈ tW) (hd : decode cc pc = .ok (.getfield index, 3)) : Snd G mts own cc mL rt d sx pc (i_gR 1 (fun t => (10, t)) (pc + 3)) := s_gR co_X2 (j := 9) (f := (fun t => (10, t))) (by decide) hw hd (fun _ _ => ⟨_, rfl, rfl⟩) (by decide) (fun t ht => by first | exact ht | decide | (show t + 1 < _; simp only [cnt] at ht ⊢; omega))
theorem gf_X2_10 {G : GX} {mts : Nat → Option MT} {own : String} {cc : ByteArray} {mL : Nat} {rt : Option FieldType} {d : Nat} {sx : SX} {pc index : Nat} (hw : Cond.fieldLink own index "LooseHeap$Heap" "count" "I" ∈ tW) (hd : decode cc pc = .ok (.getfield index, 3)) : Snd G mts own cc mL rt d sx pc (i_gI 1 10 (pc + 3)) := s_gI co_X2 (j := 10) (by decide) hw hd (fun _ _ => ⟨_, rfl, rfl⟩) (by decide)
theorem pf_X2_10 {G : GX} {mts : Nat → Option MT} {own : String} {cc : ByteArray} {mL : Nat} {rt : Option FieldType} {d : Nat} {sx : SX} {pc index : Nat} (hAp : Ap G) (hw : Cond.fieldLink own index "LooseHeap$Heap" "count" "I" ∈ tW) (hd : decode cc pc = .ok (.putfield index, 3)) : Snd G mts own cc mL rt d sx pc (i_pI 1 10 (pc + 3)) := s_pI hAp co_X2 (j := 10) (by decide) hw hd rfl rfl (fun M t v => ⟨_, rfl, Nat.le_of_ble_eq_true rfl, by simp [cel, um]⟩) (by decide)
theorem gf_X2_11 {G : GX} {mts : Nat → Option MT} {own : String} {cc : ByteArray} {mL : Nat} {rt : Option FieldType} {d : Nat} {sx : SX} {pc index : Nat} (hw : Cond.fieldLink own index "LooseHeap$Heap" "linked" "I" ∈ tW) (hd : decode cc pc = .ok (.getfield index, 3)) : Snd G mts own cc mL rt d sx pc (i_gI 1 11 (pc + 3)) := s_gI co_X2 (j := 11) (by decide) hw hd (fun _ _ => ⟨_, rfl, rfl⟩) (by decide)
theorem pf_X2_11 {G : GX} {mts : Nat → Option MT} {own : String} {cc : ByteArray} {mL : Nat} {rt : Option FieldType} {d : Nat} {sx : SX} {pc index : Nat} (hAp : Ap G) (hw : Cond.fieldLink own index "LooseHeap$Heap" "linked" "I" ∈ tW) (hd : decode cc pc = .ok (.putfield index, 3)) : Snd G mts own cc mL rt d sx pc (i_pI 1 11 (pc + 3)) := s_pI hAp co_X2 (j := 11) (by decide) hw hd rfl rfl (fun M t v => ⟨_, rfl, Nat.le_of_ble_eq_true rfl, by simp [cel, um]⟩) (by decide)
theorem gf_X2_12 {G : GX} {mts : Nat → Option MT} {own : String} {cc : ByteArray} {mL : Nat} {rt : Option FieldType} {d : Nat} {sx : SX} {pc index : Nat} (hw : Cond.fieldLink own index "LooseHeap$Heap" "cut" "I" ∈ tW) (hd : decode cc pc = .ok (.getfield index, 3)) : Snd G mts own cc mL rt d sx pc (i_gI 1 12 (pc + 3)) := s_gI co_X2 (j := 12) (by decide) hw hd (fun _ _ => ⟨_, rfl, rfl⟩) (by decide)
theorem pf_X2_12 {G : GX} {mts : Nat → Option MT} {own : String} {cc : ByteArray} {mL : Nat} {rt : Option FieldType} {d : Nat} {sx : SX} {pc index : Nat} (hAp : Ap G) (hw : Cond.fieldLink own index "LooseHeap$Heap" "cut" "I" ∈ tW) (hd : decode cc pc = .ok (.putfield index, 3)) : Snd G mts own cc mL rt d sx pc (i_pI 1 12 (pc + 3)) := s_pI hAp co_X2 (j := 12) (by decide) hw hd rfl rfl (fun M t v => ⟨_, rfl, Nat.le_of_ble_eq_true rfl, by simp [cel, um]⟩) (by decide)
theorem gf_X2_13 {G : GX} {mts : Nat → Option MT} {own : String} {cc : ByteArray} {mL : Nat} {rt : Option FieldType} {d : Nat} {sx : SX} {pc index : Nat} (hw : Cond.fieldLink own index "LooseHeap$Heap" "pairLesser" "I" ∈ tW) (hd : decode cc pc = .ok (.getfield index, 3)) : Snd G mts own cc mL rt d sx pc (i_gI 1 13 (pc + 3)) := s_gI co_X2 (j := 13) (by decide) hw hd (fun _ _ => ⟨_, rfl, rfl⟩) (by decide)
theorem pf_X2_13 {G : GX} {mts : Nat → Option MT} {own : String} {cc : ByteArray} {mL : Nat} {rt : Option FieldType} {d : Nat} {sx : SX} {pc index : Nat} (hAp : Ap G) (hw : Cond.fieldLink own index "LooseHeap$Heap" "pairLesser" "I" ∈ tW) (hd : decode cc pc = .ok (.putfield index, 3)) : Snd G mts own cc mL rt d sx pc (i_pI 1 13 (pc + 3)) := s_pI hAp co_X2 (j := 13) (by decide) hw hd rfl rfl (fun M t v => ⟨_, rfl, Nat.le_of_ble_eq_true rfl, by simp [cel, um]⟩) (by decide)
theorem gf_X2_14 {G : GX} {mts : Nat → Option MT} {own : String} {cc : ByteArray} {mL : Nat} {rt : Option FieldType} {d : Nat} {sx : SX} {pc index : Nat} (hw : Cond.fieldLink own index "LooseHeap$Heap" "pairGreater" "I" ∈ tW) (hd : decode cc pc = .ok (.getfield index, 3)) : Snd G mts own cc mL rt d sx pc (i_gI 1 14 (pc + 3)) := s_gI co_X2 (j := 14) (by decide) hw hd (fun _ _ => ⟨_, rfl, rfl⟩) (by decide)
theorem pf_X2_14 {G : GX} {mts : Nat → Option MT} {own : String} {cc : ByteArray} {mL : Nat} {rt : Option FieldType} {d : Nat} {sx : SX} {pc index : Nat} (hAp : Ap G) (hw : Cond.fieldLink own index "LooseHeap$Heap" "pairGreater" "I" ∈ tW) (hd : decode cc pc = .ok (.putfield index, 3)) : Snd G mts own cc mL rt d sx pc (i_pI 1 14 (pc + 3)) := s_pI hAp co_X2 (j := 14) (by decide) hw hd rfl rfl (fun M t v => ⟨_, rfl, Nat.le_of_ble_eq_true rfl, by simp [cel, um]⟩) (by decide)
theorem in_X3 : ∀ w ∈ u_ws RX3 TX3 3, w ∈ tW := fun w h => tW_in (goodIn_r (big := lw_tbl) _ [189, 191, 193] (by decide +kernel) (by decide +kernel) w h).1 (List.all_eq_true.mp (by decide +kernel : (u_ws RX3 TX3 3).all goodWord = true) w h)
theorem co_X3 : CO 2 20 RX3 TX3 3 tyX3 := ⟨fun a h => by
  unfold acl at h
  split at h <;> first | rfl | (exact absurd h (by decide)), rfl, in_X3, tyX3_ok, nmX3⟩
theorem gf_X3_0 {G : GX} {mts : Nat → Option MT} {own : String} {cc : ByteArray} {mL : Nat} {rt : Option FieldType} {d : Nat} {sx : SX} {pc index : Nat} (hw : Cond.fieldLink own index "LooseHeap$Image" "heap" "LLooseHeap$Heap;" ∈ tW) (hd : decode cc pc = .ok (.getfield index, 3)) : Snd G mts own cc mL rt d sx pc (i_gR 2 (fun t => (1, t + 1)) (pc + 3)) := s_gR co_X3 (j := 0) (f := (fun t => (1, t + 1))) (by decide) hw hd (fun _ _ => ⟨_, rfl, rfl⟩) (by decide) (fun t ht => by first | exact ht | decide | (show t + 1 < _; simp only [cnt] at ht ⊢; omega))
theorem gf_X3_1 {G : GX} {mts : Nat → Option MT} {own : String} {cc : ByteArray} {mL : Nat} {rt : Option FieldType} {d : Nat} {sx : SX} {pc index : Nat} (hw : Cond.fieldLink own index "LooseHeap$Image" "benches" "LLooseHeap$Benches;" ∈ tW) (hd : decode cc pc = .ok (.getfield index, 3)) : Snd G mts own cc mL rt d sx pc (i_gR 2 (fun t => (11, t + 1)) (pc + 3)) := s_gR co_X3 (j := 1) (f := (fun t => (11, t + 1))) (by decide) hw hd (fun _ _ => ⟨_, rfl, rfl⟩) (by decide) (fun t ht => by first | exact ht | decide | (show t + 1 < _; simp only [cnt] at ht ⊢; omega))
theorem gf_X3_2 {G : GX} {mts : Nat → Option MT} {own : String} {cc : ByteArray} {mL : Nat} {rt : Option FieldType} {d : Nat} {sx : SX} {pc index : Nat} (hw : Cond.fieldLink own index "LooseHeap$Image" "kept" "Z" ∈ tW) (hd : decode cc pc = .ok (.getfield index, 3)) : Snd G mts own cc mL rt d sx pc (i_gI 2 2 (pc + 3)) := s_gI co_X3 (j := 2) (by decide) hw hd (fun _ _ => ⟨_, rfl, rfl⟩) (by decide)
theorem pf_X3_2 {G : GX} {mts : Nat → Option MT} {own : String} {cc : ByteArray} {mL : Nat} {rt : Option FieldType} {d : Nat} {sx : SX} {pc index : Nat} (hAp : Ap G) (hw : Cond.fieldLink own index "LooseHeap$Image" "kept" "Z" ∈ tW) (hd : decode cc pc = .ok (.putfield index, 3)) : Snd G mts own cc mL rt d sx pc (i_pZ 2 2 (pc + 3)) := s_pZ hAp co_X3 (j := 2) (by decide) hw hd rfl rfl (fun M t v => ⟨_, rfl, Nat.le_of_ble_eq_true rfl, by simp [cel, um]⟩) (by decide)
theorem in_X4 : ∀ w ∈ u_ws RX4 TX4 1, w ∈ tW := fun w h => tW_in (goodIn_r (big := lw_tbl) _ [172] (by decide +kernel) (by decide +kernel) w h).1 (List.all_eq_true.mp (by decide +kernel : (u_ws RX4 TX4 1).all goodWord = true) w h)
theorem co_X4 : CO 3 18 RX4 TX4 1 tyX4 := ⟨fun a h => by
  unfold acl at h
  split at h <;> first | rfl | (exact absurd h (by decide)), rfl, in_X4, tyX4_ok, nmX4⟩
theorem gf_X4_0 {G : GX} {mts : Nat → Option MT} {own : String} {cc : ByteArray} {mL : Nat} {rt : Option FieldType} {d : Nat} {sx : SX} {pc index : Nat} (hw : Cond.fieldLink own index "LooseHeap$Lots" "number" "J" ∈ tW) (hd : decode cc pc = .ok (.getfield index, 3)) : Snd G mts own cc mL rt d sx pc (i_gL 3 0 (pc + 3)) := s_gL co_X4 (j := 0) (by decide) hw hd (fun _ _ => ⟨_, rfl, rfl⟩) (by decide)
theorem pf_X4_0 {G : GX} {mts : Nat → Option MT} {own : String} {cc : ByteArray} {mL : Nat} {rt : Option FieldType} {d : Nat} {sx : SX} {pc index : Nat} (hAp : Ap G) (hw : Cond.fieldLink own index "LooseHeap$Lots" "number" "J" ∈ tW) (hd : decode cc pc = .ok (.putfield index, 3)) : Snd G mts own cc mL rt d sx pc (i_pL 3 0 (pc + 3)) := s_pL hAp co_X4 (j := 0) (by decide) hw hd rfl rfl (fun M t v => ⟨_, rfl, Nat.le_of_ble_eq_true rfl, by simp [cel, ul]⟩) (by decide)
theorem in_X5 : ∀ w ∈ u_ws RX5 TX5 8, w ∈ tW := fun w h => tW_in (goodIn_r (big := lw_tbl) _ [148, 150, 152, 154, 156, 158, 160, 162] (by decide +kernel) (by decide +kernel) w h).1 (List.all_eq_true.mp (by decide +kernel : (u_ws RX5 TX5 8).all goodWord = true) w h)
theorem co_X5 : CO 4 13 RX5 TX5 8 tyX5 := ⟨fun a h => by
  unfold acl at h
  split at h <;> first | rfl | (exact absurd h (by decide)), rfl, in_X5, tyX5_ok, nmX5⟩
theorem gf_X5_0 {G : GX} {mts : Nat → Option MT} {own : String} {cc : ByteArray} {mL : Nat} {rt : Option FieldType} {d : Nat} {sx : SX} {pc index : Nat} (hw : Cond.fieldLink own index "LooseHeap$Roads" "oneEnd" "[I" ∈ tW) (hd : decode cc pc = .ok (.getfield index, 3)) : Snd G mts own cc mL rt d sx pc (i_gR 4 (fun _ => (14, 0)) (pc + 3)) := s_gR co_X5 (j := 0) (f := (fun _ => (14, 0))) (by decide) hw hd (fun _ _ => ⟨_, rfl, rfl⟩) (by decide) (fun t ht => by first | exact ht | decide | (show t + 1 < _; simp only [cnt] at ht ⊢; omega))
theorem gf_X5_1 {G : GX} {mts : Nat → Option MT} {own : String} {cc : ByteArray} {mL : Nat} {rt : Option FieldType} {d : Nat} {sx : SX} {pc index : Nat} (hw : Cond.fieldLink own index "LooseHeap$Roads" "otherEnd" "[I" ∈ tW) (hd : decode cc pc = .ok (.getfield index, 3)) : Snd G mts own cc mL rt d sx pc (i_gR 4 (fun _ => (15, 0)) (pc + 3)) := s_gR co_X5 (j := 1) (f := (fun _ => (15, 0))) (by decide) hw hd (fun _ _ => ⟨_, rfl, rfl⟩) (by decide) (fun t ht => by first | exact ht | decide | (show t + 1 < _; simp only [cnt] at ht ⊢; omega))
theorem gf_X5_2 {G : GX} {mts : Nat → Option MT} {own : String} {cc : ByteArray} {mL : Nat} {rt : Option FieldType} {d : Nat} {sx : SX} {pc index : Nat} (hw : Cond.fieldLink own index "LooseHeap$Roads" "weights" "[I" ∈ tW) (hd : decode cc pc = .ok (.getfield index, 3)) : Snd G mts own cc mL rt d sx pc (i_gR 4 (fun _ => (16, 0)) (pc + 3)) := s_gR co_X5 (j := 2) (f := (fun _ => (16, 0))) (by decide) hw hd (fun _ _ => ⟨_, rfl, rfl⟩) (by decide) (fun t ht => by first | exact ht | decide | (show t + 1 < _; simp only [cnt] at ht ⊢; omega))
theorem gf_X5_3 {G : GX} {mts : Nat → Option MT} {own : String} {cc : ByteArray} {mL : Nat} {rt : Option FieldType} {d : Nat} {sx : SX} {pc index : Nat} (hw : Cond.fieldLink own index "LooseHeap$Roads" "hangsBy" "[I" ∈ tW) (hd : decode cc pc = .ok (.getfield index, 3)) : Snd G mts own cc mL rt d sx pc (i_gR 4 (fun _ => (17, 0)) (pc + 3)) := s_gR co_X5 (j := 3) (f := (fun _ => (17, 0))) (by decide) hw hd (fun _ _ => ⟨_, rfl, rfl⟩) (by decide) (fun t ht => by first | exact ht | decide | (show t + 1 < _; simp only [cnt] at ht ⊢; omega))
theorem gf_X5_4 {G : GX} {mts : Nat → Option MT} {own : String} {cc : ByteArray} {mL : Nat} {rt : Option FieldType} {d : Nat} {sx : SX} {pc index : Nat} (hw : Cond.fieldLink own index "LooseHeap$Roads" "front" "LLooseHeap$Heap;" ∈ tW) (hd : decode cc pc = .ok (.getfield index, 3)) : Snd G mts own cc mL rt d sx pc (i_gR 4 (fun _ => (1, 3)) (pc + 3)) := s_gR co_X5 (j := 4) (f := (fun _ => (1, 3))) (by decide) hw hd (fun _ _ => ⟨_, rfl, rfl⟩) (by decide) (fun t ht => by first | exact ht | decide | (show t + 1 < _; simp only [cnt] at ht ⊢; omega))
theorem gf_X5_5 {G : GX} {mts : Nat → Option MT} {own : String} {cc : ByteArray} {mL : Nat} {rt : Option FieldType} {d : Nat} {sx : SX} {pc index : Nat} (hw : Cond.fieldLink own index "LooseHeap$Roads" "places" "I" ∈ tW) (hd : decode cc pc = .ok (.getfield index, 3)) : Snd G mts own cc mL rt d sx pc (i_gI 4 5 (pc + 3)) := s_gI co_X5 (j := 5) (by decide) hw hd (fun _ _ => ⟨_, rfl, rfl⟩) (by decide)
theorem pf_X5_5 {G : GX} {mts : Nat → Option MT} {own : String} {cc : ByteArray} {mL : Nat} {rt : Option FieldType} {d : Nat} {sx : SX} {pc index : Nat} (hAp : Ap G) (hw : Cond.fieldLink own index "LooseHeap$Roads" "places" "I" ∈ tW) (hd : decode cc pc = .ok (.putfield index, 3)) : Snd G mts own cc mL rt d sx pc (i_pI 4 5 (pc + 3)) := s_pI hAp co_X5 (j := 5) (by decide) hw hd rfl rfl (fun M t v => ⟨_, rfl, Nat.le_of_ble_eq_true rfl, by simp [cel, um]⟩) (by decide)
theorem gf_X5_6 {G : GX} {mts : Nat → Option MT} {own : String} {cc : ByteArray} {mL : Nat} {rt : Option FieldType} {d : Nat} {sx : SX} {pc index : Nat} (hw : Cond.fieldLink own index "LooseHeap$Roads" "count" "I" ∈ tW) (hd : decode cc pc = .ok (.getfield index, 3)) : Snd G mts own cc mL rt d sx pc (i_gI 4 6 (pc + 3)) := s_gI co_X5 (j := 6) (by decide) hw hd (fun _ _ => ⟨_, rfl, rfl⟩) (by decide)
theorem pf_X5_6 {G : GX} {mts : Nat → Option MT} {own : String} {cc : ByteArray} {mL : Nat} {rt : Option FieldType} {d : Nat} {sx : SX} {pc index : Nat} (hAp : Ap G) (hw : Cond.fieldLink own index "LooseHeap$Roads" "count" "I" ∈ tW) (hd : decode cc pc = .ok (.putfield index, 3)) : Snd G mts own cc mL rt d sx pc (i_pI 4 6 (pc + 3)) := s_pI hAp co_X5 (j := 6) (by decide) hw hd rfl rfl (fun M t v => ⟨_, rfl, Nat.le_of_ble_eq_true rfl, by simp [cel, um]⟩) (by decide)
theorem gf_X5_7 {G : GX} {mts : Nat → Option MT} {own : String} {cc : ByteArray} {mL : Nat} {rt : Option FieldType} {d : Nat} {sx : SX} {pc index : Nat} (hw : Cond.fieldLink own index "LooseHeap$Roads" "lowered" "I" ∈ tW) (hd : decode cc pc = .ok (.getfield index, 3)) : Snd G mts own cc mL rt d sx pc (i_gI 4 7 (pc + 3)) := s_gI co_X5 (j := 7) (by decide) hw hd (fun _ _ => ⟨_, rfl, rfl⟩) (by decide)
theorem pf_X5_7 {G : GX} {mts : Nat → Option MT} {own : String} {cc : ByteArray} {mL : Nat} {rt : Option FieldType} {d : Nat} {sx : SX} {pc index : Nat} (hAp : Ap G) (hw : Cond.fieldLink own index "LooseHeap$Roads" "lowered" "I" ∈ tW) (hd : decode cc pc = .ok (.putfield index, 3)) : Snd G mts own cc mL rt d sx pc (i_pI 4 7 (pc + 3)) := s_pI hAp co_X5 (j := 7) (by decide) hw hd rfl rfl (fun M t v => ⟨_, rfl, Nat.le_of_ble_eq_true rfl, by simp [cel, um]⟩) (by decide)
theorem in_X6 : ∀ w ∈ u_ws RX6 TX6 5, w ∈ tW := fun w h => tW_in (goodIn_r (big := lw_tbl) _ [201, 203, 205, 207, 209] (by decide +kernel) (by decide +kernel) w h).1 (List.all_eq_true.mp (by decide +kernel : (u_ws RX6 TX6 5).all goodWord = true) w h)
theorem co_X6 : CO 5 0 RX6 TX6 5 tyX6 := ⟨fun a h => by
  unfold acl at h
  split at h <;> first | rfl | (exact absurd h (by decide)), rfl, in_X6, tyX6_ok, nmX6⟩
theorem gf_X6_0 {G : GX} {mts : Nat → Option MT} {own : String} {cc : ByteArray} {mL : Nat} {rt : Option FieldType} {d : Nat} {sx : SX} {pc index : Nat} (hw : Cond.fieldLink own index "LooseHeap" "heap" "LLooseHeap$Heap;" ∈ tW) (hd : decode cc pc = .ok (.getfield index, 3)) : Snd G mts own cc mL rt d sx pc (i_gR 5 (fun _ => (1, 0)) (pc + 3)) := s_gR co_X6 (j := 0) (f := (fun _ => (1, 0))) (by decide) hw hd (fun _ _ => ⟨_, rfl, rfl⟩) (by decide) (fun t ht => by first | exact ht | decide | (show t + 1 < _; simp only [cnt] at ht ⊢; omega))
theorem gf_X6_1 {G : GX} {mts : Nat → Option MT} {own : String} {cc : ByteArray} {mL : Nat} {rt : Option FieldType} {d : Nat} {sx : SX} {pc index : Nat} (hw : Cond.fieldLink own index "LooseHeap" "benches" "LLooseHeap$Benches;" ∈ tW) (hd : decode cc pc = .ok (.getfield index, 3)) : Snd G mts own cc mL rt d sx pc (i_gR 5 (fun _ => (11, 0)) (pc + 3)) := s_gR co_X6 (j := 1) (f := (fun _ => (11, 0))) (by decide) hw hd (fun _ _ => ⟨_, rfl, rfl⟩) (by decide) (fun t ht => by first | exact ht | decide | (show t + 1 < _; simp only [cnt] at ht ⊢; omega))
theorem gf_X6_2 {G : GX} {mts : Nat → Option MT} {own : String} {cc : ByteArray} {mL : Nat} {rt : Option FieldType} {d : Nat} {sx : SX} {pc index : Nat} (hw : Cond.fieldLink own index "LooseHeap" "roads" "LLooseHeap$Roads;" ∈ tW) (hd : decode cc pc = .ok (.getfield index, 3)) : Snd G mts own cc mL rt d sx pc (i_gR 5 (fun _ => (13, 0)) (pc + 3)) := s_gR co_X6 (j := 2) (f := (fun _ => (13, 0))) (by decide) hw hd (fun _ _ => ⟨_, rfl, rfl⟩) (by decide) (fun t ht => by first | exact ht | decide | (show t + 1 < _; simp only [cnt] at ht ⊢; omega))
theorem gf_X6_3 {G : GX} {mts : Nat → Option MT} {own : String} {cc : ByteArray} {mL : Nat} {rt : Option FieldType} {d : Nat} {sx : SX} {pc index : Nat} (hw : Cond.fieldLink own index "LooseHeap" "lots" "LLooseHeap$Lots;" ∈ tW) (hd : decode cc pc = .ok (.getfield index, 3)) : Snd G mts own cc mL rt d sx pc (i_gR 5 (fun _ => (18, 0)) (pc + 3)) := s_gR co_X6 (j := 3) (f := (fun _ => (18, 0))) (by decide) hw hd (fun _ _ => ⟨_, rfl, rfl⟩) (by decide) (fun t ht => by first | exact ht | decide | (show t + 1 < _; simp only [cnt] at ht ⊢; omega))
theorem gf_X6_4 {G : GX} {mts : Nat → Option MT} {own : String} {cc : ByteArray} {mL : Nat} {rt : Option FieldType} {d : Nat} {sx : SX} {pc index : Nat} (hw : Cond.fieldLink own index "LooseHeap" "images" "[LLooseHeap$Image;" ∈ tW) (hd : decode cc pc = .ok (.getfield index, 3)) : Snd G mts own cc mL rt d sx pc (i_gR 5 (fun _ => (19, 0)) (pc + 3)) := s_gR co_X6 (j := 4) (f := (fun _ => (19, 0))) (by decide) hw hd (fun _ _ => ⟨_, rfl, rfl⟩) (by decide) (fun t ht => by first | exact ht | decide | (show t + 1 < _; simp only [cnt] at ht ⊢; omega))
theorem in_X7 : ∀ w ∈ u_ws RX7 TX7 25, w ∈ tW := fun w h => tW_in (goodIn_r (big := lw_tbl) _ [658, 660, 662, 664, 666, 668, 670, 672, 674, 676, 678, 680, 682, 684, 686, 688, 690, 692, 694, 696, 698, 700, 702, 704, 706] (by decide +kernel) (by decide +kernel) w h).1 (List.all_eq_true.mp (by decide +kernel : (u_ws RX7 TX7 25).all goodWord = true) w h)
theorem co_X7 : CO 6 21 RX7 TX7 25 tyX7 := ⟨fun a h => by
  unfold acl at h
  split at h <;> first | rfl | (exact absurd h (by decide)), rfl, in_X7, tyX7_ok, nmX7⟩
theorem gf_X7_0 {G : GX} {mts : Nat → Option MT} {own : String} {cc : ByteArray} {mL : Nat} {rt : Option FieldType} {d : Nat} {sx : SX} {pc index : Nat} (hw : Cond.fieldLink own index "LooseHeapModel" "jobs" "I" ∈ tW) (hd : decode cc pc = .ok (.getfield index, 3)) : Snd G mts own cc mL rt d sx pc (i_gI 6 0 (pc + 3)) := s_gI co_X7 (j := 0) (by decide) hw hd (fun _ _ => ⟨_, rfl, rfl⟩) (by decide)
theorem pf_X7_0 {G : GX} {mts : Nat → Option MT} {own : String} {cc : ByteArray} {mL : Nat} {rt : Option FieldType} {d : Nat} {sx : SX} {pc index : Nat} (hAp : Ap G) (hw : Cond.fieldLink own index "LooseHeapModel" "jobs" "I" ∈ tW) (hd : decode cc pc = .ok (.putfield index, 3)) : Snd G mts own cc mL rt d sx pc (i_pI 6 0 (pc + 3)) := s_pI hAp co_X7 (j := 0) (by decide) hw hd rfl rfl (fun M t v => ⟨_, rfl, Nat.le_of_ble_eq_true rfl, by simp [cel, um]⟩) (by decide)
theorem gf_X7_1 {G : GX} {mts : Nat → Option MT} {own : String} {cc : ByteArray} {mL : Nat} {rt : Option FieldType} {d : Nat} {sx : SX} {pc index : Nat} (hw : Cond.fieldLink own index "LooseHeapModel" "kind" "[I" ∈ tW) (hd : decode cc pc = .ok (.getfield index, 3)) : Snd G mts own cc mL rt d sx pc (i_gR 6 (fun _ => (22, 0)) (pc + 3)) := s_gR co_X7 (j := 1) (f := (fun _ => (22, 0))) (by decide) hw hd (fun _ _ => ⟨_, rfl, rfl⟩) (by decide) (fun t ht => by first | exact ht | decide | (show t + 1 < _; simp only [cnt] at ht ⊢; omega))
theorem gf_X7_2 {G : GX} {mts : Nat → Option MT} {own : String} {cc : ByteArray} {mL : Nat} {rt : Option FieldType} {d : Nat} {sx : SX} {pc index : Nat} (hw : Cond.fieldLink own index "LooseHeapModel" "key" "[I" ∈ tW) (hd : decode cc pc = .ok (.getfield index, 3)) : Snd G mts own cc mL rt d sx pc (i_gR 6 (fun _ => (23, 0)) (pc + 3)) := s_gR co_X7 (j := 2) (f := (fun _ => (23, 0))) (by decide) hw hd (fun _ _ => ⟨_, rfl, rfl⟩) (by decide) (fun t ht => by first | exact ht | decide | (show t + 1 < _; simp only [cnt] at ht ⊢; omega))
theorem gf_X7_3 {G : GX} {mts : Nat → Option MT} {own : String} {cc : ByteArray} {mL : Nat} {rt : Option FieldType} {d : Nat} {sx : SX} {pc index : Nat} (hw : Cond.fieldLink own index "LooseHeapModel" "stands" "[Z" ∈ tW) (hd : decode cc pc = .ok (.getfield index, 3)) : Snd G mts own cc mL rt d sx pc (i_gR 6 (fun _ => (24, 0)) (pc + 3)) := s_gR co_X7 (j := 3) (f := (fun _ => (24, 0))) (by decide) hw hd (fun _ _ => ⟨_, rfl, rfl⟩) (by decide) (fun t ht => by first | exact ht | decide | (show t + 1 < _; simp only [cnt] at ht ⊢; omega))
theorem gf_X7_4 {G : GX} {mts : Nat → Option MT} {own : String} {cc : ByteArray} {mL : Nat} {rt : Option FieldType} {d : Nat} {sx : SX} {pc index : Nat} (hw : Cond.fieldLink own index "LooseHeapModel" "below" "[I" ∈ tW) (hd : decode cc pc = .ok (.getfield index, 3)) : Snd G mts own cc mL rt d sx pc (i_gR 6 (fun _ => (25, 0)) (pc + 3)) := s_gR co_X7 (j := 4) (f := (fun _ => (25, 0))) (by decide) hw hd (fun _ _ => ⟨_, rfl, rfl⟩) (by decide) (fun t ht => by first | exact ht | decide | (show t + 1 < _; simp only [cnt] at ht ⊢; omega))
theorem gf_X7_5 {G : GX} {mts : Nat → Option MT} {own : String} {cc : ByteArray} {mL : Nat} {rt : Option FieldType} {d : Nat} {sx : SX} {pc index : Nat} (hw : Cond.fieldLink own index "LooseHeapModel" "isLoose" "[Z" ∈ tW) (hd : decode cc pc = .ok (.getfield index, 3)) : Snd G mts own cc mL rt d sx pc (i_gR 6 (fun _ => (26, 0)) (pc + 3)) := s_gR co_X7 (j := 5) (f := (fun _ => (26, 0))) (by decide) hw hd (fun _ _ => ⟨_, rfl, rfl⟩) (by decide) (fun t ht => by first | exact ht | decide | (show t + 1 < _; simp only [cnt] at ht ⊢; omega))
theorem gf_X7_6 {G : GX} {mts : Nat → Option MT} {own : String} {cc : ByteArray} {mL : Nat} {rt : Option FieldType} {d : Nat} {sx : SX} {pc index : Nat} (hw : Cond.fieldLink own index "LooseHeapModel" "came" "[I" ∈ tW) (hd : decode cc pc = .ok (.getfield index, 3)) : Snd G mts own cc mL rt d sx pc (i_gR 6 (fun _ => (27, 0)) (pc + 3)) := s_gR co_X7 (j := 6) (f := (fun _ => (27, 0))) (by decide) hw hd (fun _ _ => ⟨_, rfl, rfl⟩) (by decide) (fun t ht => by first | exact ht | decide | (show t + 1 < _; simp only [cnt] at ht ⊢; omega))
theorem gf_X7_7 {G : GX} {mts : Nat → Option MT} {own : String} {cc : ByteArray} {mL : Nat} {rt : Option FieldType} {d : Nat} {sx : SX} {pc index : Nat} (hw : Cond.fieldLink own index "LooseHeapModel" "counted" "I" ∈ tW) (hd : decode cc pc = .ok (.getfield index, 3)) : Snd G mts own cc mL rt d sx pc (i_gI 6 7 (pc + 3)) := s_gI co_X7 (j := 7) (by decide) hw hd (fun _ _ => ⟨_, rfl, rfl⟩) (by decide)
theorem pf_X7_7 {G : GX} {mts : Nat → Option MT} {own : String} {cc : ByteArray} {mL : Nat} {rt : Option FieldType} {d : Nat} {sx : SX} {pc index : Nat} (hAp : Ap G) (hw : Cond.fieldLink own index "LooseHeapModel" "counted" "I" ∈ tW) (hd : decode cc pc = .ok (.putfield index, 3)) : Snd G mts own cc mL rt d sx pc (i_pI 6 7 (pc + 3)) := s_pI hAp co_X7 (j := 7) (by decide) hw hd rfl rfl (fun M t v => ⟨_, rfl, Nat.le_of_ble_eq_true rfl, by simp [cel, um]⟩) (by decide)
theorem gf_X7_8 {G : GX} {mts : Nat → Option MT} {own : String} {cc : ByteArray} {mL : Nat} {rt : Option FieldType} {d : Nat} {sx : SX} {pc index : Nat} (hw : Cond.fieldLink own index "LooseHeapModel" "links" "I" ∈ tW) (hd : decode cc pc = .ok (.getfield index, 3)) : Snd G mts own cc mL rt d sx pc (i_gI 6 8 (pc + 3)) := s_gI co_X7 (j := 8) (by decide) hw hd (fun _ _ => ⟨_, rfl, rfl⟩) (by decide)
theorem pf_X7_8 {G : GX} {mts : Nat → Option MT} {own : String} {cc : ByteArray} {mL : Nat} {rt : Option FieldType} {d : Nat} {sx : SX} {pc index : Nat} (hAp : Ap G) (hw : Cond.fieldLink own index "LooseHeapModel" "links" "I" ∈ tW) (hd : decode cc pc = .ok (.putfield index, 3)) : Snd G mts own cc mL rt d sx pc (i_pI 6 8 (pc + 3)) := s_pI hAp co_X7 (j := 8) (by decide) hw hd rfl rfl (fun M t v => ⟨_, rfl, Nat.le_of_ble_eq_true rfl, by simp [cel, um]⟩) (by decide)
theorem gf_X7_9 {G : GX} {mts : Nat → Option MT} {own : String} {cc : ByteArray} {mL : Nat} {rt : Option FieldType} {d : Nat} {sx : SX} {pc index : Nat} (hw : Cond.fieldLink own index "LooseHeapModel" "cuts" "I" ∈ tW) (hd : decode cc pc = .ok (.getfield index, 3)) : Snd G mts own cc mL rt d sx pc (i_gI 6 9 (pc + 3)) := s_gI co_X7 (j := 9) (by decide) hw hd (fun _ _ => ⟨_, rfl, rfl⟩) (by decide)
theorem pf_X7_9 {G : GX} {mts : Nat → Option MT} {own : String} {cc : ByteArray} {mL : Nat} {rt : Option FieldType} {d : Nat} {sx : SX} {pc index : Nat} (hAp : Ap G) (hw : Cond.fieldLink own index "LooseHeapModel" "cuts" "I" ∈ tW) (hd : decode cc pc = .ok (.putfield index, 3)) : Snd G mts own cc mL rt d sx pc (i_pI 6 9 (pc + 3)) := s_pI hAp co_X7 (j := 9) (by decide) hw hd rfl rfl (fun M t v => ⟨_, rfl, Nat.le_of_ble_eq_true rfl, by simp [cel, um]⟩) (by decide)
theorem gf_X7_10 {G : GX} {mts : Nat → Option MT} {own : String} {cc : ByteArray} {mL : Nat} {rt : Option FieldType} {d : Nat} {sx : SX} {pc index : Nat} (hw : Cond.fieldLink own index "LooseHeapModel" "base" "I" ∈ tW) (hd : decode cc pc = .ok (.getfield index, 3)) : Snd G mts own cc mL rt d sx pc (i_gI 6 10 (pc + 3)) := s_gI co_X7 (j := 10) (by decide) hw hd (fun _ _ => ⟨_, rfl, rfl⟩) (by decide)
theorem pf_X7_10 {G : GX} {mts : Nat → Option MT} {own : String} {cc : ByteArray} {mL : Nat} {rt : Option FieldType} {d : Nat} {sx : SX} {pc index : Nat} (hAp : Ap G) (hw : Cond.fieldLink own index "LooseHeapModel" "base" "I" ∈ tW) (hd : decode cc pc = .ok (.putfield index, 3)) : Snd G mts own cc mL rt d sx pc (i_pI 6 10 (pc + 3)) := s_pI hAp co_X7 (j := 10) (by decide) hw hd rfl rfl (fun M t v => ⟨_, rfl, Nat.le_of_ble_eq_true rfl, by simp [cel, um]⟩) (by decide)
theorem gf_X7_11 {G : GX} {mts : Nat → Option MT} {own : String} {cc : ByteArray} {mL : Nat} {rt : Option FieldType} {d : Nat} {sx : SX} {pc index : Nat} (hw : Cond.fieldLink own index "LooseHeapModel" "end" "I" ∈ tW) (hd : decode cc pc = .ok (.getfield index, 3)) : Snd G mts own cc mL rt d sx pc (i_gI 6 11 (pc + 3)) := s_gI co_X7 (j := 11) (by decide) hw hd (fun _ _ => ⟨_, rfl, rfl⟩) (by decide)
theorem pf_X7_11 {G : GX} {mts : Nat → Option MT} {own : String} {cc : ByteArray} {mL : Nat} {rt : Option FieldType} {d : Nat} {sx : SX} {pc index : Nat} (hAp : Ap G) (hw : Cond.fieldLink own index "LooseHeapModel" "end" "I" ∈ tW) (hd : decode cc pc = .ok (.putfield index, 3)) : Snd G mts own cc mL rt d sx pc (i_pI 6 11 (pc + 3)) := s_pI hAp co_X7 (j := 11) (by decide) hw hd rfl rfl (fun M t v => ⟨_, rfl, Nat.le_of_ble_eq_true rfl, by simp [cel, um]⟩) (by decide)
theorem gf_X7_12 {G : GX} {mts : Nat → Option MT} {own : String} {cc : ByteArray} {mL : Nat} {rt : Option FieldType} {d : Nat} {sx : SX} {pc index : Nat} (hw : Cond.fieldLink own index "LooseHeapModel" "bench" "[I" ∈ tW) (hd : decode cc pc = .ok (.getfield index, 3)) : Snd G mts own cc mL rt d sx pc (i_gR 6 (fun _ => (28, 0)) (pc + 3)) := s_gR co_X7 (j := 12) (f := (fun _ => (28, 0))) (by decide) hw hd (fun _ _ => ⟨_, rfl, rfl⟩) (by decide) (fun t ht => by first | exact ht | decide | (show t + 1 < _; simp only [cnt] at ht ⊢; omega))
theorem gf_X7_13 {G : GX} {mts : Nat → Option MT} {own : String} {cc : ByteArray} {mL : Nat} {rt : Option FieldType} {d : Nat} {sx : SX} {pc index : Nat} (hw : Cond.fieldLink own index "LooseHeapModel" "places" "I" ∈ tW) (hd : decode cc pc = .ok (.getfield index, 3)) : Snd G mts own cc mL rt d sx pc (i_gI 6 13 (pc + 3)) := s_gI co_X7 (j := 13) (by decide) hw hd (fun _ _ => ⟨_, rfl, rfl⟩) (by decide)
theorem pf_X7_13 {G : GX} {mts : Nat → Option MT} {own : String} {cc : ByteArray} {mL : Nat} {rt : Option FieldType} {d : Nat} {sx : SX} {pc index : Nat} (hAp : Ap G) (hw : Cond.fieldLink own index "LooseHeapModel" "places" "I" ∈ tW) (hd : decode cc pc = .ok (.putfield index, 3)) : Snd G mts own cc mL rt d sx pc (i_pI 6 13 (pc + 3)) := s_pI hAp co_X7 (j := 13) (by decide) hw hd rfl rfl (fun M t v => ⟨_, rfl, Nat.le_of_ble_eq_true rfl, by simp [cel, um]⟩) (by decide)
theorem gf_X7_14 {G : GX} {mts : Nat → Option MT} {own : String} {cc : ByteArray} {mL : Nat} {rt : Option FieldType} {d : Nat} {sx : SX} {pc index : Nat} (hw : Cond.fieldLink own index "LooseHeapModel" "roads" "I" ∈ tW) (hd : decode cc pc = .ok (.getfield index, 3)) : Snd G mts own cc mL rt d sx pc (i_gI 6 14 (pc + 3)) := s_gI co_X7 (j := 14) (by decide) hw hd (fun _ _ => ⟨_, rfl, rfl⟩) (by decide)
theorem pf_X7_14 {G : GX} {mts : Nat → Option MT} {own : String} {cc : ByteArray} {mL : Nat} {rt : Option FieldType} {d : Nat} {sx : SX} {pc index : Nat} (hAp : Ap G) (hw : Cond.fieldLink own index "LooseHeapModel" "roads" "I" ∈ tW) (hd : decode cc pc = .ok (.putfield index, 3)) : Snd G mts own cc mL rt d sx pc (i_pI 6 14 (pc + 3)) := s_pI hAp co_X7 (j := 14) (by decide) hw hd rfl rfl (fun M t v => ⟨_, rfl, Nat.le_of_ble_eq_true rfl, by simp [cel, um]⟩) (by decide)
theorem gf_X7_15 {G : GX} {mts : Nat → Option MT} {own : String} {cc : ByteArray} {mL : Nat} {rt : Option FieldType} {d : Nat} {sx : SX} {pc index : Nat} (hw : Cond.fieldLink own index "LooseHeapModel" "one" "[I" ∈ tW) (hd : decode cc pc = .ok (.getfield index, 3)) : Snd G mts own cc mL rt d sx pc (i_gR 6 (fun _ => (29, 0)) (pc + 3)) := s_gR co_X7 (j := 15) (f := (fun _ => (29, 0))) (by decide) hw hd (fun _ _ => ⟨_, rfl, rfl⟩) (by decide) (fun t ht => by first | exact ht | decide | (show t + 1 < _; simp only [cnt] at ht ⊢; omega))
theorem gf_X7_16 {G : GX} {mts : Nat → Option MT} {own : String} {cc : ByteArray} {mL : Nat} {rt : Option FieldType} {d : Nat} {sx : SX} {pc index : Nat} (hw : Cond.fieldLink own index "LooseHeapModel" "other" "[I" ∈ tW) (hd : decode cc pc = .ok (.getfield index, 3)) : Snd G mts own cc mL rt d sx pc (i_gR 6 (fun _ => (30, 0)) (pc + 3)) := s_gR co_X7 (j := 16) (f := (fun _ => (30, 0))) (by decide) hw hd (fun _ _ => ⟨_, rfl, rfl⟩) (by decide) (fun t ht => by first | exact ht | decide | (show t + 1 < _; simp only [cnt] at ht ⊢; omega))
theorem gf_X7_17 {G : GX} {mts : Nat → Option MT} {own : String} {cc : ByteArray} {mL : Nat} {rt : Option FieldType} {d : Nat} {sx : SX} {pc index : Nat} (hw : Cond.fieldLink own index "LooseHeapModel" "weight" "[I" ∈ tW) (hd : decode cc pc = .ok (.getfield index, 3)) : Snd G mts own cc mL rt d sx pc (i_gR 6 (fun _ => (31, 0)) (pc + 3)) := s_gR co_X7 (j := 17) (f := (fun _ => (31, 0))) (by decide) hw hd (fun _ _ => ⟨_, rfl, rfl⟩) (by decide) (fun t ht => by first | exact ht | decide | (show t + 1 < _; simp only [cnt] at ht ⊢; omega))
theorem gf_X7_18 {G : GX} {mts : Nat → Option MT} {own : String} {cc : ByteArray} {mL : Nat} {rt : Option FieldType} {d : Nat} {sx : SX} {pc index : Nat} (hw : Cond.fieldLink own index "LooseHeapModel" "hangs" "[I" ∈ tW) (hd : decode cc pc = .ok (.getfield index, 3)) : Snd G mts own cc mL rt d sx pc (i_gR 6 (fun _ => (32, 0)) (pc + 3)) := s_gR co_X7 (j := 18) (f := (fun _ => (32, 0))) (by decide) hw hd (fun _ _ => ⟨_, rfl, rfl⟩) (by decide) (fun t ht => by first | exact ht | decide | (show t + 1 < _; simp only [cnt] at ht ⊢; omega))
theorem gf_X7_19 {G : GX} {mts : Nat → Option MT} {own : String} {cc : ByteArray} {mL : Nat} {rt : Option FieldType} {d : Nat} {sx : SX} {pc index : Nat} (hw : Cond.fieldLink own index "LooseHeapModel" "lowered" "I" ∈ tW) (hd : decode cc pc = .ok (.getfield index, 3)) : Snd G mts own cc mL rt d sx pc (i_gI 6 19 (pc + 3)) := s_gI co_X7 (j := 19) (by decide) hw hd (fun _ _ => ⟨_, rfl, rfl⟩) (by decide)
theorem pf_X7_19 {G : GX} {mts : Nat → Option MT} {own : String} {cc : ByteArray} {mL : Nat} {rt : Option FieldType} {d : Nat} {sx : SX} {pc index : Nat} (hAp : Ap G) (hw : Cond.fieldLink own index "LooseHeapModel" "lowered" "I" ∈ tW) (hd : decode cc pc = .ok (.putfield index, 3)) : Snd G mts own cc mL rt d sx pc (i_pI 6 19 (pc + 3)) := s_pI hAp co_X7 (j := 19) (by decide) hw hd rfl rfl (fun M t v => ⟨_, rfl, Nat.le_of_ble_eq_true rfl, by simp [cel, um]⟩) (by decide)
theorem gf_X7_20 {G : GX} {mts : Nat → Option MT} {own : String} {cc : ByteArray} {mL : Nat} {rt : Option FieldType} {d : Nat} {sx : SX} {pc index : Nat} (hw : Cond.fieldLink own index "LooseHeapModel" "ownLinks" "I" ∈ tW) (hd : decode cc pc = .ok (.getfield index, 3)) : Snd G mts own cc mL rt d sx pc (i_gI 6 20 (pc + 3)) := s_gI co_X7 (j := 20) (by decide) hw hd (fun _ _ => ⟨_, rfl, rfl⟩) (by decide)
theorem pf_X7_20 {G : GX} {mts : Nat → Option MT} {own : String} {cc : ByteArray} {mL : Nat} {rt : Option FieldType} {d : Nat} {sx : SX} {pc index : Nat} (hAp : Ap G) (hw : Cond.fieldLink own index "LooseHeapModel" "ownLinks" "I" ∈ tW) (hd : decode cc pc = .ok (.putfield index, 3)) : Snd G mts own cc mL rt d sx pc (i_pI 6 20 (pc + 3)) := s_pI hAp co_X7 (j := 20) (by decide) hw hd rfl rfl (fun M t v => ⟨_, rfl, Nat.le_of_ble_eq_true rfl, by simp [cel, um]⟩) (by decide)
theorem gf_X7_21 {G : GX} {mts : Nat → Option MT} {own : String} {cc : ByteArray} {mL : Nat} {rt : Option FieldType} {d : Nat} {sx : SX} {pc index : Nat} (hw : Cond.fieldLink own index "LooseHeapModel" "ownCuts" "I" ∈ tW) (hd : decode cc pc = .ok (.getfield index, 3)) : Snd G mts own cc mL rt d sx pc (i_gI 6 21 (pc + 3)) := s_gI co_X7 (j := 21) (by decide) hw hd (fun _ _ => ⟨_, rfl, rfl⟩) (by decide)
theorem pf_X7_21 {G : GX} {mts : Nat → Option MT} {own : String} {cc : ByteArray} {mL : Nat} {rt : Option FieldType} {d : Nat} {sx : SX} {pc index : Nat} (hAp : Ap G) (hw : Cond.fieldLink own index "LooseHeapModel" "ownCuts" "I" ∈ tW) (hd : decode cc pc = .ok (.putfield index, 3)) : Snd G mts own cc mL rt d sx pc (i_pI 6 21 (pc + 3)) := s_pI hAp co_X7 (j := 21) (by decide) hw hd rfl rfl (fun M t v => ⟨_, rfl, Nat.le_of_ble_eq_true rfl, by simp [cel, um]⟩) (by decide)
theorem gf_X7_22 {G : GX} {mts : Nat → Option MT} {own : String} {cc : ByteArray} {mL : Nat} {rt : Option FieldType} {d : Nat} {sx : SX} {pc index : Nat} (hw : Cond.fieldLink own index "LooseHeapModel" "image" "[I" ∈ tW) (hd : decode cc pc = .ok (.getfield index, 3)) : Snd G mts own cc mL rt d sx pc (i_gR 6 (fun _ => (33, 0)) (pc + 3)) := s_gR co_X7 (j := 22) (f := (fun _ => (33, 0))) (by decide) hw hd (fun _ _ => ⟨_, rfl, rfl⟩) (by decide) (fun t ht => by first | exact ht | decide | (show t + 1 < _; simp only [cnt] at ht ⊢; omega))
theorem gf_X7_23 {G : GX} {mts : Nat → Option MT} {own : String} {cc : ByteArray} {mL : Nat} {rt : Option FieldType} {d : Nat} {sx : SX} {pc index : Nat} (hw : Cond.fieldLink own index "LooseHeapModel" "isKept" "[Z" ∈ tW) (hd : decode cc pc = .ok (.getfield index, 3)) : Snd G mts own cc mL rt d sx pc (i_gR 6 (fun _ => (34, 0)) (pc + 3)) := s_gR co_X7 (j := 23) (f := (fun _ => (34, 0))) (by decide) hw hd (fun _ _ => ⟨_, rfl, rfl⟩) (by decide) (fun t ht => by first | exact ht | decide | (show t + 1 < _; simp only [cnt] at ht ⊢; omega))
theorem gf_X7_24 {G : GX} {mts : Nat → Option MT} {own : String} {cc : ByteArray} {mL : Nat} {rt : Option FieldType} {d : Nat} {sx : SX} {pc index : Nat} (hw : Cond.fieldLink own index "LooseHeapModel" "seed" "J" ∈ tW) (hd : decode cc pc = .ok (.getfield index, 3)) : Snd G mts own cc mL rt d sx pc (i_gL 6 1 (pc + 3)) := s_gL co_X7 (j := 24) (by decide) hw hd (fun _ _ => ⟨_, rfl, rfl⟩) (by decide)
theorem pf_X7_24 {G : GX} {mts : Nat → Option MT} {own : String} {cc : ByteArray} {mL : Nat} {rt : Option FieldType} {d : Nat} {sx : SX} {pc index : Nat} (hAp : Ap G) (hw : Cond.fieldLink own index "LooseHeapModel" "seed" "J" ∈ tW) (hd : decode cc pc = .ok (.putfield index, 3)) : Snd G mts own cc mL rt d sx pc (i_pL 6 1 (pc + 3)) := s_pL hAp co_X7 (j := 24) (by decide) hw hd rfl rfl (fun M t v => ⟨_, rfl, Nat.le_of_ble_eq_true rfl, by simp [cel, ul]⟩) (by decide)
set_option maxRecDepth 20000 in
theorem mo_X0_empty : MO mts n_X0_empty yX0_empty cX0_empty 1 (none) 0 := ⟨rfl, w_344, w_48, ⟨by decide, by decide, by decide +kernel⟩, by decide⟩
set_option maxRecDepth 20000 in
theorem mo_X0_copyFrom : MO mts n_X0_copyFrom yX0_copyFrom cX0_copyFrom 2 (none) 1 := ⟨rfl, w_611, w_48, ⟨by decide, by decide, by decide +kernel⟩, by decide⟩
set_option maxRecDepth 20000 in
theorem mo_X0_sitter : MO mts n_X0_sitter yX0_sitter cX0_sitter 3 (some .int) 2 := ⟨rfl, w_491, w_48, ⟨by decide, by decide, by decide +kernel⟩, by decide⟩
set_option maxRecDepth 20000 in
theorem mo_X0_seat : MO mts n_X0_seat yX0_seat cX0_seat 6 (some .int) 3 := ⟨rfl, w_487, w_48, ⟨by decide, by decide, by decide +kernel⟩, by decide⟩
set_option maxRecDepth 20000 in
theorem mo_X1_bitsOf : MO mts n_X1_bitsOf yX1_bitsOf cX1_bitsOf 12 (some .long) 3 := ⟨rfl, w_450, w_55, ⟨by decide, by decide, by decide +kernel⟩, by decide⟩
set_option maxRecDepth 20000 in
theorem mo_X2_empty : MO mts n_X2_empty yX2_empty cX2_empty 1 (none) 0 := ⟨rfl, w_340, w_47, ⟨by decide, by decide, by decide +kernel⟩, by decide⟩
set_option maxRecDepth 20000 in
theorem mo_X2_copyFrom : MO mts n_X2_copyFrom yX2_copyFrom cX2_copyFrom 4 (none) 1 := ⟨rfl, w_604, w_47, ⟨by decide, by decide, by decide +kernel⟩, by decide⟩
set_option maxRecDepth 20000 in
theorem mo_X2_hasRoom : MO mts n_X2_hasRoom yX2_hasRoom cX2_hasRoom 1 (some .boolean) 0 := ⟨rfl, w_226, w_47, ⟨by decide, by decide, by decide +kernel⟩, by decide⟩
set_option maxRecDepth 20000 in
theorem mo_X2_has : MO mts n_X2_has yX2_has cX2_has 2 (some .boolean) 1 := ⟨rfl, w_241, w_47, ⟨by decide, by decide, by decide +kernel⟩, by decide⟩
set_option maxRecDepth 20000 in
theorem mo_X2_add : MO mts n_X2_add yX2_add cX2_add 4 (some .int) 2 := ⟨rfl, w_231, w_47, ⟨by decide, by decide, by decide +kernel⟩, by decide⟩
set_option maxRecDepth 20000 in
theorem mo_X2_lowerTo : MO mts n_X2_lowerTo yX2_lowerTo cX2_lowerTo 3 (none) 2 := ⟨rfl, w_255, w_47, ⟨by decide, by decide, by decide +kernel⟩, by decide⟩
set_option maxRecDepth 20000 in
theorem mo_X2_takeOut : MO mts n_X2_takeOut yX2_takeOut cX2_takeOut 2 (none) 1 := ⟨rfl, w_307, w_47, ⟨by decide, by decide, by decide +kernel⟩, by decide⟩
set_option maxRecDepth 20000 in
theorem mo_X2_joinAll : MO mts n_X2_joinAll yX2_joinAll cX2_joinAll 3 (some .int) 0 := ⟨rfl, w_315, w_47, ⟨by decide, by decide, by decide +kernel⟩, by decide⟩
set_option maxRecDepth 20000 in
theorem mo_X2_settleAll : MO mts n_X2_settleAll yX2_settleAll cX2_settleAll 2 (none) 0 := ⟨rfl, w_263, w_47, ⟨by decide, by decide, by decide +kernel⟩, by decide⟩
set_option maxRecDepth 20000 in
theorem mo_X2_findPair : MO mts n_X2_findPair yX2_findPair cX2_findPair 5 (some .boolean) 1 := ⟨rfl, w_267, w_47, ⟨by decide, by decide, by decide +kernel⟩, by decide⟩
set_option maxRecDepth 20000 in
theorem mo_X2_linkTwo : MO mts n_X2_linkTwo yX2_linkTwo cX2_linkTwo 6 (none) 2 := ⟨rfl, w_288, w_47, ⟨by decide, by decide, by decide +kernel⟩, by decide⟩
set_option maxRecDepth 20000 in
theorem mo_X2_cutOff : MO mts n_X2_cutOff yX2_cutOff cX2_cutOff 4 (none) 1 := ⟨rfl, w_276, w_47, ⟨by decide, by decide, by decide +kernel⟩, by decide⟩
set_option maxRecDepth 20000 in
theorem mo_X2_freeChildren : MO mts n_X2_freeChildren yX2_freeChildren cX2_freeChildren 5 (none) 1 := ⟨rfl, w_311, w_47, ⟨by decide, by decide, by decide +kernel⟩, by decide⟩
set_option maxRecDepth 20000 in
theorem mo_X2_makeRoot : MO mts n_X2_makeRoot yX2_makeRoot cX2_makeRoot 2 (none) 1 := ⟨rfl, w_284, w_47, ⟨by decide, by decide, by decide +kernel⟩, by decide⟩
set_option maxRecDepth 20000 in
theorem mo_X2_besideBefore : MO mts n_X2_besideBefore yX2_besideBefore cX2_besideBefore 6 (some .int) 2 := ⟨rfl, w_280, w_47, ⟨by decide, by decide, by decide +kernel⟩, by decide⟩
set_option maxRecDepth 20000 in
theorem mo_X2_isSooner : MO mts n_X2_isSooner yX2_isSooner cX2_isSooner 3 (some .boolean) 2 := ⟨rfl, w_259, w_47, ⟨by decide, by decide, by decide +kernel⟩, by decide⟩
set_option maxRecDepth 20000 in
theorem mo_X2_isRoot : MO mts n_X2_isRoot yX2_isRoot cX2_isRoot 2 (some .boolean) 1 := ⟨rfl, w_272, w_47, ⟨by decide, by decide, by decide +kernel⟩, by decide⟩
set_option maxRecDepth 20000 in
theorem mo_X2_count : MO mts n_X2_count yX2_count cX2_count 1 (some .int) 0 := ⟨rfl, w_336, w_47, ⟨by decide, by decide, by decide +kernel⟩, by decide⟩
set_option maxRecDepth 20000 in
theorem mo_X2_links : MO mts n_X2_links yX2_links cX2_links 1 (some .int) 0 := ⟨rfl, w_402, w_47, ⟨by decide, by decide, by decide +kernel⟩, by decide⟩
set_option maxRecDepth 20000 in
theorem mo_X2_cuts : MO mts n_X2_cuts yX2_cuts cX2_cuts 1 (some .int) 0 := ⟨rfl, w_406, w_47, ⟨by decide, by decide, by decide +kernel⟩, by decide⟩
set_option maxRecDepth 20000 in
theorem mo_X2_kindOf : MO mts n_X2_kindOf yX2_kindOf cX2_kindOf 2 (some .int) 1 := ⟨rfl, w_430, w_47, ⟨by decide, by decide, by decide +kernel⟩, by decide⟩
set_option maxRecDepth 20000 in
theorem mo_X2_keyOf : MO mts n_X2_keyOf yX2_keyOf cX2_keyOf 2 (some .int) 1 := ⟨rfl, w_250, w_47, ⟨by decide, by decide, by decide +kernel⟩, by decide⟩
set_option maxRecDepth 20000 in
theorem mo_X2_aboveOf : MO mts n_X2_aboveOf yX2_aboveOf cX2_aboveOf 2 (some .int) 1 := ⟨rfl, w_434, w_47, ⟨by decide, by decide, by decide +kernel⟩, by decide⟩
set_option maxRecDepth 20000 in
theorem mo_X2_rankOf : MO mts n_X2_rankOf yX2_rankOf cX2_rankOf 2 (some .int) 1 := ⟨rfl, w_438, w_47, ⟨by decide, by decide, by decide +kernel⟩, by decide⟩
set_option maxRecDepth 20000 in
theorem mo_X2_isStanding : MO mts n_X2_isStanding yX2_isStanding cX2_isStanding 2 (some .boolean) 1 := ⟨rfl, w_246, w_47, ⟨by decide, by decide, by decide +kernel⟩, by decide⟩
set_option maxRecDepth 20000 in
theorem mo_X2_isLoose : MO mts n_X2_isLoose yX2_isLoose cX2_isLoose 2 (some .boolean) 1 := ⟨rfl, w_292, w_47, ⟨by decide, by decide, by decide +kernel⟩, by decide⟩
set_option maxRecDepth 20000 in
theorem mo_X2_soonest : MO mts n_X2_soonest yX2_soonest cX2_soonest 3 (some .int) 0 := ⟨rfl, w_303, w_47, ⟨by decide, by decide, by decide +kernel⟩, by decide⟩
set_option maxRecDepth 20000 in
theorem mo_X2_standingCount : MO mts n_X2_standingCount yX2_standingCount cX2_standingCount 3 (some .int) 0 := ⟨rfl, w_323, w_47, ⟨by decide, by decide, by decide +kernel⟩, by decide⟩
set_option maxRecDepth 20000 in
theorem mo_X2_standingAt : MO mts n_X2_standingAt yX2_standingAt cX2_standingAt 4 (some .int) 1 := ⟨rfl, w_375, w_47, ⟨by decide, by decide, by decide +kernel⟩, by decide⟩
set_option maxRecDepth 20000 in
theorem mo_X2_rootCount : MO mts n_X2_rootCount yX2_rootCount cX2_rootCount 3 (some .int) 0 := ⟨rfl, w_387, w_47, ⟨by decide, by decide, by decide +kernel⟩, by decide⟩
set_option maxRecDepth 20000 in
theorem mo_X2_looseCount : MO mts n_X2_looseCount yX2_looseCount cX2_looseCount 3 (some .int) 0 := ⟨rfl, w_391, w_47, ⟨by decide, by decide, by decide +kernel⟩, by decide⟩
set_option maxRecDepth 20000 in
theorem mo_X2_looseOfRank : MO mts n_X2_looseOfRank yX2_looseOfRank cX2_looseOfRank 3 (some .int) 1 := ⟨rfl, w_469, w_47, ⟨by decide, by decide, by decide +kernel⟩, by decide⟩
set_option maxRecDepth 20000 in
theorem mo_X2_greatestRank : MO mts n_X2_greatestRank yX2_greatestRank cX2_greatestRank 3 (some .int) 0 := ⟨rfl, w_395, w_47, ⟨by decide, by decide, by decide +kernel⟩, by decide⟩
set_option maxRecDepth 20000 in
theorem mo_X2_longestRow : MO mts n_X2_longestRow yX2_longestRow cX2_longestRow 3 (some .int) 0 := ⟨rfl, w_410, w_47, ⟨by decide, by decide, by decide +kernel⟩, by decide⟩
set_option maxRecDepth 20000 in
theorem mo_X2_depthOf : MO mts n_X2_depthOf yX2_depthOf cX2_depthOf 4 (some .int) 1 := ⟨rfl, w_414, w_47, ⟨by decide, by decide, by decide +kernel⟩, by decide⟩
set_option maxRecDepth 20000 in
theorem mo_X2_sizeOf : MO mts n_X2_sizeOf yX2_sizeOf cX2_sizeOf 4 (some .int) 1 := ⟨rfl, w_443, w_47, ⟨by decide, by decide, by decide +kernel⟩, by decide⟩
set_option maxRecDepth 20000 in
theorem mo_X2_isWithin : MO mts n_X2_isWithin yX2_isWithin cX2_isWithin 5 (some .boolean) 2 := ⟨rfl, w_447, w_47, ⟨by decide, by decide, by decide +kernel⟩, by decide⟩
set_option maxRecDepth 20000 in
theorem mo_X2_childAt : MO mts n_X2_childAt yX2_childAt cX2_childAt 5 (some .int) 2 := ⟨rfl, w_461, w_47, ⟨by decide, by decide, by decide +kernel⟩, by decide⟩
set_option maxRecDepth 20000 in
theorem mo_X2_sumOfKeys : MO mts n_X2_sumOfKeys yX2_sumOfKeys cX2_sumOfKeys 3 (some .int) 0 := ⟨rfl, w_477, w_47, ⟨by decide, by decide, by decide +kernel⟩, by decide⟩
set_option maxRecDepth 20000 in
theorem mo_X3_isKept : MO mts n_X3_isKept yX3_isKept cX3_isKept 1 (some .boolean) 0 := ⟨rfl, w_622, w_52, ⟨by decide, by decide, by decide +kernel⟩, by decide⟩
set_option maxRecDepth 20000 in
theorem mo_X3_store : MO mts n_X3_store yX3_store cX3_store 3 (none) 2 := ⟨rfl, w_600, w_52, ⟨by decide, by decide, by decide +kernel⟩, by decide⟩
set_option maxRecDepth 20000 in
theorem mo_X3_restore : MO mts n_X3_restore yX3_restore cX3_restore 3 (none) 2 := ⟨rfl, w_626, w_52, ⟨by decide, by decide, by decide +kernel⟩, by decide⟩
set_option maxRecDepth 20000 in
theorem mo_X4_begin : MO mts n_X4_begin yX4_begin cX4_begin 2 (none) 1 := ⟨rfl, w_353, w_51, ⟨by decide, by decide, by decide +kernel⟩, by decide⟩
set_option maxRecDepth 20000 in
theorem mo_X4_draw : MO mts n_X4_draw yX4_draw cX4_draw 2 (some .int) 1 := ⟨rfl, w_361, w_51, ⟨by decide, by decide, by decide +kernel⟩, by decide⟩
set_option maxRecDepth 20000 in
theorem mo_X5_layOut : MO mts n_X5_layOut yX5_layOut cX5_layOut 2 (none) 1 := ⟨rfl, w_504, w_50, ⟨by decide, by decide, by decide +kernel⟩, by decide⟩
set_option maxRecDepth 20000 in
theorem mo_X5_hasRoom : MO mts n_X5_hasRoom yX5_hasRoom cX5_hasRoom 1 (some .boolean) 0 := ⟨rfl, w_516, w_50, ⟨by decide, by decide, by decide +kernel⟩, by decide⟩
set_option maxRecDepth 20000 in
theorem mo_X5_hasPlace : MO mts n_X5_hasPlace yX5_hasPlace cX5_hasPlace 2 (some .boolean) 1 := ⟨rfl, w_512, w_50, ⟨by decide, by decide, by decide +kernel⟩, by decide⟩
set_option maxRecDepth 20000 in
theorem mo_X5_add : MO mts n_X5_add yX5_add cX5_add 5 (some .int) 3 := ⟨rfl, w_520, w_50, ⟨by decide, by decide, by decide +kernel⟩, by decide⟩
set_option maxRecDepth 20000 in
theorem mo_X5_places : MO mts n_X5_places yX5_places cX5_places 1 (some .int) 0 := ⟨rfl, w_418, w_50, ⟨by decide, by decide, by decide +kernel⟩, by decide⟩
set_option maxRecDepth 20000 in
theorem mo_X5_count : MO mts n_X5_count yX5_count cX5_count 1 (some .int) 0 := ⟨rfl, w_422, w_50, ⟨by decide, by decide, by decide +kernel⟩, by decide⟩
set_option maxRecDepth 20000 in
theorem mo_X5_grow : MO mts n_X5_grow yX5_grow cX5_grow 5 (none) 2 := ⟨rfl, w_530, w_50, ⟨by decide, by decide, by decide +kernel⟩, by decide⟩
set_option maxRecDepth 20000 in
theorem mo_X5_begin : MO mts n_X5_begin yX5_begin cX5_begin 3 (none) 1 := ⟨rfl, w_534, w_50, ⟨by decide, by decide, by decide +kernel⟩, by decide⟩
set_option maxRecDepth 20000 in
theorem mo_X5_spread : MO mts n_X5_spread yX5_spread cX5_spread 6 (none) 2 := ⟨rfl, w_548, w_50, ⟨by decide, by decide, by decide +kernel⟩, by decide⟩
set_option maxRecDepth 20000 in
theorem mo_X5_acrossFrom : MO mts n_X5_acrossFrom yX5_acrossFrom cX5_acrossFrom 3 (some .int) 2 := ⟨rfl, w_552, w_50, ⟨by decide, by decide, by decide +kernel⟩, by decide⟩
set_option maxRecDepth 20000 in
theorem mo_X5_isReached : MO mts n_X5_isReached yX5_isReached cX5_isReached 2 (some .boolean) 1 := ⟨rfl, w_543, w_50, ⟨by decide, by decide, by decide +kernel⟩, by decide⟩
set_option maxRecDepth 20000 in
theorem mo_X5_weightOfTree : MO mts n_X5_weightOfTree yX5_weightOfTree cX5_weightOfTree 3 (some .int) 0 := ⟨rfl, w_558, w_50, ⟨by decide, by decide, by decide +kernel⟩, by decide⟩
set_option maxRecDepth 20000 in
theorem mo_X5_roadsOfTree : MO mts n_X5_roadsOfTree yX5_roadsOfTree cX5_roadsOfTree 3 (some .int) 0 := ⟨rfl, w_562, w_50, ⟨by decide, by decide, by decide +kernel⟩, by decide⟩
set_option maxRecDepth 20000 in
theorem mo_X5_links : MO mts n_X5_links yX5_links cX5_links 1 (some .int) 0 := ⟨rfl, w_566, w_50, ⟨by decide, by decide, by decide +kernel⟩, by decide⟩
set_option maxRecDepth 20000 in
theorem mo_X5_cuts : MO mts n_X5_cuts yX5_cuts cX5_cuts 1 (some .int) 0 := ⟨rfl, w_571, w_50, ⟨by decide, by decide, by decide +kernel⟩, by decide⟩
set_option maxRecDepth 20000 in
theorem mo_X5_lowerings : MO mts n_X5_lowerings yX5_lowerings cX5_lowerings 1 (some .int) 0 := ⟨rfl, w_576, w_50, ⟨by decide, by decide, by decide +kernel⟩, by decide⟩
set_option maxRecDepth 20000 in
theorem mo_X5_distanceTo : MO mts n_X5_distanceTo yX5_distanceTo cX5_distanceTo 2 (some .int) 1 := ⟨rfl, w_584, w_50, ⟨by decide, by decide, by decide +kernel⟩, by decide⟩
set_option maxRecDepth 20000 in
theorem mo_X5_reachedCount : MO mts n_X5_reachedCount yX5_reachedCount cX5_reachedCount 3 (some .int) 0 := ⟨rfl, w_592, w_50, ⟨by decide, by decide, by decide +kernel⟩, by decide⟩
set_option maxRecDepth 20000 in
theorem mo_X6_put : MO mts n_X6_put yX6_put cX6_put 3 (some .int) 2 := ⟨rfl, w_215, w_46, ⟨by decide, by decide, by decide +kernel⟩, by decide⟩
set_option maxRecDepth 20000 in
theorem mo_X6_lower : MO mts n_X6_lower yX6_lower cX6_lower 3 (some .int) 2 := ⟨rfl, w_237, w_46, ⟨by decide, by decide, by decide +kernel⟩, by decide⟩
set_option maxRecDepth 20000 in
theorem mo_X6_take : MO mts n_X6_take yX6_take cX6_take 2 (some .int) 0 := ⟨rfl, w_299, w_46, ⟨by decide, by decide, by decide +kernel⟩, by decide⟩
set_option maxRecDepth 20000 in
theorem mo_X6_drop : MO mts n_X6_drop yX6_drop cX6_drop 2 (some .int) 1 := ⟨rfl, w_319, w_46, ⟨by decide, by decide, by decide +kernel⟩, by decide⟩
set_option maxRecDepth 20000 in
theorem mo_X6_join : MO mts n_X6_join yX6_join cX6_join 1 (some .int) 0 := ⟨rfl, w_327, w_46, ⟨by decide, by decide, by decide +kernel⟩, by decide⟩
set_option maxRecDepth 20000 in
theorem mo_X6_clear : MO mts n_X6_clear yX6_clear cX6_clear 2 (some .int) 0 := ⟨rfl, w_332, w_46, ⟨by decide, by decide, by decide +kernel⟩, by decide⟩
set_option maxRecDepth 20000 in
theorem mo_X6_drift : MO mts n_X6_drift yX6_drift cX6_drift 4 (some .int) 2 := ⟨rfl, w_348, w_46, ⟨by decide, by decide, by decide +kernel⟩, by decide⟩
set_option maxRecDepth 20000 in
theorem mo_X6_told : MO mts n_X6_told yX6_told cX6_told 2 (some .int) 1 := ⟨rfl, w_383, w_46, ⟨by decide, by decide, by decide +kernel⟩, by decide⟩
set_option maxRecDepth 20000 in
theorem mo_X6_job : MO mts n_X6_job yX6_job cX6_job 3 (some .int) 2 := ⟨rfl, w_426, w_46, ⟨by decide, by decide, by decide +kernel⟩, by decide⟩
set_option maxRecDepth 20000 in
theorem mo_X6_child : MO mts n_X6_child yX6_child cX6_child 3 (some .int) 2 := ⟨rfl, w_457, w_46, ⟨by decide, by decide, by decide +kernel⟩, by decide⟩
set_option maxRecDepth 20000 in
theorem mo_X6_loose : MO mts n_X6_loose yX6_loose cX6_loose 2 (some .int) 1 := ⟨rfl, w_465, w_46, ⟨by decide, by decide, by decide +kernel⟩, by decide⟩
set_option maxRecDepth 20000 in
theorem mo_X6_bits : MO mts n_X6_bits yX6_bits cX6_bits 1 (some .long) 0 := ⟨rfl, w_473, w_46, ⟨by decide, by decide, by decide +kernel⟩, by decide⟩
set_option maxRecDepth 20000 in
theorem mo_X6_sit : MO mts n_X6_sit yX6_sit cX6_sit 4 (some .int) 3 := ⟨rfl, w_481, w_46, ⟨by decide, by decide, by decide +kernel⟩, by decide⟩
set_option maxRecDepth 20000 in
theorem mo_X6_sits : MO mts n_X6_sits yX6_sits cX6_sits 3 (some .int) 2 := ⟨rfl, w_495, w_46, ⟨by decide, by decide, by decide +kernel⟩, by decide⟩
set_option maxRecDepth 20000 in
theorem mo_X6_net : MO mts n_X6_net yX6_net cX6_net 3 (some .int) 1 := ⟨rfl, w_500, w_46, ⟨by decide, by decide, by decide +kernel⟩, by decide⟩
set_option maxRecDepth 20000 in
theorem mo_X6_road : MO mts n_X6_road yX6_road cX6_road 4 (some .int) 3 := ⟨rfl, w_508, w_46, ⟨by decide, by decide, by decide +kernel⟩, by decide⟩
set_option maxRecDepth 20000 in
theorem mo_X6_tree : MO mts n_X6_tree yX6_tree cX6_tree 3 (some .int) 2 := ⟨rfl, w_526, w_46, ⟨by decide, by decide, by decide +kernel⟩, by decide⟩
set_option maxRecDepth 20000 in
theorem mo_X6_way : MO mts n_X6_way yX6_way cX6_way 3 (some .int) 2 := ⟨rfl, w_580, w_46, ⟨by decide, by decide, by decide +kernel⟩, by decide⟩
set_option maxRecDepth 20000 in
theorem mo_X6_ways : MO mts n_X6_ways yX6_ways cX6_ways 3 (some .int) 2 := ⟨rfl, w_588, w_46, ⟨by decide, by decide, by decide +kernel⟩, by decide⟩
set_option maxRecDepth 20000 in
theorem mo_X6_keep : MO mts n_X6_keep yX6_keep cX6_keep 2 (some .int) 1 := ⟨rfl, w_596, w_46, ⟨by decide, by decide, by decide +kernel⟩, by decide⟩
set_option maxRecDepth 20000 in
theorem mo_X6_goBack : MO mts n_X6_goBack yX6_goBack cX6_goBack 2 (some .int) 1 := ⟨rfl, w_618, w_46, ⟨by decide, by decide, by decide +kernel⟩, by decide⟩
set_option maxRecDepth 20000 in
theorem mo_X6_driftOnce : MO mts n_X6_driftOnce yX6_driftOnce cX6_driftOnce 2 (none) 0 := ⟨rfl, w_357, w_46, ⟨by decide, by decide, by decide +kernel⟩, by decide⟩
set_option maxRecDepth 20000 in
theorem mo_X6_putByLots : MO mts n_X6_putByLots yX6_putByLots cX6_putByLots 3 (none) 0 := ⟨rfl, w_367, w_46, ⟨by decide, by decide, by decide +kernel⟩, by decide⟩
set_option maxRecDepth 20000 in
theorem mo_X6_lowerByLots : MO mts n_X6_lowerByLots yX6_lowerByLots cX6_lowerByLots 4 (none) 0 := ⟨rfl, w_371, w_46, ⟨by decide, by decide, by decide +kernel⟩, by decide⟩
set_option maxRecDepth 20000 in
theorem mo_X6_takeByLots : MO mts n_X6_takeByLots yX6_takeByLots cX6_takeByLots 2 (none) 0 := ⟨rfl, w_379, w_46, ⟨by decide, by decide, by decide +kernel⟩, by decide⟩
set_option maxRecDepth 20000 in
theorem mo_X6_between : MO mts n_X6_between yX6_between cX6_between 3 (some .boolean) 3 := ⟨rfl, w_218, w_46, ⟨by decide, by decide, by decide +kernel⟩, by decide⟩
set_option maxRecDepth 20000 in
theorem mo_X6_isKey : MO mts n_X6_isKey yX6_isKey cX6_isKey 1 (some .boolean) 1 := ⟨rfl, w_221, w_46, ⟨by decide, by decide, by decide +kernel⟩, by decide⟩
set_option maxRecDepth 20000 in
theorem mo_X6_flag : MO mts n_X6_flag yX6_flag cX6_flag 1 (some .int) 1 := ⟨rfl, w_295, w_46, ⟨by decide, by decide, by decide +kernel⟩, by decide⟩
set_option maxRecDepth 20000 in
theorem mo_X7_in : MO mts n_X7_in yX7_in cX7_in 3 (some .boolean) 3 := ⟨rfl, w_719, w_53, ⟨by decide, by decide, by decide +kernel⟩, by decide⟩
set_option maxRecDepth 20000 in
theorem mo_X7_own : MO mts n_X7_own yX7_own cX7_own 1 (none) 0 := ⟨rfl, w_716, w_53, ⟨by decide, by decide, by decide +kernel⟩, by decide⟩
set_option maxRecDepth 20000 in
theorem mo_X7_isSooner : MO mts n_X7_isSooner yX7_isSooner cX7_isSooner 3 (some .boolean) 2 := ⟨rfl, w_743, w_53, ⟨by decide, by decide, by decide +kernel⟩, by decide⟩
set_option maxRecDepth 20000 in
theorem mo_X7_rank : MO mts n_X7_rank yX7_rank cX7_rank 4 (some .int) 1 := ⟨rfl, w_763, w_53, ⟨by decide, by decide, by decide +kernel⟩, by decide⟩
set_option maxRecDepth 20000 in
theorem mo_X7_link : MO mts n_X7_link yX7_link cX7_link 5 (none) 2 := ⟨rfl, w_771, w_53, ⟨by decide, by decide, by decide +kernel⟩, by decide⟩
set_option maxRecDepth 20000 in
theorem mo_X7_cut : MO mts n_X7_cut yX7_cut cX7_cut 2 (none) 1 := ⟨rfl, w_767, w_53, ⟨by decide, by decide, by decide +kernel⟩, by decide⟩
set_option maxRecDepth 20000 in
theorem mo_X7_isOf : MO mts n_X7_isOf yX7_isOf cX7_isOf 3 (some .boolean) 2 := ⟨rfl, w_759, w_53, ⟨by decide, by decide, by decide +kernel⟩, by decide⟩
set_option maxRecDepth 20000 in
theorem mo_X7_ofRank : MO mts n_X7_ofRank yX7_ofRank cX7_ofRank 6 (some .int) 3 := ⟨rfl, w_755, w_53, ⟨by decide, by decide, by decide +kernel⟩, by decide⟩
set_option maxRecDepth 20000 in
theorem mo_X7_twice : MO mts n_X7_twice yX7_twice cX7_twice 6 (some .int) 1 := ⟨rfl, w_751, w_53, ⟨by decide, by decide, by decide +kernel⟩, by decide⟩
set_option maxRecDepth 20000 in
theorem mo_X7_settle : MO mts n_X7_settle yX7_settle cX7_settle 4 (none) 0 := ⟨rfl, w_747, w_53, ⟨by decide, by decide, by decide +kernel⟩, by decide⟩
set_option maxRecDepth 20000 in
theorem mo_X7_joinAll : MO mts n_X7_joinAll yX7_joinAll cX7_joinAll 3 (none) 0 := ⟨rfl, w_787, w_53, ⟨by decide, by decide, by decide +kernel⟩, by decide⟩
set_option maxRecDepth 20000 in
theorem mo_X7_add : MO mts n_X7_add yX7_add cX7_add 4 (none) 3 := ⟨rfl, w_725, w_53, ⟨by decide, by decide, by decide +kernel⟩, by decide⟩
set_option maxRecDepth 20000 in
theorem mo_X7_lowerTo : MO mts n_X7_lowerTo yX7_lowerTo cX7_lowerTo 3 (none) 2 := ⟨rfl, w_739, w_53, ⟨by decide, by decide, by decide +kernel⟩, by decide⟩
set_option maxRecDepth 20000 in
theorem mo_X7_remove : MO mts n_X7_remove yX7_remove cX7_remove 4 (none) 1 := ⟨rfl, w_783, w_53, ⟨by decide, by decide, by decide +kernel⟩, by decide⟩
set_option maxRecDepth 20000 in
theorem mo_X7_soonest : MO mts n_X7_soonest yX7_soonest cX7_soonest 3 (some .int) 0 := ⟨rfl, w_779, w_53, ⟨by decide, by decide, by decide +kernel⟩, by decide⟩
set_option maxRecDepth 20000 in
theorem mo_X7_standing : MO mts n_X7_standing yX7_standing cX7_standing 3 (some .int) 0 := ⟨rfl, w_795, w_53, ⟨by decide, by decide, by decide +kernel⟩, by decide⟩
set_option maxRecDepth 20000 in
theorem mo_X7_isJob : MO mts n_X7_isJob yX7_isJob cX7_isJob 2 (some .boolean) 1 := ⟨rfl, w_733, w_53, ⟨by decide, by decide, by decide +kernel⟩, by decide⟩
set_option maxRecDepth 20000 in
theorem mo_X7_put : MO mts n_X7_put yX7_put cX7_put 3 (some .int) 2 := ⟨rfl, w_712, w_53, ⟨by decide, by decide, by decide +kernel⟩, by decide⟩
set_option maxRecDepth 20000 in
theorem mo_X7_lower : MO mts n_X7_lower yX7_lower cX7_lower 3 (some .int) 2 := ⟨rfl, w_729, w_53, ⟨by decide, by decide, by decide +kernel⟩, by decide⟩
set_option maxRecDepth 20000 in
theorem mo_X7_take : MO mts n_X7_take yX7_take cX7_take 2 (some .int) 0 := ⟨rfl, w_775, w_53, ⟨by decide, by decide, by decide +kernel⟩, by decide⟩
set_option maxRecDepth 20000 in
theorem mo_X7_drop : MO mts n_X7_drop yX7_drop cX7_drop 2 (some .int) 1 := ⟨rfl, w_791, w_53, ⟨by decide, by decide, by decide +kernel⟩, by decide⟩
set_option maxRecDepth 20000 in
theorem mo_X7_join : MO mts n_X7_join yX7_join cX7_join 2 (some .int) 0 := ⟨rfl, w_799, w_53, ⟨by decide, by decide, by decide +kernel⟩, by decide⟩
set_option maxRecDepth 20000 in
theorem mo_X7_clear : MO mts n_X7_clear yX7_clear cX7_clear 3 (some .int) 0 := ⟨rfl, w_803, w_53, ⟨by decide, by decide, by decide +kernel⟩, by decide⟩
set_option maxRecDepth 20000 in
theorem mo_X7_standingAt : MO mts n_X7_standingAt yX7_standingAt cX7_standingAt 4 (some .int) 1 := ⟨rfl, w_822, w_53, ⟨by decide, by decide, by decide +kernel⟩, by decide⟩
set_option maxRecDepth 20000 in
theorem mo_X7_drawn : MO mts n_X7_drawn yX7_drawn cX7_drawn 2 (some .int) 1 := ⟨rfl, w_816, w_53, ⟨by decide, by decide, by decide +kernel⟩, by decide⟩
set_option maxRecDepth 20000 in
theorem mo_X7_lot : MO mts n_X7_lot yX7_lot cX7_lot 4 (none) 0 := ⟨rfl, w_812, w_53, ⟨by decide, by decide, by decide +kernel⟩, by decide⟩
set_option maxRecDepth 20000 in
theorem mo_X7_drift : MO mts n_X7_drift yX7_drift cX7_drift 4 (some .int) 2 := ⟨rfl, w_807, w_53, ⟨by decide, by decide, by decide +kernel⟩, by decide⟩
set_option maxRecDepth 20000 in
theorem mo_X7_depth : MO mts n_X7_depth yX7_depth cX7_depth 4 (some .int) 1 := ⟨rfl, w_834, w_53, ⟨by decide, by decide, by decide +kernel⟩, by decide⟩
set_option maxRecDepth 20000 in
theorem mo_X7_isUnder : MO mts n_X7_isUnder yX7_isUnder cX7_isUnder 4 (some .boolean) 2 := ⟨rfl, w_846, w_53, ⟨by decide, by decide, by decide +kernel⟩, by decide⟩
set_option maxRecDepth 20000 in
theorem mo_X7_many : MO mts n_X7_many yX7_many cX7_many 6 (some .int) 1 := ⟨rfl, w_830, w_53, ⟨by decide, by decide, by decide +kernel⟩, by decide⟩
set_option maxRecDepth 20000 in
theorem mo_X7_told : MO mts n_X7_told yX7_told cX7_told 2 (some .int) 1 := ⟨rfl, w_826, w_53, ⟨by decide, by decide, by decide +kernel⟩, by decide⟩
set_option maxRecDepth 20000 in
theorem mo_X7_under : MO mts n_X7_under yX7_under cX7_under 4 (some .int) 1 := ⟨rfl, w_842, w_53, ⟨by decide, by decide, by decide +kernel⟩, by decide⟩
set_option maxRecDepth 20000 in
theorem mo_X7_power : MO mts n_X7_power yX7_power cX7_power 2 (some .int) 1 := ⟨rfl, w_852, w_53, ⟨by decide, by decide, by decide +kernel⟩, by decide⟩
set_option maxRecDepth 20000 in
theorem mo_X7_bitsOf : MO mts n_X7_bitsOf yX7_bitsOf cX7_bitsOf 4 (some .int) 1 := ⟨rfl, w_849, w_53, ⟨by decide, by decide, by decide +kernel⟩, by decide⟩
set_option maxRecDepth 20000 in
theorem mo_X7_job : MO mts n_X7_job yX7_job cX7_job 4 (some .int) 2 := ⟨rfl, w_838, w_53, ⟨by decide, by decide, by decide +kernel⟩, by decide⟩
set_option maxRecDepth 20000 in
theorem mo_X7_child : MO mts n_X7_child yX7_child cX7_child 6 (some .int) 2 := ⟨rfl, w_857, w_53, ⟨by decide, by decide, by decide +kernel⟩, by decide⟩
set_option maxRecDepth 20000 in
theorem mo_X7_loose : MO mts n_X7_loose yX7_loose cX7_loose 2 (some .int) 1 := ⟨rfl, w_861, w_53, ⟨by decide, by decide, by decide +kernel⟩, by decide⟩
set_option maxRecDepth 20000 in
theorem mo_X7_bits : MO mts n_X7_bits yX7_bits cX7_bits 6 (some .long) 0 := ⟨rfl, w_865, w_53, ⟨by decide, by decide, by decide +kernel⟩, by decide⟩
set_option maxRecDepth 20000 in
theorem mo_X7_sit : MO mts n_X7_sit yX7_sit cX7_sit 6 (some .int) 3 := ⟨rfl, w_870, w_53, ⟨by decide, by decide, by decide +kernel⟩, by decide⟩
set_option maxRecDepth 20000 in
theorem mo_X7_sits : MO mts n_X7_sits yX7_sits cX7_sits 3 (some .int) 2 := ⟨rfl, w_876, w_53, ⟨by decide, by decide, by decide +kernel⟩, by decide⟩
set_option maxRecDepth 20000 in
theorem mo_X7_net : MO mts n_X7_net yX7_net cX7_net 3 (some .int) 1 := ⟨rfl, w_880, w_53, ⟨by decide, by decide, by decide +kernel⟩, by decide⟩
set_option maxRecDepth 20000 in
theorem mo_X7_isPlace : MO mts n_X7_isPlace yX7_isPlace cX7_isPlace 2 (some .boolean) 1 := ⟨rfl, w_888, w_53, ⟨by decide, by decide, by decide +kernel⟩, by decide⟩
set_option maxRecDepth 20000 in
theorem mo_X7_road : MO mts n_X7_road yX7_road cX7_road 4 (some .int) 3 := ⟨rfl, w_884, w_53, ⟨by decide, by decide, by decide +kernel⟩, by decide⟩
set_option maxRecDepth 20000 in
theorem mo_X7_goFrom : MO mts n_X7_goFrom yX7_goFrom cX7_goFrom 6 (none) 2 := ⟨rfl, w_900, w_53, ⟨by decide, by decide, by decide +kernel⟩, by decide⟩
set_option maxRecDepth 20000 in
theorem mo_X7_lay : MO mts n_X7_lay yX7_lay cX7_lay 8 (none) 2 := ⟨rfl, w_896, w_53, ⟨by decide, by decide, by decide +kernel⟩, by decide⟩
set_option maxRecDepth 20000 in
theorem mo_X7_hanging : MO mts n_X7_hanging yX7_hanging cX7_hanging 4 (some .int) 1 := ⟨rfl, w_904, w_53, ⟨by decide, by decide, by decide +kernel⟩, by decide⟩
set_option maxRecDepth 20000 in
theorem mo_X7_tree : MO mts n_X7_tree yX7_tree cX7_tree 3 (some .int) 2 := ⟨rfl, w_892, w_53, ⟨by decide, by decide, by decide +kernel⟩, by decide⟩
set_option maxRecDepth 20000 in
theorem mo_X7_way : MO mts n_X7_way yX7_way cX7_way 3 (some .int) 2 := ⟨rfl, w_908, w_53, ⟨by decide, by decide, by decide +kernel⟩, by decide⟩
set_option maxRecDepth 20000 in
theorem mo_X7_ways : MO mts n_X7_ways yX7_ways cX7_ways 5 (some .int) 2 := ⟨rfl, w_912, w_53, ⟨by decide, by decide, by decide +kernel⟩, by decide⟩
set_option maxRecDepth 20000 in
theorem mo_X7_keep : MO mts n_X7_keep yX7_keep cX7_keep 5 (some .int) 1 := ⟨rfl, w_916, w_53, ⟨by decide, by decide, by decide +kernel⟩, by decide⟩
set_option maxRecDepth 20000 in
theorem mo_X7_goBack : MO mts n_X7_goBack yX7_goBack cX7_goBack 5 (some .int) 1 := ⟨rfl, w_920, w_53, ⟨by decide, by decide, by decide +kernel⟩, by decide⟩
set_option maxRecDepth 20000 in
theorem mo_J7_fill_53178 : MO mts n_J7_fill_53178 yJ7_fill_53178 cJ7_fill_53178 4 (none) 2 := ⟨rfl, w_127, w_49, ⟨by decide, by decide, by decide +kernel⟩, by decide⟩
