-- WindowsGive.<init>()V (('c', 0),)
set_option maxRecDepth 100000 in
def f_X8_init (N : Nat) (S : wg_Sh) (C : wg_C)  : Option (wg_Sh × wg_C) :=
  ck (0 < S.2.2.2) <|
  ck (S.2.2.2 = 1) <|
  lt_ (wg_nw S 0 0) fun S3 =>
  lt_ (wg_zC C S.2.2.2 (fun _ => 0)) fun C5 =>
  ck (0 < S3.2.2.2 ∧ 1 < S3.2.2.2) <|
  ck (S3.2.2.2 = 2) <|
  bd2 (f_X0_init N S3 C5 ) fun S13 C14 =>
  ck (0 < S13.2.2.2 ∧ S13.2.2.1 0 = 8) <|
  ck (1 < S13.2.2.2) <|
  lt_ (wg_sR S13 0 0 (some 1)) fun S20 =>
  ck (0 < S20.2.2.2) <|
  ck (S20.2.2.2 = 12) <|
  lt_ (wg_nw S20 0 0) fun S25 =>
  lt_ (wg_zC C14 S20.2.2.2 (fun _ => 0)) fun C27 =>
  ck (0 < S25.2.2.2 ∧ 12 < S25.2.2.2) <|
  ck (S25.2.2.2 = 13) <|
  bd2 (f_X0_init_i1 N S25 C27 ) fun S35 C36 =>
  ck (0 < S35.2.2.2 ∧ S35.2.2.1 0 = 8) <|
  ck (12 < S35.2.2.2) <|
  lt_ (wg_sR S35 0 1 (some 12)) fun S42 =>
  ck (0 < S42.2.2.2) <|
  ck (S42.2.2.2 = 23) <|
  lt_ (wg_nw S42 5 0) fun S47 =>
  lt_ (wg_zC C36 S42.2.2.2 (fun _ => 0)) fun C49 =>
  ck (0 < S47.2.2.2 ∧ 23 < S47.2.2.2) <|
  ck (S47.2.2.2 = 24) <|
  bd2 (f_X5_init S47 C49 ) fun S57 C58 =>
  ck (0 < S57.2.2.2 ∧ S57.2.2.1 0 = 8) <|
  ck (23 < S57.2.2.2) <|
  lt_ (wg_sR S57 0 3 (some 23)) fun S64 =>
  ck (0 < S64.2.2.2) <|
  ck (S64.2.2.2 = 28) <|
  lt_ (wg_nw S64 2 0) fun S69 =>
  lt_ (wg_zC C58 S64.2.2.2 (fun _ => 0)) fun C71 =>
  ck (0 < S69.2.2.2 ∧ 28 < S69.2.2.2) <|
  ck (S69.2.2.2 = 29) <|
  bd2 (f_X2_init S69 C71 ) fun S79 C80 =>
  ck (0 < S79.2.2.2 ∧ S79.2.2.1 0 = 8) <|
  ck (28 < S79.2.2.2) <|
  lt_ (wg_sR S79 0 4 (some 28)) fun S86 =>
  ck (0 < S86.2.2.2) <|
  ck (S86.2.2.2 = 31) <|
  lt_ (wg_nw S86 3 0) fun S91 =>
  lt_ (wg_zC C80 S86.2.2.2 (fun _ => 0)) fun C93 =>
  ck (0 < S91.2.2.2 ∧ 31 < S91.2.2.2) <|
  ck (S91.2.2.2 = 32) <|
  bd2 (f_X3_init S91 C93 ) fun S101 C102 =>
  ck (0 < S101.2.2.2 ∧ S101.2.2.1 0 = 8) <|
  ck (31 < S101.2.2.2) <|
  lt_ (wg_sR S101 0 5 (some 31)) fun S108 =>
  ck (0 < S108.2.2.2) <|
  ck (S108.2.2.2 = 35) <|
  lt_ (wg_nw S108 7 0) fun S113 =>
  lt_ (wg_zC C102 S108.2.2.2 (fun _ => 0)) fun C115 =>
  ck (0 < S113.2.2.2 ∧ 35 < S113.2.2.2) <|
  ck (S113.2.2.2 = 36) <|
  bd2 (f_X7_init S113 C115 ) fun S123 C124 =>
  ck (0 < S123.2.2.2 ∧ S123.2.2.1 0 = 8) <|
  ck (35 < S123.2.2.2) <|
  lt_ (wg_sR S123 0 6 (some 35)) fun S130 =>
  ck (0 < S130.2.2.2) <|
  ck (S130.2.2.2 = 39) <|
  lt_ (wg_nw S130 14 4) fun S135 =>
  ck (0 < S135.2.2.2 ∧ S135.2.2.1 0 = 8) <|
  ck (39 < S135.2.2.2) <|
  lt_ (wg_sR S135 0 7 (some 39)) fun S142 =>
  ck (0 < S142.2.2.2) <|
  ck (S142.2.2.2 = 40) <|
  lt_ (wg_nw S142 1 0) fun S147 =>
  lt_ (wg_zC C124 S142.2.2.2 (fun _ => 0)) fun C149 =>
  ck (0 < S147.2.2.2 ∧ 40 < S147.2.2.2) <|
  bd2 (f_X1_init S147 C149 40 (0 : Int32)) fun S156 C157 =>
  ck (0 < S156.2.2.2 ∧ S156.2.2.1 0 = 8) <|
  ck (40 < S156.2.2.2) <|
  lt_ (wg_sR S156 0 8 (some 40)) fun S163 =>
  ck (0 < S163.2.2.2) <|
  ck (S163.2.2.2 = 41) <|
  lt_ (wg_nw S163 10 32) fun S168 =>
  lt_ (wg_zC C157 S163.2.2.2 (fun _ => 0)) fun C170 =>
  ck (0 < S168.2.2.2 ∧ S168.2.2.1 0 = 8) <|
  ck (41 < S168.2.2.2) <|
  lt_ (wg_sR S168 0 9 (some 41)) fun S177 =>
  ck (0 < S177.2.2.2) <|
  ck (S177.2.2.2 = 42) <|
  lt_ (wg_nw S177 10 32) fun S182 =>
  lt_ (wg_zC C170 S177.2.2.2 (fun _ => 0)) fun C184 =>
  ck (0 < S182.2.2.2 ∧ S182.2.2.1 0 = 8) <|
  ck (42 < S182.2.2.2) <|
  lt_ (wg_sR S182 0 10 (some 42)) fun S191 =>
  ck (0 < S191.2.2.2) <|
  ck (S191.2.2.2 = 43) <|
  lt_ (wg_nw S191 10 8) fun S196 =>
  lt_ (wg_zC C184 S191.2.2.2 (fun _ => 0)) fun C198 =>
  ck (0 < S196.2.2.2 ∧ S196.2.2.1 0 = 8) <|
  ck (43 < S196.2.2.2) <|
  lt_ (wg_sR S196 0 11 (some 43)) fun S205 =>
  ck (0 < S205.2.2.2 ∧ S205.2.2.1 0 = 8) <|
  ck (S205.1 0 7 = some 39) <|
  ck (0 < S205.2.2.2 ∧ 39 < S205.2.2.2) <|
  ck (S205.2.2.2 = 44) <|
  lt_ (wg_nw S205 4 0) fun S213 =>
  lt_ (wg_zC C198 S205.2.2.2 (fun _ => 0)) fun C215 =>
  ck (0 < S213.2.2.2 ∧ 44 < S213.2.2.2 ∧ 39 < S213.2.2.2) <|
  ck (S213.2.2.2 = 45) <|
  bd2 (f_X4_init_i0 S213 C215 ) fun S223 C224 =>
  ck (39 < S223.2.2.2 ∧ S223.2.2.1 39 = 14) <|
  ck (S223.2.1 39 = 4) <|
  ck (44 < S223.2.2.2 ∧ S223.2.2.1 44 = 4) <|
  ck (inb (0 : Int32) 4) <|
  lt_ (wg_sR S223 39 (0 : Int32).toNatClampNeg (some 44)) fun S232 =>
  ck (0 < S232.2.2.2 ∧ S232.2.2.1 0 = 8) <|
  ck (S232.1 0 7 = some 39) <|
  ck (0 < S232.2.2.2 ∧ 39 < S232.2.2.2) <|
  ck (S232.2.2.2 = 46) <|
  lt_ (wg_nw S232 4 0) fun S240 =>
  lt_ (wg_zC C224 S232.2.2.2 (fun _ => 0)) fun C242 =>
  ck (0 < S240.2.2.2 ∧ 46 < S240.2.2.2 ∧ 39 < S240.2.2.2) <|
  ck (S240.2.2.2 = 47) <|
  bd2 (f_X4_init_i1 S240 C242 ) fun S250 C251 =>
  ck (39 < S250.2.2.2 ∧ S250.2.2.1 39 = 14) <|
  ck (S250.2.1 39 = 4) <|
  ck (46 < S250.2.2.2 ∧ S250.2.2.1 46 = 4) <|
  ck (inb (1 : Int32) 4) <|
  lt_ (wg_sR S250 39 (1 : Int32).toNatClampNeg (some 46)) fun S259 =>
  ck (0 < S259.2.2.2 ∧ S259.2.2.1 0 = 8) <|
  ck (S259.1 0 7 = some 39) <|
  ck (0 < S259.2.2.2 ∧ 39 < S259.2.2.2) <|
  ck (S259.2.2.2 = 48) <|
  lt_ (wg_nw S259 4 0) fun S267 =>
  lt_ (wg_zC C251 S259.2.2.2 (fun _ => 0)) fun C269 =>
  ck (0 < S267.2.2.2 ∧ 48 < S267.2.2.2 ∧ 39 < S267.2.2.2) <|
  ck (S267.2.2.2 = 49) <|
  bd2 (f_X4_init_i2 S267 C269 ) fun S277 C278 =>
  ck (39 < S277.2.2.2 ∧ S277.2.2.1 39 = 14) <|
  ck (S277.2.1 39 = 4) <|
  ck (48 < S277.2.2.2 ∧ S277.2.2.1 48 = 4) <|
  ck (inb (2 : Int32) 4) <|
  lt_ (wg_sR S277 39 (2 : Int32).toNatClampNeg (some 48)) fun S286 =>
  ck (0 < S286.2.2.2 ∧ S286.2.2.1 0 = 8) <|
  ck (S286.1 0 7 = some 39) <|
  ck (0 < S286.2.2.2 ∧ 39 < S286.2.2.2) <|
  ck (S286.2.2.2 = 50) <|
  lt_ (wg_nw S286 4 0) fun S294 =>
  lt_ (wg_zC C278 S286.2.2.2 (fun _ => 0)) fun C296 =>
  ck (0 < S294.2.2.2 ∧ 50 < S294.2.2.2 ∧ 39 < S294.2.2.2) <|
  ck (S294.2.2.2 = 51) <|
  bd2 (f_X4_init_i3 S294 C296 ) fun S304 C305 =>
  ck (39 < S304.2.2.2 ∧ S304.2.2.1 39 = 14) <|
  ck (S304.2.1 39 = 4) <|
  ck (50 < S304.2.2.2 ∧ S304.2.2.1 50 = 4) <|
  ck (inb (3 : Int32) 4) <|
  lt_ (wg_sR S304 39 (3 : Int32).toNatClampNeg (some 50)) fun S313 =>
  bd (f_J0_length_8abf5 0) fun r318 =>
  ck (r318 = (53 : Int32)) <|
  ck (0 < S313.2.2.2 ∧ S313.2.2.1 0 = 8) <|
  ck (S313.1 0 3 = some 23) <|
  bd (f_J0_charAt_5068e 0 (0 : Int32)) fun r324 =>
  ck (wg_SCb S313 = true) <|
  bd2 (f_X5_put C305 r324) fun r327 C328 =>
  ck (23 < S313.2.2.2 ∧ S313.2.2.1 23 = 5) <|
  bd (f_J0_length_8abf5 0) fun r331 =>
  ck (r331 = (53 : Int32)) <|
  bd (f_J0_charAt_5068e 0 (1 : Int32)) fun r335 =>
  bd2 (f_X5_put C328 r335) fun r337 C338 =>
  bd (f_J0_length_8abf5 0) fun r340 =>
  ck (r340 = (53 : Int32)) <|
  bd (f_J0_charAt_5068e 0 (2 : Int32)) fun r344 =>
  bd2 (f_X5_put C338 r344) fun r346 C347 =>
  bd (f_J0_length_8abf5 0) fun r349 =>
  ck (r349 = (53 : Int32)) <|
  bd (f_J0_charAt_5068e 0 (3 : Int32)) fun r353 =>
  bd2 (f_X5_put C347 r353) fun r355 C356 =>
  bd (f_J0_length_8abf5 0) fun r358 =>
  ck (r358 = (53 : Int32)) <|
  bd (f_J0_charAt_5068e 0 (4 : Int32)) fun r362 =>
  bd2 (f_X5_put C356 r362) fun r364 C365 =>
  bd (f_J0_length_8abf5 0) fun r367 =>
  ck (r367 = (53 : Int32)) <|
  bd (f_J0_charAt_5068e 0 (5 : Int32)) fun r371 =>
  bd2 (f_X5_put C365 r371) fun r373 C374 =>
  bd (f_J0_length_8abf5 0) fun r376 =>
  ck (r376 = (53 : Int32)) <|
  bd (f_J0_charAt_5068e 0 (6 : Int32)) fun r380 =>
  bd2 (f_X5_put C374 r380) fun r382 C383 =>
  bd (f_J0_length_8abf5 0) fun r385 =>
  ck (r385 = (53 : Int32)) <|
  bd (f_J0_charAt_5068e 0 (7 : Int32)) fun r389 =>
  bd2 (f_X5_put C383 r389) fun r391 C392 =>
  bd (f_J0_length_8abf5 0) fun r394 =>
  ck (r394 = (53 : Int32)) <|
  bd (f_J0_charAt_5068e 0 (8 : Int32)) fun r398 =>
  bd2 (f_X5_put C392 r398) fun r400 C401 =>
  bd (f_J0_length_8abf5 0) fun r403 =>
  ck (r403 = (53 : Int32)) <|
  bd (f_J0_charAt_5068e 0 (9 : Int32)) fun r407 =>
  bd2 (f_X5_put C401 r407) fun r409 C410 =>
  bd (f_J0_length_8abf5 0) fun r412 =>
  ck (r412 = (53 : Int32)) <|
  bd (f_J0_charAt_5068e 0 (10 : Int32)) fun r416 =>
  bd2 (f_X5_put C410 r416) fun r418 C419 =>
  bd (f_J0_length_8abf5 0) fun r421 =>
  ck (r421 = (53 : Int32)) <|
  bd (f_J0_charAt_5068e 0 (11 : Int32)) fun r425 =>
  bd2 (f_X5_put C419 r425) fun r427 C428 =>
  bd (f_J0_length_8abf5 0) fun r430 =>
  ck (r430 = (53 : Int32)) <|
  bd (f_J0_charAt_5068e 0 (12 : Int32)) fun r434 =>
  bd2 (f_X5_put C428 r434) fun r436 C437 =>
  bd (f_J0_length_8abf5 0) fun r439 =>
  ck (r439 = (53 : Int32)) <|
  bd (f_J0_charAt_5068e 0 (13 : Int32)) fun r443 =>
  bd2 (f_X5_put C437 r443) fun r445 C446 =>
  bd (f_J0_length_8abf5 0) fun r448 =>
  ck (r448 = (53 : Int32)) <|
  bd (f_J0_charAt_5068e 0 (14 : Int32)) fun r452 =>
  bd2 (f_X5_put C446 r452) fun r454 C455 =>
  bd (f_J0_length_8abf5 0) fun r457 =>
  ck (r457 = (53 : Int32)) <|
  bd (f_J0_charAt_5068e 0 (15 : Int32)) fun r461 =>
  bd2 (f_X5_put C455 r461) fun r463 C464 =>
  bd (f_J0_length_8abf5 0) fun r466 =>
  ck (r466 = (53 : Int32)) <|
  bd (f_J0_charAt_5068e 0 (16 : Int32)) fun r470 =>
  bd2 (f_X5_put C464 r470) fun r472 C473 =>
  bd (f_J0_length_8abf5 0) fun r475 =>
  ck (r475 = (53 : Int32)) <|
  bd (f_J0_charAt_5068e 0 (17 : Int32)) fun r479 =>
  bd2 (f_X5_put C473 r479) fun r481 C482 =>
  bd (f_J0_length_8abf5 0) fun r484 =>
  ck (r484 = (53 : Int32)) <|
  bd (f_J0_charAt_5068e 0 (18 : Int32)) fun r488 =>
  bd2 (f_X5_put C482 r488) fun r490 C491 =>
  bd (f_J0_length_8abf5 0) fun r493 =>
  ck (r493 = (53 : Int32)) <|
  bd (f_J0_charAt_5068e 0 (19 : Int32)) fun r497 =>
  bd2 (f_X5_put C491 r497) fun r499 C500 =>
  bd (f_J0_length_8abf5 0) fun r502 =>
  ck (r502 = (53 : Int32)) <|
  bd (f_J0_charAt_5068e 0 (20 : Int32)) fun r506 =>
  bd2 (f_X5_put C500 r506) fun r508 C509 =>
  bd (f_J0_length_8abf5 0) fun r511 =>
  ck (r511 = (53 : Int32)) <|
  bd (f_J0_charAt_5068e 0 (21 : Int32)) fun r515 =>
  bd2 (f_X5_put C509 r515) fun r517 C518 =>
  bd (f_J0_length_8abf5 0) fun r520 =>
  ck (r520 = (53 : Int32)) <|
  bd (f_J0_charAt_5068e 0 (22 : Int32)) fun r524 =>
  bd2 (f_X5_put C518 r524) fun r526 C527 =>
  bd (f_J0_length_8abf5 0) fun r529 =>
  ck (r529 = (53 : Int32)) <|
  bd (f_J0_charAt_5068e 0 (23 : Int32)) fun r533 =>
  bd2 (f_X5_put C527 r533) fun r535 C536 =>
  bd (f_J0_length_8abf5 0) fun r538 =>
  ck (r538 = (53 : Int32)) <|
  bd (f_J0_charAt_5068e 0 (24 : Int32)) fun r542 =>
  bd2 (f_X5_put C536 r542) fun r544 C545 =>
  bd (f_J0_length_8abf5 0) fun r547 =>
  ck (r547 = (53 : Int32)) <|
  bd (f_J0_charAt_5068e 0 (25 : Int32)) fun r551 =>
  bd2 (f_X5_put C545 r551) fun r553 C554 =>
  bd (f_J0_length_8abf5 0) fun r556 =>
  ck (r556 = (53 : Int32)) <|
  bd (f_J0_charAt_5068e 0 (26 : Int32)) fun r560 =>
  bd2 (f_X5_put C554 r560) fun r562 C563 =>
  bd (f_J0_length_8abf5 0) fun r565 =>
  ck (r565 = (53 : Int32)) <|
  bd (f_J0_charAt_5068e 0 (27 : Int32)) fun r569 =>
  bd2 (f_X5_put C563 r569) fun r571 C572 =>
  bd (f_J0_length_8abf5 0) fun r574 =>
  ck (r574 = (53 : Int32)) <|
  bd (f_J0_charAt_5068e 0 (28 : Int32)) fun r578 =>
  bd2 (f_X5_put C572 r578) fun r580 C581 =>
  bd (f_J0_length_8abf5 0) fun r583 =>
  ck (r583 = (53 : Int32)) <|
  bd (f_J0_charAt_5068e 0 (29 : Int32)) fun r587 =>
  bd2 (f_X5_put C581 r587) fun r589 C590 =>
  bd (f_J0_length_8abf5 0) fun r592 =>
  ck (r592 = (53 : Int32)) <|
  bd (f_J0_charAt_5068e 0 (30 : Int32)) fun r596 =>
  bd2 (f_X5_put C590 r596) fun r598 C599 =>
  bd (f_J0_length_8abf5 0) fun r601 =>
  ck (r601 = (53 : Int32)) <|
  bd (f_J0_charAt_5068e 0 (31 : Int32)) fun r605 =>
  bd2 (f_X5_put C599 r605) fun r607 C608 =>
  bd (f_J0_length_8abf5 0) fun r610 =>
  ck (r610 = (53 : Int32)) <|
  bd (f_J0_charAt_5068e 0 (32 : Int32)) fun r614 =>
  bd2 (f_X5_put C608 r614) fun r616 C617 =>
  bd (f_J0_length_8abf5 0) fun r619 =>
  ck (r619 = (53 : Int32)) <|
  bd (f_J0_charAt_5068e 0 (33 : Int32)) fun r623 =>
  bd2 (f_X5_put C617 r623) fun r625 C626 =>
  bd (f_J0_length_8abf5 0) fun r628 =>
  ck (r628 = (53 : Int32)) <|
  bd (f_J0_charAt_5068e 0 (34 : Int32)) fun r632 =>
  bd2 (f_X5_put C626 r632) fun r634 C635 =>
  bd (f_J0_length_8abf5 0) fun r637 =>
  ck (r637 = (53 : Int32)) <|
  bd (f_J0_charAt_5068e 0 (35 : Int32)) fun r641 =>
  bd2 (f_X5_put C635 r641) fun r643 C644 =>
  bd (f_J0_length_8abf5 0) fun r646 =>
  ck (r646 = (53 : Int32)) <|
  bd (f_J0_charAt_5068e 0 (36 : Int32)) fun r650 =>
  bd2 (f_X5_put C644 r650) fun r652 C653 =>
  bd (f_J0_length_8abf5 0) fun r655 =>
  ck (r655 = (53 : Int32)) <|
  bd (f_J0_charAt_5068e 0 (37 : Int32)) fun r659 =>
  bd2 (f_X5_put C653 r659) fun r661 C662 =>
  bd (f_J0_length_8abf5 0) fun r664 =>
  ck (r664 = (53 : Int32)) <|
  bd (f_J0_charAt_5068e 0 (38 : Int32)) fun r668 =>
  bd2 (f_X5_put C662 r668) fun r670 C671 =>
  bd (f_J0_length_8abf5 0) fun r673 =>
  ck (r673 = (53 : Int32)) <|
  bd (f_J0_charAt_5068e 0 (39 : Int32)) fun r677 =>
  bd2 (f_X5_put C671 r677) fun r679 C680 =>
  bd (f_J0_length_8abf5 0) fun r682 =>
  ck (r682 = (53 : Int32)) <|
  bd (f_J0_charAt_5068e 0 (40 : Int32)) fun r686 =>
  bd2 (f_X5_put C680 r686) fun r688 C689 =>
  bd (f_J0_length_8abf5 0) fun r691 =>
  ck (r691 = (53 : Int32)) <|
  bd (f_J0_charAt_5068e 0 (41 : Int32)) fun r695 =>
  bd2 (f_X5_put C689 r695) fun r697 C698 =>
  bd (f_J0_length_8abf5 0) fun r700 =>
  ck (r700 = (53 : Int32)) <|
  bd (f_J0_charAt_5068e 0 (42 : Int32)) fun r704 =>
  bd2 (f_X5_put C698 r704) fun r706 C707 =>
  bd (f_J0_length_8abf5 0) fun r709 =>
  ck (r709 = (53 : Int32)) <|
  bd (f_J0_charAt_5068e 0 (43 : Int32)) fun r713 =>
  bd2 (f_X5_put C707 r713) fun r715 C716 =>
  bd (f_J0_length_8abf5 0) fun r718 =>
  ck (r718 = (53 : Int32)) <|
  bd (f_J0_charAt_5068e 0 (44 : Int32)) fun r722 =>
  bd2 (f_X5_put C716 r722) fun r724 C725 =>
  bd (f_J0_length_8abf5 0) fun r727 =>
  ck (r727 = (53 : Int32)) <|
  bd (f_J0_charAt_5068e 0 (45 : Int32)) fun r731 =>
  bd2 (f_X5_put C725 r731) fun r733 C734 =>
  bd (f_J0_length_8abf5 0) fun r736 =>
  ck (r736 = (53 : Int32)) <|
  bd (f_J0_charAt_5068e 0 (46 : Int32)) fun r740 =>
  bd2 (f_X5_put C734 r740) fun r742 C743 =>
  bd (f_J0_length_8abf5 0) fun r745 =>
  ck (r745 = (53 : Int32)) <|
  bd (f_J0_charAt_5068e 0 (47 : Int32)) fun r749 =>
  bd2 (f_X5_put C743 r749) fun r751 C752 =>
  bd (f_J0_length_8abf5 0) fun r754 =>
  ck (r754 = (53 : Int32)) <|
  bd (f_J0_charAt_5068e 0 (48 : Int32)) fun r758 =>
  bd2 (f_X5_put C752 r758) fun r760 C761 =>
  bd (f_J0_length_8abf5 0) fun r763 =>
  ck (r763 = (53 : Int32)) <|
  bd (f_J0_charAt_5068e 0 (49 : Int32)) fun r767 =>
  bd2 (f_X5_put C761 r767) fun r769 C770 =>
  bd (f_J0_length_8abf5 0) fun r772 =>
  ck (r772 = (53 : Int32)) <|
  bd (f_J0_charAt_5068e 0 (50 : Int32)) fun r776 =>
  bd2 (f_X5_put C770 r776) fun r778 C779 =>
  bd (f_J0_length_8abf5 0) fun r781 =>
  ck (r781 = (53 : Int32)) <|
  bd (f_J0_charAt_5068e 0 (51 : Int32)) fun r785 =>
  bd2 (f_X5_put C779 r785) fun r787 C788 =>
  bd (f_J0_length_8abf5 0) fun r790 =>
  ck (r790 = (53 : Int32)) <|
  bd (f_J0_charAt_5068e 0 (52 : Int32)) fun r794 =>
  bd2 (f_X5_put C788 r794) fun r796 C797 =>
  bd (f_J0_length_8abf5 0) fun r799 =>
  ck (r799 = (53 : Int32)) <|
  ck (S313.1 0 5 = some 31) <|
  ck (S313.1 0 4 = some 28) <|
  ck (0 < S313.2.2.2 ∧ 31 < S313.2.2.2) <|
  ck (28 < S313.2.2.2 ∧ S313.2.2.1 28 = 2) <|
  bd3 (f_X2_read N S313 C797 ) fun r809 S807 C808 =>
  bd r809 fun t813 =>
  ck (0 < S807.2.2.2) <|
  ck (31 < S807.2.2.2 ∧ S807.2.2.1 31 = 3) <|
  bd3 (f_X3_add S807 C808 t813) fun r820 S818 C819 =>
  ck (0 < S818.2.2.2 ∧ S818.2.2.1 0 = 8) <|
  ck (S818.1 0 3 = some 23) <|
  ck (wg_SCb S818 = true) <|
  bd (f_X5_empty C819 ) fun C828 =>
  ck (23 < S818.2.2.2 ∧ S818.2.2.1 23 = 5) <|
  some (S818, C828)
set_option maxHeartbeats 4000000 in
set_option maxRecDepth 100000 in
theorem c_X8_init (l : Launch) (E : wg_Ev) (ad : Nat → Nat) (S : wg_Sh) (hw : wg_wf S) (N : Nat) (C : wg_C) (M : wg_M)  {S0 : wg_Sh} {D0 : wg_C} (h : f_X8_init N S C  = some (S0, D0)) : wg_Ca l yX8_init cX8_init 2 none 75 2927 54 2500 E ad S C M [.ref (ad 0)] (fun _ => none) S0 D0 M := by
  refine wg_start (own := RX8) (by decide +kernel) rfl (Nat.le_of_ble_eq_true rfl) ?_
  intro p e s m below meth c X hr hnm
  refine wg_lv (lv' := [(0, .ref (ad 0))]) rfl ?_
  have hx : wg_ex S ad S ad := wg_ex_rf hw
  unfold f_X8_init at h
  refine wg_aload_n X 0 dX8_init_0 rfl rfl ?_
  refine wg_objI X k_93 k_94 k_95 dX8_init_1 ⟨Nat.le_of_ble_eq_true rfl, Nat.le_of_ble_eq_true rfl⟩ ?_
  refine wg_aload_n X 0 dX8_init_4 rfl rfl ?_
  obtain ⟨z1, h⟩ := ck_some h
  obtain ⟨z2, h⟩ := ck_some h
  obtain ⟨S3, e4, h⟩ := lt_some h
  obtain ⟨C5, e6, h⟩ := lt_some h
  refine wg_newC X cl0 (by decide) (by decide) df0 hx k_96 k_97 k_71 (Nat.le_of_ble_eq_true rfl) (Nat.le_of_ble_eq_true rfl) dX8_init_5 e4 e6 (fun ad7 hx8 ha9 => ?_)
  refine wg_cs (k := 1) (n := 4) rfl rfl ?_
  rw [z2]
  refine wg_ren (lv' := [(0, .ref (ad7 0))]) (st' := [.ref (ad7 1), .ref (ad7 0)]) (by first | rfl | simp only [ha9 0 z1]) (by first | rfl | simp only [Option.toList, List.nil_append, List.cons_append, ha9 0 z1]) ?_
  refine wg_dup X dX8_init_8 rfl ?_
  obtain ⟨z10, h⟩ := ck_some h
  obtain ⟨z11, h⟩ := ck_some h
  obtain ⟨S13, C14, h12, h⟩ := bd2_some h
  refine wg_callIa (As := []) (rest := [.ref (ad7 1), .ref (ad7 0)]) X (c_X0_init l E ad7 S3 hx8.1 N C5 M  h12) T_yX0_init k_98 dX8_init_9 rfl rfl (Nat.le_of_ble_eq_true rfl) ⟨Nat.le_of_ble_eq_true rfl, Nat.le_of_ble_eq_true rfl⟩ ⟨Nat.le_of_ble_eq_true rfl, (Nat.le_of_ble_eq_true rfl)⟩ hx8 (fun ad15 hx16 ha17 => ?_)
  refine wg_cs (k := 11) (n := 92) rfl rfl ?_
  refine wg_ren (lv' := [(0, .ref (ad15 0))]) (st' := [.ref (ad15 1), .ref (ad15 0)]) (by first | rfl | simp only [ha17 0 z10.1, ha17 1 z10.2]) (by first | rfl | simp only [Option.toList, List.nil_append, List.cons_append, ha17 0 z10.1, ha17 1 z10.2]) ?_
  obtain ⟨z18, h⟩ := ck_some h
  obtain ⟨z19, h⟩ := ck_some h
  obtain ⟨S20, e21, h⟩ := lt_some h
  refine wg_putRF X hx16 z19 cl8 z18 0 (by decide) dX8_init_12 k_472 rfl hnm rfl rfl (fun _ => rfl) (fun _ => rfl) e21 (fun hx22 => ?_)
  refine wg_aload_n X 0 dX8_init_15 rfl rfl ?_
  obtain ⟨z23, h⟩ := ck_some h
  obtain ⟨z24, h⟩ := ck_some h
  obtain ⟨S25, e26, h⟩ := lt_some h
  obtain ⟨C27, e28, h⟩ := lt_some h
  refine wg_newC X cl0 (by decide) (by decide) df0 hx22 k_96 k_97 k_71 (Nat.le_of_ble_eq_true rfl) (Nat.le_of_ble_eq_true rfl) dX8_init_16 e26 e28 (fun ad29 hx30 ha31 => ?_)
  refine wg_cs (k := 12) (n := 96) rfl rfl ?_
  rw [z24]
  refine wg_ren (lv' := [(0, .ref (ad29 0))]) (st' := [.ref (ad29 12), .ref (ad29 0)]) (by first | rfl | simp only [ha31 0 z23]) (by first | rfl | simp only [Option.toList, List.nil_append, List.cons_append, ha31 0 z23]) ?_
  refine wg_dup X dX8_init_19 rfl ?_
  obtain ⟨z32, h⟩ := ck_some h
  obtain ⟨z33, h⟩ := ck_some h
  obtain ⟨S35, C36, h34, h⟩ := bd2_some h
  refine wg_callIa (As := []) (rest := [.ref (ad29 12), .ref (ad29 0)]) X (c_X0_init_i1 l E ad29 S25 hx30.1 N C27 M  h34) T_yX0_init k_98 dX8_init_20 rfl rfl (Nat.le_of_ble_eq_true rfl) ⟨Nat.le_of_ble_eq_true rfl, Nat.le_of_ble_eq_true rfl⟩ ⟨Nat.le_of_ble_eq_true rfl, (Nat.le_of_ble_eq_true rfl)⟩ hx30 (fun ad37 hx38 ha39 => ?_)
  refine wg_cs (k := 22) (n := 184) rfl rfl ?_
  refine wg_ren (lv' := [(0, .ref (ad37 0))]) (st' := [.ref (ad37 12), .ref (ad37 0)]) (by first | rfl | simp only [ha39 0 z32.1, ha39 12 z32.2]) (by first | rfl | simp only [Option.toList, List.nil_append, List.cons_append, ha39 0 z32.1, ha39 12 z32.2]) ?_
  obtain ⟨z40, h⟩ := ck_some h
  obtain ⟨z41, h⟩ := ck_some h
  obtain ⟨S42, e43, h⟩ := lt_some h
  refine wg_putRF X hx38 z41 cl8 z40 1 (by decide) dX8_init_23 k_473 rfl hnm rfl rfl (fun _ => rfl) (fun _ => rfl) e43 (fun hx44 => ?_)
  refine wg_aload_n X 0 dX8_init_26 rfl rfl ?_
  obtain ⟨z45, h⟩ := ck_some h
  obtain ⟨z46, h⟩ := ck_some h
  obtain ⟨S47, e48, h⟩ := lt_some h
  obtain ⟨C49, e50, h⟩ := lt_some h
  refine wg_newC X cl5 (by decide) (by decide) df5 hx44 k_161 k_162 k_73 (Nat.le_of_ble_eq_true rfl) (Nat.le_of_ble_eq_true rfl) dX8_init_27 e48 e50 (fun ad51 hx52 ha53 => ?_)
  refine wg_cs (k := 23) (n := 191) rfl rfl ?_
  rw [z46]
  refine wg_ren (lv' := [(0, .ref (ad51 0))]) (st' := [.ref (ad51 23), .ref (ad51 0)]) (by first | rfl | simp only [ha53 0 z45]) (by first | rfl | simp only [Option.toList, List.nil_append, List.cons_append, ha53 0 z45]) ?_
  refine wg_dup X dX8_init_30 rfl ?_
  obtain ⟨z54, h⟩ := ck_some h
  obtain ⟨z55, h⟩ := ck_some h
  obtain ⟨S57, C58, h56, h⟩ := bd2_some h
  refine wg_callINa (host := "WindowsGive") (As := []) (rest := [.ref (ad51 23), .ref (ad51 0)]) X (c_X5_init l E ad51 S47 hx52.1 C49 M  h56) T_yX5_init (by simp [wg_nest]) dX8_init_31 rfl rfl (Nat.le_of_ble_eq_true rfl) ⟨Nat.le_of_ble_eq_true rfl, Nat.le_of_ble_eq_true rfl⟩ ⟨Nat.le_of_ble_eq_true rfl, (Nat.le_of_ble_eq_true rfl)⟩ hx52 (fun ad59 hx60 ha61 => ?_)
  refine wg_cs (k := 27) (n := 834) rfl rfl ?_
  refine wg_ren (lv' := [(0, .ref (ad59 0))]) (st' := [.ref (ad59 23), .ref (ad59 0)]) (by first | rfl | simp only [ha61 0 z54.1, ha61 23 z54.2]) (by first | rfl | simp only [Option.toList, List.nil_append, List.cons_append, ha61 0 z54.1, ha61 23 z54.2]) ?_
  obtain ⟨z62, h⟩ := ck_some h
  obtain ⟨z63, h⟩ := ck_some h
  obtain ⟨S64, e65, h⟩ := lt_some h
  refine wg_putRF X hx60 z63 cl8 z62 3 (by decide) dX8_init_34 k_475 rfl hnm rfl rfl (fun _ => rfl) (fun _ => rfl) e65 (fun hx66 => ?_)
  refine wg_aload_n X 0 dX8_init_37 rfl rfl ?_
  obtain ⟨z67, h⟩ := ck_some h
  obtain ⟨z68, h⟩ := ck_some h
  obtain ⟨S69, e70, h⟩ := lt_some h
  obtain ⟨C71, e72, h⟩ := lt_some h
  refine wg_newC X cl2 (by decide) (by decide) df2 hx66 k_194 k_195 k_74 (Nat.le_of_ble_eq_true rfl) (Nat.le_of_ble_eq_true rfl) dX8_init_38 e70 e72 (fun ad73 hx74 ha75 => ?_)
  refine wg_cs (k := 28) (n := 840) rfl rfl ?_
  rw [z68]
  refine wg_ren (lv' := [(0, .ref (ad73 0))]) (st' := [.ref (ad73 28), .ref (ad73 0)]) (by first | rfl | simp only [ha75 0 z67]) (by first | rfl | simp only [Option.toList, List.nil_append, List.cons_append, ha75 0 z67]) ?_
  refine wg_dup X dX8_init_41 rfl ?_
  obtain ⟨z76, h⟩ := ck_some h
  obtain ⟨z77, h⟩ := ck_some h
  obtain ⟨S79, C80, h78, h⟩ := bd2_some h
  refine wg_callINa (host := "WindowsGive") (As := []) (rest := [.ref (ad73 28), .ref (ad73 0)]) X (c_X2_init l E ad73 S69 hx74.1 C71 M  h78) T_yX2_init (by simp [wg_nest]) dX8_init_42 rfl rfl (Nat.le_of_ble_eq_true rfl) ⟨Nat.le_of_ble_eq_true rfl, Nat.le_of_ble_eq_true rfl⟩ ⟨Nat.le_of_ble_eq_true rfl, (Nat.le_of_ble_eq_true rfl)⟩ hx74 (fun ad81 hx82 ha83 => ?_)
  refine wg_cs (k := 30) (n := 1003) rfl rfl ?_
  refine wg_ren (lv' := [(0, .ref (ad81 0))]) (st' := [.ref (ad81 28), .ref (ad81 0)]) (by first | rfl | simp only [ha83 0 z76.1, ha83 28 z76.2]) (by first | rfl | simp only [Option.toList, List.nil_append, List.cons_append, ha83 0 z76.1, ha83 28 z76.2]) ?_
  obtain ⟨z84, h⟩ := ck_some h
  obtain ⟨z85, h⟩ := ck_some h
  obtain ⟨S86, e87, h⟩ := lt_some h
  refine wg_putRF X hx82 z85 cl8 z84 4 (by decide) dX8_init_45 k_476 rfl hnm rfl rfl (fun _ => rfl) (fun _ => rfl) e87 (fun hx88 => ?_)
  refine wg_aload_n X 0 dX8_init_48 rfl rfl ?_
  obtain ⟨z89, h⟩ := ck_some h
  obtain ⟨z90, h⟩ := ck_some h
  obtain ⟨S91, e92, h⟩ := lt_some h
  obtain ⟨C93, e94, h⟩ := lt_some h
  refine wg_newC X cl3 (by decide) (by decide) df3 hx88 k_220 k_221 k_75 (Nat.le_of_ble_eq_true rfl) (Nat.le_of_ble_eq_true rfl) dX8_init_49 e92 e94 (fun ad95 hx96 ha97 => ?_)
  refine wg_cs (k := 31) (n := 1007) rfl rfl ?_
  rw [z90]
  refine wg_ren (lv' := [(0, .ref (ad95 0))]) (st' := [.ref (ad95 31), .ref (ad95 0)]) (by first | rfl | simp only [ha97 0 z89]) (by first | rfl | simp only [Option.toList, List.nil_append, List.cons_append, ha97 0 z89]) ?_
  refine wg_dup X dX8_init_52 rfl ?_
  obtain ⟨z98, h⟩ := ck_some h
  obtain ⟨z99, h⟩ := ck_some h
  obtain ⟨S101, C102, h100, h⟩ := bd2_some h
  refine wg_callINa (host := "WindowsGive") (As := []) (rest := [.ref (ad95 31), .ref (ad95 0)]) X (c_X3_init l E ad95 S91 hx96.1 C93 M  h100) T_yX3_init (by simp [wg_nest]) dX8_init_53 rfl rfl (Nat.le_of_ble_eq_true rfl) ⟨Nat.le_of_ble_eq_true rfl, Nat.le_of_ble_eq_true rfl⟩ ⟨Nat.le_of_ble_eq_true rfl, (Nat.le_of_ble_eq_true rfl)⟩ hx96 (fun ad103 hx104 ha105 => ?_)
  refine wg_cs (k := 34) (n := 1179) rfl rfl ?_
  refine wg_ren (lv' := [(0, .ref (ad103 0))]) (st' := [.ref (ad103 31), .ref (ad103 0)]) (by first | rfl | simp only [ha105 0 z98.1, ha105 31 z98.2]) (by first | rfl | simp only [Option.toList, List.nil_append, List.cons_append, ha105 0 z98.1, ha105 31 z98.2]) ?_
  obtain ⟨z106, h⟩ := ck_some h
  obtain ⟨z107, h⟩ := ck_some h
  obtain ⟨S108, e109, h⟩ := lt_some h
  refine wg_putRF X hx104 z107 cl8 z106 5 (by decide) dX8_init_56 k_477 rfl hnm rfl rfl (fun _ => rfl) (fun _ => rfl) e109 (fun hx110 => ?_)
  refine wg_aload_n X 0 dX8_init_59 rfl rfl ?_
  obtain ⟨z111, h⟩ := ck_some h
  obtain ⟨z112, h⟩ := ck_some h
  obtain ⟨S113, e114, h⟩ := lt_some h
  obtain ⟨C115, e116, h⟩ := lt_some h
  refine wg_newC X cl7 (by decide) (by decide) df7 hx110 k_242 k_243 k_76 (Nat.le_of_ble_eq_true rfl) (Nat.le_of_ble_eq_true rfl) dX8_init_60 e114 e116 (fun ad117 hx118 ha119 => ?_)
  refine wg_cs (k := 35) (n := 1182) rfl rfl ?_
  rw [z112]
  refine wg_ren (lv' := [(0, .ref (ad117 0))]) (st' := [.ref (ad117 35), .ref (ad117 0)]) (by first | rfl | simp only [ha119 0 z111]) (by first | rfl | simp only [Option.toList, List.nil_append, List.cons_append, ha119 0 z111]) ?_
  refine wg_dup X dX8_init_63 rfl ?_
  obtain ⟨z120, h⟩ := ck_some h
  obtain ⟨z121, h⟩ := ck_some h
  obtain ⟨S123, C124, h122, h⟩ := bd2_some h
  refine wg_callINa (host := "WindowsGive") (As := []) (rest := [.ref (ad117 35), .ref (ad117 0)]) X (c_X7_init l E ad117 S113 hx118.1 C115 M  h122) T_yX7_init (by simp [wg_nest]) dX8_init_64 rfl rfl (Nat.le_of_ble_eq_true rfl) ⟨Nat.le_of_ble_eq_true rfl, Nat.le_of_ble_eq_true rfl⟩ ⟨Nat.le_of_ble_eq_true rfl, (Nat.le_of_ble_eq_true rfl)⟩ hx118 (fun ad125 hx126 ha127 => ?_)
  refine wg_cs (k := 38) (n := 1572) rfl rfl ?_
  refine wg_ren (lv' := [(0, .ref (ad125 0))]) (st' := [.ref (ad125 35), .ref (ad125 0)]) (by first | rfl | simp only [ha127 0 z120.1, ha127 35 z120.2]) (by first | rfl | simp only [Option.toList, List.nil_append, List.cons_append, ha127 0 z120.1, ha127 35 z120.2]) ?_
  obtain ⟨z128, h⟩ := ck_some h
  obtain ⟨z129, h⟩ := ck_some h
  obtain ⟨S130, e131, h⟩ := lt_some h
  refine wg_putRF X hx126 z129 cl8 z128 6 (by decide) dX8_init_67 k_478 rfl hnm rfl rfl (fun _ => rfl) (fun _ => rfl) e131 (fun hx132 => ?_)
  refine wg_aload_n X 0 dX8_init_70 rfl rfl ?_
  refine wg_iconst (v := 4) X dX8_init_71 (by decide) ?_
  obtain ⟨z133, h⟩ := ck_some h
  obtain ⟨z134, h⟩ := ck_some h
  obtain ⟨S135, e136, h⟩ := lt_some h
  refine wg_newq14 (L := 4) X hx132 (by decide) (by decide) (by decide) (Nat.le_of_ble_eq_true rfl) (Nat.le_of_ble_eq_true rfl) k_260 dX8_init_72 e136 (fun ad137 hx138 ha139 => ?_)
  refine wg_cs (k := 39) (n := 1576) rfl rfl ?_
  rw [z134]
  refine wg_ren (lv' := [(0, .ref (ad137 0))]) (st' := [.ref (ad137 39), .ref (ad137 0)]) (by first | rfl | simp only [ha139 0 z133]) (by first | rfl | simp only [Option.toList, List.nil_append, List.cons_append, ha139 0 z133]) ?_
  obtain ⟨z140, h⟩ := ck_some h
  obtain ⟨z141, h⟩ := ck_some h
  obtain ⟨S142, e143, h⟩ := lt_some h
  refine wg_putRF X hx138 z141 cl8 z140 7 (by decide) dX8_init_75 k_479 rfl hnm rfl rfl (fun _ => rfl) (fun _ => rfl) e143 (fun hx144 => ?_)
  refine wg_aload_n X 0 dX8_init_78 rfl rfl ?_
  obtain ⟨z145, h⟩ := ck_some h
  obtain ⟨z146, h⟩ := ck_some h
  obtain ⟨S147, e148, h⟩ := lt_some h
  obtain ⟨C149, e150, h⟩ := lt_some h
  refine wg_newC X cl1 (by decide) (by decide) df1 hx144 k_262 k_104 k_72 (Nat.le_of_ble_eq_true rfl) (Nat.le_of_ble_eq_true rfl) dX8_init_79 e148 e150 (fun ad151 hx152 ha153 => ?_)
  refine wg_cs (k := 40) (n := 1582) rfl rfl ?_
  rw [z146]
  refine wg_ren (lv' := [(0, .ref (ad151 0))]) (st' := [.ref (ad151 40), .ref (ad151 0)]) (by first | rfl | simp only [ha153 0 z145]) (by first | rfl | simp only [Option.toList, List.nil_append, List.cons_append, ha153 0 z145]) ?_
  refine wg_dup X dX8_init_82 rfl ?_
  refine wg_iconst (v := 0) X dX8_init_83 (by decide) ?_
  obtain ⟨z154, h⟩ := ck_some h
  obtain ⟨S156, C157, h155, h⟩ := bd2_some h
  refine wg_callIa (As := [.int (0 : Int32)]) (rest := [.ref (ad151 40), .ref (ad151 0)]) X (c_X1_init l E ad151 S147 hx152.1 C149 M 40 (0 : Int32) h155) T_yX1_init k_263 dX8_init_84 rfl rfl (Nat.le_of_ble_eq_true rfl) ⟨Nat.le_of_ble_eq_true rfl, Nat.le_of_ble_eq_true rfl⟩ ⟨Nat.le_of_ble_eq_true rfl, (Nat.le_of_ble_eq_true rfl)⟩ hx152 (fun ad158 hx159 ha160 => ?_)
  refine wg_cs (k := 40) (n := 1582) rfl rfl ?_
  refine wg_ren (lv' := [(0, .ref (ad158 0))]) (st' := [.ref (ad158 40), .ref (ad158 0)]) (by first | rfl | simp only [ha160 0 z154.1, ha160 40 z154.2]) (by first | rfl | simp only [Option.toList, List.nil_append, List.cons_append, ha160 0 z154.1, ha160 40 z154.2]) ?_
  obtain ⟨z161, h⟩ := ck_some h
  obtain ⟨z162, h⟩ := ck_some h
  obtain ⟨S163, e164, h⟩ := lt_some h
  refine wg_putRF X hx159 z162 cl8 z161 8 (by decide) dX8_init_87 k_480 rfl hnm rfl rfl (fun _ => rfl) (fun _ => rfl) e164 (fun hx165 => ?_)
  refine wg_aload_n X 0 dX8_init_90 rfl rfl ?_
  refine wg_bipush (v := 32) X dX8_init_91 (by decide) ?_
  obtain ⟨z166, h⟩ := ck_some h
  obtain ⟨z167, h⟩ := ck_some h
  obtain ⟨S168, e169, h⟩ := lt_some h
  obtain ⟨C170, e171, h⟩ := lt_some h
  refine wg_newaC (L := 32) X hx165 (by decide) (by decide) (by decide) (Nat.le_of_ble_eq_true rfl) (Nat.le_of_ble_eq_true rfl) k_139 dX8_init_93 e169 e171 (fun ad172 hx173 ha174 => ?_)
  refine wg_cs (k := 41) (n := 1614) rfl rfl ?_
  rw [z167]
  refine wg_ren (lv' := [(0, .ref (ad172 0))]) (st' := [.ref (ad172 41), .ref (ad172 0)]) (by first | rfl | simp only [ha174 0 z166]) (by first | rfl | simp only [Option.toList, List.nil_append, List.cons_append, ha174 0 z166]) ?_
  obtain ⟨z175, h⟩ := ck_some h
  obtain ⟨z176, h⟩ := ck_some h
  obtain ⟨S177, e178, h⟩ := lt_some h
  refine wg_putRF X hx173 z176 cl8 z175 9 (by decide) dX8_init_95 k_481 rfl hnm rfl rfl (fun _ => rfl) (fun _ => rfl) e178 (fun hx179 => ?_)
  refine wg_aload_n X 0 dX8_init_98 rfl rfl ?_
  refine wg_bipush (v := 32) X dX8_init_99 (by decide) ?_
  obtain ⟨z180, h⟩ := ck_some h
  obtain ⟨z181, h⟩ := ck_some h
  obtain ⟨S182, e183, h⟩ := lt_some h
  obtain ⟨C184, e185, h⟩ := lt_some h
  refine wg_newaC (L := 32) X hx179 (by decide) (by decide) (by decide) (Nat.le_of_ble_eq_true rfl) (Nat.le_of_ble_eq_true rfl) k_139 dX8_init_101 e183 e185 (fun ad186 hx187 ha188 => ?_)
  refine wg_cs (k := 42) (n := 1646) rfl rfl ?_
  rw [z181]
  refine wg_ren (lv' := [(0, .ref (ad186 0))]) (st' := [.ref (ad186 42), .ref (ad186 0)]) (by first | rfl | simp only [ha188 0 z180]) (by first | rfl | simp only [Option.toList, List.nil_append, List.cons_append, ha188 0 z180]) ?_
  obtain ⟨z189, h⟩ := ck_some h
  obtain ⟨z190, h⟩ := ck_some h
  obtain ⟨S191, e192, h⟩ := lt_some h
  refine wg_putRF X hx187 z190 cl8 z189 10 (by decide) dX8_init_103 k_482 rfl hnm rfl rfl (fun _ => rfl) (fun _ => rfl) e192 (fun hx193 => ?_)
  refine wg_aload_n X 0 dX8_init_106 rfl rfl ?_
  refine wg_bipush (v := 8) X dX8_init_107 (by decide) ?_
  obtain ⟨z194, h⟩ := ck_some h
  obtain ⟨z195, h⟩ := ck_some h
  obtain ⟨S196, e197, h⟩ := lt_some h
  obtain ⟨C198, e199, h⟩ := lt_some h
  refine wg_newaC (L := 8) X hx193 (by decide) (by decide) (by decide) (Nat.le_of_ble_eq_true rfl) (Nat.le_of_ble_eq_true rfl) k_139 dX8_init_109 e197 e199 (fun ad200 hx201 ha202 => ?_)
  refine wg_cs (k := 43) (n := 1654) rfl rfl ?_
  rw [z195]
  refine wg_ren (lv' := [(0, .ref (ad200 0))]) (st' := [.ref (ad200 43), .ref (ad200 0)]) (by first | rfl | simp only [ha202 0 z194]) (by first | rfl | simp only [Option.toList, List.nil_append, List.cons_append, ha202 0 z194]) ?_
  obtain ⟨z203, h⟩ := ck_some h
  obtain ⟨z204, h⟩ := ck_some h
  obtain ⟨S205, e206, h⟩ := lt_some h
  refine wg_putRF X hx201 z204 cl8 z203 11 (by decide) dX8_init_111 k_483 rfl hnm rfl rfl (fun _ => rfl) (fun _ => rfl) e206 (fun hx207 => ?_)
  refine wg_iconst (v := 0) X dX8_init_114 (by decide) ?_
  refine wg_istore_n (lv' := [(1, .int (0 : Int32)), (0, .ref (ad200 0))]) X dX8_init_115 rfl rfl (by decide) rfl ?_
  refine wg_iload_n X 0 dX8_init_116 rfl rfl ?_
  refine wg_iconst (v := 4) X dX8_init_117 (by decide) ?_
  refine wg_icmp_ge X 140 dX8_init_118 (by decide) (fun c208 => absurd c208 (by decide)) (fun c208 => ?_)
  refine wg_aload_n X 1 dX8_init_121 rfl rfl ?_
  obtain ⟨z209, h⟩ := ck_some h
  obtain ⟨z210, h⟩ := ck_some h
  refine wg_getR (b := 39) X cl8 z209 7 (by decide) dX8_init_122 k_479 rfl z210 ?_
  refine wg_iload_n X 0 dX8_init_125 rfl rfl ?_
  obtain ⟨z211, h⟩ := ck_some h
  obtain ⟨z212, h⟩ := ck_some h
  obtain ⟨S213, e214, h⟩ := lt_some h
  obtain ⟨C215, e216, h⟩ := lt_some h
  refine wg_newC X cl4 (by decide) (by decide) df4 hx207 k_260 k_264 k_77 (Nat.le_of_ble_eq_true rfl) (Nat.le_of_ble_eq_true rfl) dX8_init_126 e214 e216 (fun ad217 hx218 ha219 => ?_)
  refine wg_cs (k := 44) (n := 1657) rfl rfl ?_
  rw [z212]
  refine wg_ren (lv' := [(1, .int (0 : Int32)), (0, .ref (ad217 0))]) (st' := [.ref (ad217 44), .int (0 : Int32), .ref (ad217 39)]) (by first | rfl | simp only [ha219 0 z211.1, ha219 39 z211.2]) (by first | rfl | simp only [Option.toList, List.nil_append, List.cons_append, ha219 0 z211.1, ha219 39 z211.2]) ?_
  refine wg_dup X dX8_init_129 rfl ?_
  obtain ⟨z220, h⟩ := ck_some h
  obtain ⟨z221, h⟩ := ck_some h
  obtain ⟨S223, C224, h222, h⟩ := bd2_some h
  refine wg_callINa (host := "WindowsGive") (As := []) (rest := [.ref (ad217 44), .int (0 : Int32), .ref (ad217 39)]) X (c_X4_init_i0 l E ad217 S213 hx218.1 C215 M  h222) T_yX4_init (by simp [wg_nest]) dX8_init_130 rfl rfl (Nat.le_of_ble_eq_true rfl) ⟨Nat.le_of_ble_eq_true rfl, Nat.le_of_ble_eq_true rfl⟩ ⟨Nat.le_of_ble_eq_true rfl, (Nat.le_of_ble_eq_true rfl)⟩ hx218 (fun ad225 hx226 ha227 => ?_)
  refine wg_cs (k := 45) (n := 1697) rfl rfl ?_
  refine wg_ren (lv' := [(1, .int (0 : Int32)), (0, .ref (ad225 0))]) (st' := [.ref (ad225 44), .int (0 : Int32), .ref (ad225 39)]) (by first | rfl | simp only [ha227 0 z220.1, ha227 44 z220.2.1, ha227 39 z220.2.2]) (by first | rfl | simp only [Option.toList, List.nil_append, List.cons_append, ha227 0 z220.1, ha227 44 z220.2.1, ha227 39 z220.2.2]) ?_
  obtain ⟨z228, h⟩ := ck_some h
  obtain ⟨z229, h⟩ := ck_some h
  obtain ⟨z230, h⟩ := ck_some h
  obtain ⟨z231, h⟩ := ck_some h
  obtain ⟨S232, e233, h⟩ := lt_some h
  refine wg_aast14 X hx226 z228 z230 z229 z231 dX8_init_133 e233 (fun hx234 => ?_)
  refine wg_iinc (lv' := [(1, .int (1 : Int32)), (0, .ref (ad225 0))]) X 0 dX8_init_134 rfl (by decide) (by decide) rfl ?_
  refine wg_goto X 116 dX8_init_137 (by decide) ?_
  refine wg_iload_n X 0 dX8_init_116 rfl rfl ?_
  refine wg_iconst (v := 4) X dX8_init_117 (by decide) ?_
  refine wg_icmp_ge X 140 dX8_init_118 (by decide) (fun c235 => absurd c235 (by decide)) (fun c235 => ?_)
  refine wg_aload_n X 1 dX8_init_121 rfl rfl ?_
  obtain ⟨z236, h⟩ := ck_some h
  obtain ⟨z237, h⟩ := ck_some h
  refine wg_getR (b := 39) X cl8 z236 7 (by decide) dX8_init_122 k_479 rfl z237 ?_
  refine wg_iload_n X 0 dX8_init_125 rfl rfl ?_
  obtain ⟨z238, h⟩ := ck_some h
  obtain ⟨z239, h⟩ := ck_some h
  obtain ⟨S240, e241, h⟩ := lt_some h
  obtain ⟨C242, e243, h⟩ := lt_some h
  refine wg_newC X cl4 (by decide) (by decide) df4 hx234 k_260 k_264 k_77 (Nat.le_of_ble_eq_true rfl) (Nat.le_of_ble_eq_true rfl) dX8_init_126 e241 e243 (fun ad244 hx245 ha246 => ?_)
  refine wg_cs (k := 46) (n := 1700) rfl rfl ?_
  rw [z239]
  refine wg_ren (lv' := [(1, .int (1 : Int32)), (0, .ref (ad244 0))]) (st' := [.ref (ad244 46), .int (1 : Int32), .ref (ad244 39)]) (by first | rfl | simp only [ha246 0 z238.1, ha246 39 z238.2]) (by first | rfl | simp only [Option.toList, List.nil_append, List.cons_append, ha246 0 z238.1, ha246 39 z238.2]) ?_
  refine wg_dup X dX8_init_129 rfl ?_
  obtain ⟨z247, h⟩ := ck_some h
  obtain ⟨z248, h⟩ := ck_some h
  obtain ⟨S250, C251, h249, h⟩ := bd2_some h
  refine wg_callINa (host := "WindowsGive") (As := []) (rest := [.ref (ad244 46), .int (1 : Int32), .ref (ad244 39)]) X (c_X4_init_i1 l E ad244 S240 hx245.1 C242 M  h249) T_yX4_init (by simp [wg_nest]) dX8_init_130 rfl rfl (Nat.le_of_ble_eq_true rfl) ⟨Nat.le_of_ble_eq_true rfl, Nat.le_of_ble_eq_true rfl⟩ ⟨Nat.le_of_ble_eq_true rfl, (Nat.le_of_ble_eq_true rfl)⟩ hx245 (fun ad252 hx253 ha254 => ?_)
  refine wg_cs (k := 47) (n := 1740) rfl rfl ?_
  refine wg_ren (lv' := [(1, .int (1 : Int32)), (0, .ref (ad252 0))]) (st' := [.ref (ad252 46), .int (1 : Int32), .ref (ad252 39)]) (by first | rfl | simp only [ha254 0 z247.1, ha254 46 z247.2.1, ha254 39 z247.2.2]) (by first | rfl | simp only [Option.toList, List.nil_append, List.cons_append, ha254 0 z247.1, ha254 46 z247.2.1, ha254 39 z247.2.2]) ?_
  obtain ⟨z255, h⟩ := ck_some h
  obtain ⟨z256, h⟩ := ck_some h
  obtain ⟨z257, h⟩ := ck_some h
  obtain ⟨z258, h⟩ := ck_some h
  obtain ⟨S259, e260, h⟩ := lt_some h
  refine wg_aast14 X hx253 z255 z257 z256 z258 dX8_init_133 e260 (fun hx261 => ?_)
  refine wg_iinc (lv' := [(1, .int (2 : Int32)), (0, .ref (ad252 0))]) X 0 dX8_init_134 rfl (by decide) (by decide) rfl ?_
  refine wg_goto X 116 dX8_init_137 (by decide) ?_
  refine wg_iload_n X 0 dX8_init_116 rfl rfl ?_
  refine wg_iconst (v := 4) X dX8_init_117 (by decide) ?_
  refine wg_icmp_ge X 140 dX8_init_118 (by decide) (fun c262 => absurd c262 (by decide)) (fun c262 => ?_)
  refine wg_aload_n X 1 dX8_init_121 rfl rfl ?_
  obtain ⟨z263, h⟩ := ck_some h
  obtain ⟨z264, h⟩ := ck_some h
  refine wg_getR (b := 39) X cl8 z263 7 (by decide) dX8_init_122 k_479 rfl z264 ?_
  refine wg_iload_n X 0 dX8_init_125 rfl rfl ?_
  obtain ⟨z265, h⟩ := ck_some h
  obtain ⟨z266, h⟩ := ck_some h
  obtain ⟨S267, e268, h⟩ := lt_some h
  obtain ⟨C269, e270, h⟩ := lt_some h
  refine wg_newC X cl4 (by decide) (by decide) df4 hx261 k_260 k_264 k_77 (Nat.le_of_ble_eq_true rfl) (Nat.le_of_ble_eq_true rfl) dX8_init_126 e268 e270 (fun ad271 hx272 ha273 => ?_)
  refine wg_cs (k := 48) (n := 1743) rfl rfl ?_
  rw [z266]
  refine wg_ren (lv' := [(1, .int (2 : Int32)), (0, .ref (ad271 0))]) (st' := [.ref (ad271 48), .int (2 : Int32), .ref (ad271 39)]) (by first | rfl | simp only [ha273 0 z265.1, ha273 39 z265.2]) (by first | rfl | simp only [Option.toList, List.nil_append, List.cons_append, ha273 0 z265.1, ha273 39 z265.2]) ?_
  refine wg_dup X dX8_init_129 rfl ?_
  obtain ⟨z274, h⟩ := ck_some h
  obtain ⟨z275, h⟩ := ck_some h
  obtain ⟨S277, C278, h276, h⟩ := bd2_some h
  refine wg_callINa (host := "WindowsGive") (As := []) (rest := [.ref (ad271 48), .int (2 : Int32), .ref (ad271 39)]) X (c_X4_init_i2 l E ad271 S267 hx272.1 C269 M  h276) T_yX4_init (by simp [wg_nest]) dX8_init_130 rfl rfl (Nat.le_of_ble_eq_true rfl) ⟨Nat.le_of_ble_eq_true rfl, Nat.le_of_ble_eq_true rfl⟩ ⟨Nat.le_of_ble_eq_true rfl, (Nat.le_of_ble_eq_true rfl)⟩ hx272 (fun ad279 hx280 ha281 => ?_)
  refine wg_cs (k := 49) (n := 1783) rfl rfl ?_
  refine wg_ren (lv' := [(1, .int (2 : Int32)), (0, .ref (ad279 0))]) (st' := [.ref (ad279 48), .int (2 : Int32), .ref (ad279 39)]) (by first | rfl | simp only [ha281 0 z274.1, ha281 48 z274.2.1, ha281 39 z274.2.2]) (by first | rfl | simp only [Option.toList, List.nil_append, List.cons_append, ha281 0 z274.1, ha281 48 z274.2.1, ha281 39 z274.2.2]) ?_
  obtain ⟨z282, h⟩ := ck_some h
  obtain ⟨z283, h⟩ := ck_some h
  obtain ⟨z284, h⟩ := ck_some h
  obtain ⟨z285, h⟩ := ck_some h
  obtain ⟨S286, e287, h⟩ := lt_some h
  refine wg_aast14 X hx280 z282 z284 z283 z285 dX8_init_133 e287 (fun hx288 => ?_)
  refine wg_iinc (lv' := [(1, .int (3 : Int32)), (0, .ref (ad279 0))]) X 0 dX8_init_134 rfl (by decide) (by decide) rfl ?_
  refine wg_goto X 116 dX8_init_137 (by decide) ?_
  refine wg_iload_n X 0 dX8_init_116 rfl rfl ?_
  refine wg_iconst (v := 4) X dX8_init_117 (by decide) ?_
  refine wg_icmp_ge X 140 dX8_init_118 (by decide) (fun c289 => absurd c289 (by decide)) (fun c289 => ?_)
  refine wg_aload_n X 1 dX8_init_121 rfl rfl ?_
  obtain ⟨z290, h⟩ := ck_some h
  obtain ⟨z291, h⟩ := ck_some h
  refine wg_getR (b := 39) X cl8 z290 7 (by decide) dX8_init_122 k_479 rfl z291 ?_
  refine wg_iload_n X 0 dX8_init_125 rfl rfl ?_
  obtain ⟨z292, h⟩ := ck_some h
  obtain ⟨z293, h⟩ := ck_some h
  obtain ⟨S294, e295, h⟩ := lt_some h
  obtain ⟨C296, e297, h⟩ := lt_some h
  refine wg_newC X cl4 (by decide) (by decide) df4 hx288 k_260 k_264 k_77 (Nat.le_of_ble_eq_true rfl) (Nat.le_of_ble_eq_true rfl) dX8_init_126 e295 e297 (fun ad298 hx299 ha300 => ?_)
  refine wg_cs (k := 50) (n := 1786) rfl rfl ?_
  rw [z293]
  refine wg_ren (lv' := [(1, .int (3 : Int32)), (0, .ref (ad298 0))]) (st' := [.ref (ad298 50), .int (3 : Int32), .ref (ad298 39)]) (by first | rfl | simp only [ha300 0 z292.1, ha300 39 z292.2]) (by first | rfl | simp only [Option.toList, List.nil_append, List.cons_append, ha300 0 z292.1, ha300 39 z292.2]) ?_
  refine wg_dup X dX8_init_129 rfl ?_
  obtain ⟨z301, h⟩ := ck_some h
  obtain ⟨z302, h⟩ := ck_some h
  obtain ⟨S304, C305, h303, h⟩ := bd2_some h
  refine wg_callINa (host := "WindowsGive") (As := []) (rest := [.ref (ad298 50), .int (3 : Int32), .ref (ad298 39)]) X (c_X4_init_i3 l E ad298 S294 hx299.1 C296 M  h303) T_yX4_init (by simp [wg_nest]) dX8_init_130 rfl rfl (Nat.le_of_ble_eq_true rfl) ⟨Nat.le_of_ble_eq_true rfl, Nat.le_of_ble_eq_true rfl⟩ ⟨Nat.le_of_ble_eq_true rfl, (Nat.le_of_ble_eq_true rfl)⟩ hx299 (fun ad306 hx307 ha308 => ?_)
  refine wg_cs (k := 51) (n := 1826) rfl rfl ?_
  refine wg_ren (lv' := [(1, .int (3 : Int32)), (0, .ref (ad306 0))]) (st' := [.ref (ad306 50), .int (3 : Int32), .ref (ad306 39)]) (by first | rfl | simp only [ha308 0 z301.1, ha308 50 z301.2.1, ha308 39 z301.2.2]) (by first | rfl | simp only [Option.toList, List.nil_append, List.cons_append, ha308 0 z301.1, ha308 50 z301.2.1, ha308 39 z301.2.2]) ?_
  obtain ⟨z309, h⟩ := ck_some h
  obtain ⟨z310, h⟩ := ck_some h
  obtain ⟨z311, h⟩ := ck_some h
  obtain ⟨z312, h⟩ := ck_some h
  obtain ⟨S313, e314, h⟩ := lt_some h
  refine wg_aast14 X hx307 z309 z311 z310 z312 dX8_init_133 e314 (fun hx315 => ?_)
  refine wg_iinc (lv' := [(1, .int (4 : Int32)), (0, .ref (ad306 0))]) X 0 dX8_init_134 rfl (by decide) (by decide) rfl ?_
  refine wg_goto X 116 dX8_init_137 (by decide) ?_
  refine wg_iload_n X 0 dX8_init_116 rfl rfl ?_
  refine wg_iconst (v := 4) X dX8_init_117 (by decide) ?_
  refine wg_icmp_ge X 140 dX8_init_118 (by decide) (fun c316 => ?_) (fun c316 => absurd c316 (by decide))
  refine wg_iconst (v := 0) X dX8_init_140 (by decide) ?_
  refine wg_istore_n (lv' := [(1, .int (0 : Int32)), (0, .ref (ad306 0))]) X dX8_init_141 rfl rfl (by decide) rfl ?_
  refine wg_iload_n X 0 dX8_init_142 rfl rfl ?_
  refine wg_ldcS X 0 (by decide) rfl rfl dX8_init_143 ?_
  obtain ⟨r318, h317, h⟩ := bd_some h
  refine wg_callKi (As := []) (rest := [.int (0 : Int32)]) X (c_J0_length_8abf5 l E ad306 S313  C305 M 0 (by decide) h317) T_yJ0_length_8abf5 k_283 (by decide) dX8_init_145 rfl rfl (Nat.le_of_ble_eq_true rfl) ⟨Nat.le_of_ble_eq_true rfl, Nat.le_of_ble_eq_true rfl⟩ ⟨Nat.le_of_ble_eq_true rfl, (Nat.le_of_ble_eq_true rfl)⟩ ?_
  obtain ⟨z319, h⟩ := ck_some h
  rw [z319]
  refine wg_icmp_ge X 171 dX8_init_148 (by decide) (fun c320 => absurd c320 (by decide)) (fun c320 => ?_)
  refine wg_aload_n X 1 dX8_init_151 rfl rfl ?_
  obtain ⟨z321, h⟩ := ck_some h
  obtain ⟨z322, h⟩ := ck_some h
  refine wg_getR (b := 23) X cl8 z321 3 (by decide) dX8_init_152 k_475 rfl z322 ?_
  refine wg_ldcS X 0 (by decide) rfl rfl dX8_init_155 ?_
  refine wg_iload_n X 0 dX8_init_157 rfl rfl ?_
  obtain ⟨r324, h323, h⟩ := bd_some h
  refine wg_callKi (As := [.int (0 : Int32)]) (rest := [.ref (ad306 23)]) X (c_J0_charAt_5068e l E ad306 S313  C305 M 0 (0 : Int32) (by decide) h323) T_yJ0_charAt_5068e k_293 (by decide) dX8_init_158 rfl rfl (Nat.le_of_ble_eq_true rfl) ⟨Nat.le_of_ble_eq_true rfl, Nat.le_of_ble_eq_true rfl⟩ ⟨Nat.le_of_ble_eq_true rfl, (Nat.le_of_ble_eq_true rfl)⟩ ?_
  obtain ⟨z325, h⟩ := ck_some h
  obtain ⟨r327, C328, h326, h⟩ := bd2_some h
  obtain ⟨z329, h⟩ := ck_some h
  refine wg_callVi (As := [.int r324]) (rest := []) X (c_X5_put l E ad306 S313 (wg_SCb_iff.mp z325) C305 M r324  h326) T_yX5_put k_331 cl5 z329 dX8_init_161 rfl rfl (Nat.le_of_ble_eq_true rfl) ⟨Nat.le_of_ble_eq_true rfl, Nat.le_of_ble_eq_true rfl⟩ ⟨Nat.le_of_ble_eq_true rfl, (Nat.le_of_ble_eq_true rfl)⟩ ?_
  refine wg_pop X dX8_init_164 rfl ?_
  refine wg_iinc (lv' := [(1, .int (1 : Int32)), (0, .ref (ad306 0))]) X 0 dX8_init_165 rfl (by decide) (by decide) rfl ?_
  refine wg_goto X 142 dX8_init_168 (by decide) ?_
  refine wg_iload_n X 0 dX8_init_142 rfl rfl ?_
  refine wg_ldcS X 0 (by decide) rfl rfl dX8_init_143 ?_
  obtain ⟨r331, h330, h⟩ := bd_some h
  refine wg_callKi (As := []) (rest := [.int (1 : Int32)]) X (c_J0_length_8abf5 l E ad306 S313  C328 M 0 (by decide) h330) T_yJ0_length_8abf5 k_283 (by decide) dX8_init_145 rfl rfl (Nat.le_of_ble_eq_true rfl) ⟨Nat.le_of_ble_eq_true rfl, Nat.le_of_ble_eq_true rfl⟩ ⟨Nat.le_of_ble_eq_true rfl, (Nat.le_of_ble_eq_true rfl)⟩ ?_
  obtain ⟨z332, h⟩ := ck_some h
  rw [z332]
  refine wg_icmp_ge X 171 dX8_init_148 (by decide) (fun c333 => absurd c333 (by decide)) (fun c333 => ?_)
  refine wg_aload_n X 1 dX8_init_151 rfl rfl ?_
  refine wg_getR (b := 23) X cl8 z321 3 (by decide) dX8_init_152 k_475 rfl z322 ?_
  refine wg_ldcS X 0 (by decide) rfl rfl dX8_init_155 ?_
  refine wg_iload_n X 0 dX8_init_157 rfl rfl ?_
  obtain ⟨r335, h334, h⟩ := bd_some h
  refine wg_callKi (As := [.int (1 : Int32)]) (rest := [.ref (ad306 23)]) X (c_J0_charAt_5068e l E ad306 S313  C328 M 0 (1 : Int32) (by decide) h334) T_yJ0_charAt_5068e k_293 (by decide) dX8_init_158 rfl rfl (Nat.le_of_ble_eq_true rfl) ⟨Nat.le_of_ble_eq_true rfl, Nat.le_of_ble_eq_true rfl⟩ ⟨Nat.le_of_ble_eq_true rfl, (Nat.le_of_ble_eq_true rfl)⟩ ?_
  obtain ⟨r337, C338, h336, h⟩ := bd2_some h
  refine wg_callVi (As := [.int r335]) (rest := []) X (c_X5_put l E ad306 S313 (wg_SCb_iff.mp z325) C328 M r335  h336) T_yX5_put k_331 cl5 z329 dX8_init_161 rfl rfl (Nat.le_of_ble_eq_true rfl) ⟨Nat.le_of_ble_eq_true rfl, Nat.le_of_ble_eq_true rfl⟩ ⟨Nat.le_of_ble_eq_true rfl, (Nat.le_of_ble_eq_true rfl)⟩ ?_
  refine wg_pop X dX8_init_164 rfl ?_
  refine wg_iinc (lv' := [(1, .int (2 : Int32)), (0, .ref (ad306 0))]) X 0 dX8_init_165 rfl (by decide) (by decide) rfl ?_
  refine wg_goto X 142 dX8_init_168 (by decide) ?_
  refine wg_iload_n X 0 dX8_init_142 rfl rfl ?_
  refine wg_ldcS X 0 (by decide) rfl rfl dX8_init_143 ?_
  obtain ⟨r340, h339, h⟩ := bd_some h
  refine wg_callKi (As := []) (rest := [.int (2 : Int32)]) X (c_J0_length_8abf5 l E ad306 S313  C338 M 0 (by decide) h339) T_yJ0_length_8abf5 k_283 (by decide) dX8_init_145 rfl rfl (Nat.le_of_ble_eq_true rfl) ⟨Nat.le_of_ble_eq_true rfl, Nat.le_of_ble_eq_true rfl⟩ ⟨Nat.le_of_ble_eq_true rfl, (Nat.le_of_ble_eq_true rfl)⟩ ?_
  obtain ⟨z341, h⟩ := ck_some h
  rw [z341]
  refine wg_icmp_ge X 171 dX8_init_148 (by decide) (fun c342 => absurd c342 (by decide)) (fun c342 => ?_)
  refine wg_aload_n X 1 dX8_init_151 rfl rfl ?_
  refine wg_getR (b := 23) X cl8 z321 3 (by decide) dX8_init_152 k_475 rfl z322 ?_
  refine wg_ldcS X 0 (by decide) rfl rfl dX8_init_155 ?_
  refine wg_iload_n X 0 dX8_init_157 rfl rfl ?_
  obtain ⟨r344, h343, h⟩ := bd_some h
  refine wg_callKi (As := [.int (2 : Int32)]) (rest := [.ref (ad306 23)]) X (c_J0_charAt_5068e l E ad306 S313  C338 M 0 (2 : Int32) (by decide) h343) T_yJ0_charAt_5068e k_293 (by decide) dX8_init_158 rfl rfl (Nat.le_of_ble_eq_true rfl) ⟨Nat.le_of_ble_eq_true rfl, Nat.le_of_ble_eq_true rfl⟩ ⟨Nat.le_of_ble_eq_true rfl, (Nat.le_of_ble_eq_true rfl)⟩ ?_
  obtain ⟨r346, C347, h345, h⟩ := bd2_some h
  refine wg_callVi (As := [.int r344]) (rest := []) X (c_X5_put l E ad306 S313 (wg_SCb_iff.mp z325) C338 M r344  h345) T_yX5_put k_331 cl5 z329 dX8_init_161 rfl rfl (Nat.le_of_ble_eq_true rfl) ⟨Nat.le_of_ble_eq_true rfl, Nat.le_of_ble_eq_true rfl⟩ ⟨Nat.le_of_ble_eq_true rfl, (Nat.le_of_ble_eq_true rfl)⟩ ?_
  refine wg_pop X dX8_init_164 rfl ?_
  refine wg_iinc (lv' := [(1, .int (3 : Int32)), (0, .ref (ad306 0))]) X 0 dX8_init_165 rfl (by decide) (by decide) rfl ?_
  refine wg_goto X 142 dX8_init_168 (by decide) ?_
  refine wg_iload_n X 0 dX8_init_142 rfl rfl ?_
  refine wg_ldcS X 0 (by decide) rfl rfl dX8_init_143 ?_
  obtain ⟨r349, h348, h⟩ := bd_some h
  refine wg_callKi (As := []) (rest := [.int (3 : Int32)]) X (c_J0_length_8abf5 l E ad306 S313  C347 M 0 (by decide) h348) T_yJ0_length_8abf5 k_283 (by decide) dX8_init_145 rfl rfl (Nat.le_of_ble_eq_true rfl) ⟨Nat.le_of_ble_eq_true rfl, Nat.le_of_ble_eq_true rfl⟩ ⟨Nat.le_of_ble_eq_true rfl, (Nat.le_of_ble_eq_true rfl)⟩ ?_
  obtain ⟨z350, h⟩ := ck_some h
  rw [z350]
  refine wg_icmp_ge X 171 dX8_init_148 (by decide) (fun c351 => absurd c351 (by decide)) (fun c351 => ?_)
  refine wg_aload_n X 1 dX8_init_151 rfl rfl ?_
  refine wg_getR (b := 23) X cl8 z321 3 (by decide) dX8_init_152 k_475 rfl z322 ?_
  refine wg_ldcS X 0 (by decide) rfl rfl dX8_init_155 ?_
  refine wg_iload_n X 0 dX8_init_157 rfl rfl ?_
  obtain ⟨r353, h352, h⟩ := bd_some h
  refine wg_callKi (As := [.int (3 : Int32)]) (rest := [.ref (ad306 23)]) X (c_J0_charAt_5068e l E ad306 S313  C347 M 0 (3 : Int32) (by decide) h352) T_yJ0_charAt_5068e k_293 (by decide) dX8_init_158 rfl rfl (Nat.le_of_ble_eq_true rfl) ⟨Nat.le_of_ble_eq_true rfl, Nat.le_of_ble_eq_true rfl⟩ ⟨Nat.le_of_ble_eq_true rfl, (Nat.le_of_ble_eq_true rfl)⟩ ?_
  obtain ⟨r355, C356, h354, h⟩ := bd2_some h
  refine wg_callVi (As := [.int r353]) (rest := []) X (c_X5_put l E ad306 S313 (wg_SCb_iff.mp z325) C347 M r353  h354) T_yX5_put k_331 cl5 z329 dX8_init_161 rfl rfl (Nat.le_of_ble_eq_true rfl) ⟨Nat.le_of_ble_eq_true rfl, Nat.le_of_ble_eq_true rfl⟩ ⟨Nat.le_of_ble_eq_true rfl, (Nat.le_of_ble_eq_true rfl)⟩ ?_
  refine wg_pop X dX8_init_164 rfl ?_
  refine wg_iinc (lv' := [(1, .int (4 : Int32)), (0, .ref (ad306 0))]) X 0 dX8_init_165 rfl (by decide) (by decide) rfl ?_
  refine wg_goto X 142 dX8_init_168 (by decide) ?_
  refine wg_iload_n X 0 dX8_init_142 rfl rfl ?_
  refine wg_ldcS X 0 (by decide) rfl rfl dX8_init_143 ?_
  obtain ⟨r358, h357, h⟩ := bd_some h
  refine wg_callKi (As := []) (rest := [.int (4 : Int32)]) X (c_J0_length_8abf5 l E ad306 S313  C356 M 0 (by decide) h357) T_yJ0_length_8abf5 k_283 (by decide) dX8_init_145 rfl rfl (Nat.le_of_ble_eq_true rfl) ⟨Nat.le_of_ble_eq_true rfl, Nat.le_of_ble_eq_true rfl⟩ ⟨Nat.le_of_ble_eq_true rfl, (Nat.le_of_ble_eq_true rfl)⟩ ?_
  obtain ⟨z359, h⟩ := ck_some h
  rw [z359]
  refine wg_icmp_ge X 171 dX8_init_148 (by decide) (fun c360 => absurd c360 (by decide)) (fun c360 => ?_)
  refine wg_aload_n X 1 dX8_init_151 rfl rfl ?_
  refine wg_getR (b := 23) X cl8 z321 3 (by decide) dX8_init_152 k_475 rfl z322 ?_
  refine wg_ldcS X 0 (by decide) rfl rfl dX8_init_155 ?_
  refine wg_iload_n X 0 dX8_init_157 rfl rfl ?_
  obtain ⟨r362, h361, h⟩ := bd_some h
  refine wg_callKi (As := [.int (4 : Int32)]) (rest := [.ref (ad306 23)]) X (c_J0_charAt_5068e l E ad306 S313  C356 M 0 (4 : Int32) (by decide) h361) T_yJ0_charAt_5068e k_293 (by decide) dX8_init_158 rfl rfl (Nat.le_of_ble_eq_true rfl) ⟨Nat.le_of_ble_eq_true rfl, Nat.le_of_ble_eq_true rfl⟩ ⟨Nat.le_of_ble_eq_true rfl, (Nat.le_of_ble_eq_true rfl)⟩ ?_
  obtain ⟨r364, C365, h363, h⟩ := bd2_some h
  refine wg_callVi (As := [.int r362]) (rest := []) X (c_X5_put l E ad306 S313 (wg_SCb_iff.mp z325) C356 M r362  h363) T_yX5_put k_331 cl5 z329 dX8_init_161 rfl rfl (Nat.le_of_ble_eq_true rfl) ⟨Nat.le_of_ble_eq_true rfl, Nat.le_of_ble_eq_true rfl⟩ ⟨Nat.le_of_ble_eq_true rfl, (Nat.le_of_ble_eq_true rfl)⟩ ?_
  refine wg_pop X dX8_init_164 rfl ?_
  refine wg_iinc (lv' := [(1, .int (5 : Int32)), (0, .ref (ad306 0))]) X 0 dX8_init_165 rfl (by decide) (by decide) rfl ?_
  refine wg_goto X 142 dX8_init_168 (by decide) ?_
  refine wg_iload_n X 0 dX8_init_142 rfl rfl ?_
  refine wg_ldcS X 0 (by decide) rfl rfl dX8_init_143 ?_
  obtain ⟨r367, h366, h⟩ := bd_some h
  refine wg_callKi (As := []) (rest := [.int (5 : Int32)]) X (c_J0_length_8abf5 l E ad306 S313  C365 M 0 (by decide) h366) T_yJ0_length_8abf5 k_283 (by decide) dX8_init_145 rfl rfl (Nat.le_of_ble_eq_true rfl) ⟨Nat.le_of_ble_eq_true rfl, Nat.le_of_ble_eq_true rfl⟩ ⟨Nat.le_of_ble_eq_true rfl, (Nat.le_of_ble_eq_true rfl)⟩ ?_
  obtain ⟨z368, h⟩ := ck_some h
  rw [z368]
  refine wg_icmp_ge X 171 dX8_init_148 (by decide) (fun c369 => absurd c369 (by decide)) (fun c369 => ?_)
  refine wg_aload_n X 1 dX8_init_151 rfl rfl ?_
  refine wg_getR (b := 23) X cl8 z321 3 (by decide) dX8_init_152 k_475 rfl z322 ?_
  refine wg_ldcS X 0 (by decide) rfl rfl dX8_init_155 ?_
  refine wg_iload_n X 0 dX8_init_157 rfl rfl ?_
  obtain ⟨r371, h370, h⟩ := bd_some h
  refine wg_callKi (As := [.int (5 : Int32)]) (rest := [.ref (ad306 23)]) X (c_J0_charAt_5068e l E ad306 S313  C365 M 0 (5 : Int32) (by decide) h370) T_yJ0_charAt_5068e k_293 (by decide) dX8_init_158 rfl rfl (Nat.le_of_ble_eq_true rfl) ⟨Nat.le_of_ble_eq_true rfl, Nat.le_of_ble_eq_true rfl⟩ ⟨Nat.le_of_ble_eq_true rfl, (Nat.le_of_ble_eq_true rfl)⟩ ?_
  obtain ⟨r373, C374, h372, h⟩ := bd2_some h
  refine wg_callVi (As := [.int r371]) (rest := []) X (c_X5_put l E ad306 S313 (wg_SCb_iff.mp z325) C365 M r371  h372) T_yX5_put k_331 cl5 z329 dX8_init_161 rfl rfl (Nat.le_of_ble_eq_true rfl) ⟨Nat.le_of_ble_eq_true rfl, Nat.le_of_ble_eq_true rfl⟩ ⟨Nat.le_of_ble_eq_true rfl, (Nat.le_of_ble_eq_true rfl)⟩ ?_
  refine wg_pop X dX8_init_164 rfl ?_
  refine wg_iinc (lv' := [(1, .int (6 : Int32)), (0, .ref (ad306 0))]) X 0 dX8_init_165 rfl (by decide) (by decide) rfl ?_
  refine wg_goto X 142 dX8_init_168 (by decide) ?_
  refine wg_iload_n X 0 dX8_init_142 rfl rfl ?_
  refine wg_ldcS X 0 (by decide) rfl rfl dX8_init_143 ?_
  obtain ⟨r376, h375, h⟩ := bd_some h
  refine wg_callKi (As := []) (rest := [.int (6 : Int32)]) X (c_J0_length_8abf5 l E ad306 S313  C374 M 0 (by decide) h375) T_yJ0_length_8abf5 k_283 (by decide) dX8_init_145 rfl rfl (Nat.le_of_ble_eq_true rfl) ⟨Nat.le_of_ble_eq_true rfl, Nat.le_of_ble_eq_true rfl⟩ ⟨Nat.le_of_ble_eq_true rfl, (Nat.le_of_ble_eq_true rfl)⟩ ?_
  obtain ⟨z377, h⟩ := ck_some h
  rw [z377]
  refine wg_icmp_ge X 171 dX8_init_148 (by decide) (fun c378 => absurd c378 (by decide)) (fun c378 => ?_)
  refine wg_aload_n X 1 dX8_init_151 rfl rfl ?_
  refine wg_getR (b := 23) X cl8 z321 3 (by decide) dX8_init_152 k_475 rfl z322 ?_
  refine wg_ldcS X 0 (by decide) rfl rfl dX8_init_155 ?_
  refine wg_iload_n X 0 dX8_init_157 rfl rfl ?_
  obtain ⟨r380, h379, h⟩ := bd_some h
  refine wg_callKi (As := [.int (6 : Int32)]) (rest := [.ref (ad306 23)]) X (c_J0_charAt_5068e l E ad306 S313  C374 M 0 (6 : Int32) (by decide) h379) T_yJ0_charAt_5068e k_293 (by decide) dX8_init_158 rfl rfl (Nat.le_of_ble_eq_true rfl) ⟨Nat.le_of_ble_eq_true rfl, Nat.le_of_ble_eq_true rfl⟩ ⟨Nat.le_of_ble_eq_true rfl, (Nat.le_of_ble_eq_true rfl)⟩ ?_
  obtain ⟨r382, C383, h381, h⟩ := bd2_some h
  refine wg_callVi (As := [.int r380]) (rest := []) X (c_X5_put l E ad306 S313 (wg_SCb_iff.mp z325) C374 M r380  h381) T_yX5_put k_331 cl5 z329 dX8_init_161 rfl rfl (Nat.le_of_ble_eq_true rfl) ⟨Nat.le_of_ble_eq_true rfl, Nat.le_of_ble_eq_true rfl⟩ ⟨Nat.le_of_ble_eq_true rfl, (Nat.le_of_ble_eq_true rfl)⟩ ?_
  refine wg_pop X dX8_init_164 rfl ?_
  refine wg_iinc (lv' := [(1, .int (7 : Int32)), (0, .ref (ad306 0))]) X 0 dX8_init_165 rfl (by decide) (by decide) rfl ?_
  refine wg_goto X 142 dX8_init_168 (by decide) ?_
  refine wg_iload_n X 0 dX8_init_142 rfl rfl ?_
  refine wg_ldcS X 0 (by decide) rfl rfl dX8_init_143 ?_
  obtain ⟨r385, h384, h⟩ := bd_some h
  refine wg_callKi (As := []) (rest := [.int (7 : Int32)]) X (c_J0_length_8abf5 l E ad306 S313  C383 M 0 (by decide) h384) T_yJ0_length_8abf5 k_283 (by decide) dX8_init_145 rfl rfl (Nat.le_of_ble_eq_true rfl) ⟨Nat.le_of_ble_eq_true rfl, Nat.le_of_ble_eq_true rfl⟩ ⟨Nat.le_of_ble_eq_true rfl, (Nat.le_of_ble_eq_true rfl)⟩ ?_
  obtain ⟨z386, h⟩ := ck_some h
  rw [z386]
  refine wg_icmp_ge X 171 dX8_init_148 (by decide) (fun c387 => absurd c387 (by decide)) (fun c387 => ?_)
  refine wg_aload_n X 1 dX8_init_151 rfl rfl ?_
  refine wg_getR (b := 23) X cl8 z321 3 (by decide) dX8_init_152 k_475 rfl z322 ?_
  refine wg_ldcS X 0 (by decide) rfl rfl dX8_init_155 ?_
  refine wg_iload_n X 0 dX8_init_157 rfl rfl ?_
  obtain ⟨r389, h388, h⟩ := bd_some h
  refine wg_callKi (As := [.int (7 : Int32)]) (rest := [.ref (ad306 23)]) X (c_J0_charAt_5068e l E ad306 S313  C383 M 0 (7 : Int32) (by decide) h388) T_yJ0_charAt_5068e k_293 (by decide) dX8_init_158 rfl rfl (Nat.le_of_ble_eq_true rfl) ⟨Nat.le_of_ble_eq_true rfl, Nat.le_of_ble_eq_true rfl⟩ ⟨Nat.le_of_ble_eq_true rfl, (Nat.le_of_ble_eq_true rfl)⟩ ?_
  obtain ⟨r391, C392, h390, h⟩ := bd2_some h
  refine wg_callVi (As := [.int r389]) (rest := []) X (c_X5_put l E ad306 S313 (wg_SCb_iff.mp z325) C383 M r389  h390) T_yX5_put k_331 cl5 z329 dX8_init_161 rfl rfl (Nat.le_of_ble_eq_true rfl) ⟨Nat.le_of_ble_eq_true rfl, Nat.le_of_ble_eq_true rfl⟩ ⟨Nat.le_of_ble_eq_true rfl, (Nat.le_of_ble_eq_true rfl)⟩ ?_
  refine wg_pop X dX8_init_164 rfl ?_
  refine wg_iinc (lv' := [(1, .int (8 : Int32)), (0, .ref (ad306 0))]) X 0 dX8_init_165 rfl (by decide) (by decide) rfl ?_
  refine wg_goto X 142 dX8_init_168 (by decide) ?_
  refine wg_iload_n X 0 dX8_init_142 rfl rfl ?_
  refine wg_ldcS X 0 (by decide) rfl rfl dX8_init_143 ?_
  obtain ⟨r394, h393, h⟩ := bd_some h
  refine wg_callKi (As := []) (rest := [.int (8 : Int32)]) X (c_J0_length_8abf5 l E ad306 S313  C392 M 0 (by decide) h393) T_yJ0_length_8abf5 k_283 (by decide) dX8_init_145 rfl rfl (Nat.le_of_ble_eq_true rfl) ⟨Nat.le_of_ble_eq_true rfl, Nat.le_of_ble_eq_true rfl⟩ ⟨Nat.le_of_ble_eq_true rfl, (Nat.le_of_ble_eq_true rfl)⟩ ?_
  obtain ⟨z395, h⟩ := ck_some h
  rw [z395]
  refine wg_icmp_ge X 171 dX8_init_148 (by decide) (fun c396 => absurd c396 (by decide)) (fun c396 => ?_)
  refine wg_aload_n X 1 dX8_init_151 rfl rfl ?_
  refine wg_getR (b := 23) X cl8 z321 3 (by decide) dX8_init_152 k_475 rfl z322 ?_
  refine wg_ldcS X 0 (by decide) rfl rfl dX8_init_155 ?_
  refine wg_iload_n X 0 dX8_init_157 rfl rfl ?_
  obtain ⟨r398, h397, h⟩ := bd_some h
  refine wg_callKi (As := [.int (8 : Int32)]) (rest := [.ref (ad306 23)]) X (c_J0_charAt_5068e l E ad306 S313  C392 M 0 (8 : Int32) (by decide) h397) T_yJ0_charAt_5068e k_293 (by decide) dX8_init_158 rfl rfl (Nat.le_of_ble_eq_true rfl) ⟨Nat.le_of_ble_eq_true rfl, Nat.le_of_ble_eq_true rfl⟩ ⟨Nat.le_of_ble_eq_true rfl, (Nat.le_of_ble_eq_true rfl)⟩ ?_
  obtain ⟨r400, C401, h399, h⟩ := bd2_some h
  refine wg_callVi (As := [.int r398]) (rest := []) X (c_X5_put l E ad306 S313 (wg_SCb_iff.mp z325) C392 M r398  h399) T_yX5_put k_331 cl5 z329 dX8_init_161 rfl rfl (Nat.le_of_ble_eq_true rfl) ⟨Nat.le_of_ble_eq_true rfl, Nat.le_of_ble_eq_true rfl⟩ ⟨Nat.le_of_ble_eq_true rfl, (Nat.le_of_ble_eq_true rfl)⟩ ?_
  refine wg_pop X dX8_init_164 rfl ?_
  refine wg_iinc (lv' := [(1, .int (9 : Int32)), (0, .ref (ad306 0))]) X 0 dX8_init_165 rfl (by decide) (by decide) rfl ?_
  refine wg_goto X 142 dX8_init_168 (by decide) ?_
  refine wg_iload_n X 0 dX8_init_142 rfl rfl ?_
  refine wg_ldcS X 0 (by decide) rfl rfl dX8_init_143 ?_
  obtain ⟨r403, h402, h⟩ := bd_some h
  refine wg_callKi (As := []) (rest := [.int (9 : Int32)]) X (c_J0_length_8abf5 l E ad306 S313  C401 M 0 (by decide) h402) T_yJ0_length_8abf5 k_283 (by decide) dX8_init_145 rfl rfl (Nat.le_of_ble_eq_true rfl) ⟨Nat.le_of_ble_eq_true rfl, Nat.le_of_ble_eq_true rfl⟩ ⟨Nat.le_of_ble_eq_true rfl, (Nat.le_of_ble_eq_true rfl)⟩ ?_
  obtain ⟨z404, h⟩ := ck_some h
  rw [z404]
  refine wg_icmp_ge X 171 dX8_init_148 (by decide) (fun c405 => absurd c405 (by decide)) (fun c405 => ?_)
  refine wg_aload_n X 1 dX8_init_151 rfl rfl ?_
  refine wg_getR (b := 23) X cl8 z321 3 (by decide) dX8_init_152 k_475 rfl z322 ?_
  refine wg_ldcS X 0 (by decide) rfl rfl dX8_init_155 ?_
  refine wg_iload_n X 0 dX8_init_157 rfl rfl ?_
  obtain ⟨r407, h406, h⟩ := bd_some h
  refine wg_callKi (As := [.int (9 : Int32)]) (rest := [.ref (ad306 23)]) X (c_J0_charAt_5068e l E ad306 S313  C401 M 0 (9 : Int32) (by decide) h406) T_yJ0_charAt_5068e k_293 (by decide) dX8_init_158 rfl rfl (Nat.le_of_ble_eq_true rfl) ⟨Nat.le_of_ble_eq_true rfl, Nat.le_of_ble_eq_true rfl⟩ ⟨Nat.le_of_ble_eq_true rfl, (Nat.le_of_ble_eq_true rfl)⟩ ?_
  obtain ⟨r409, C410, h408, h⟩ := bd2_some h
  refine wg_callVi (As := [.int r407]) (rest := []) X (c_X5_put l E ad306 S313 (wg_SCb_iff.mp z325) C401 M r407  h408) T_yX5_put k_331 cl5 z329 dX8_init_161 rfl rfl (Nat.le_of_ble_eq_true rfl) ⟨Nat.le_of_ble_eq_true rfl, Nat.le_of_ble_eq_true rfl⟩ ⟨Nat.le_of_ble_eq_true rfl, (Nat.le_of_ble_eq_true rfl)⟩ ?_
  refine wg_pop X dX8_init_164 rfl ?_
  refine wg_iinc (lv' := [(1, .int (10 : Int32)), (0, .ref (ad306 0))]) X 0 dX8_init_165 rfl (by decide) (by decide) rfl ?_
  refine wg_goto X 142 dX8_init_168 (by decide) ?_
  refine wg_iload_n X 0 dX8_init_142 rfl rfl ?_
  refine wg_ldcS X 0 (by decide) rfl rfl dX8_init_143 ?_
  obtain ⟨r412, h411, h⟩ := bd_some h
  refine wg_callKi (As := []) (rest := [.int (10 : Int32)]) X (c_J0_length_8abf5 l E ad306 S313  C410 M 0 (by decide) h411) T_yJ0_length_8abf5 k_283 (by decide) dX8_init_145 rfl rfl (Nat.le_of_ble_eq_true rfl) ⟨Nat.le_of_ble_eq_true rfl, Nat.le_of_ble_eq_true rfl⟩ ⟨Nat.le_of_ble_eq_true rfl, (Nat.le_of_ble_eq_true rfl)⟩ ?_
  obtain ⟨z413, h⟩ := ck_some h
  rw [z413]
  refine wg_icmp_ge X 171 dX8_init_148 (by decide) (fun c414 => absurd c414 (by decide)) (fun c414 => ?_)
  refine wg_aload_n X 1 dX8_init_151 rfl rfl ?_
  refine wg_getR (b := 23) X cl8 z321 3 (by decide) dX8_init_152 k_475 rfl z322 ?_
  refine wg_ldcS X 0 (by decide) rfl rfl dX8_init_155 ?_
  refine wg_iload_n X 0 dX8_init_157 rfl rfl ?_
  obtain ⟨r416, h415, h⟩ := bd_some h
  refine wg_callKi (As := [.int (10 : Int32)]) (rest := [.ref (ad306 23)]) X (c_J0_charAt_5068e l E ad306 S313  C410 M 0 (10 : Int32) (by decide) h415) T_yJ0_charAt_5068e k_293 (by decide) dX8_init_158 rfl rfl (Nat.le_of_ble_eq_true rfl) ⟨Nat.le_of_ble_eq_true rfl, Nat.le_of_ble_eq_true rfl⟩ ⟨Nat.le_of_ble_eq_true rfl, (Nat.le_of_ble_eq_true rfl)⟩ ?_
  obtain ⟨r418, C419, h417, h⟩ := bd2_some h
  refine wg_callVi (As := [.int r416]) (rest := []) X (c_X5_put l E ad306 S313 (wg_SCb_iff.mp z325) C410 M r416  h417) T_yX5_put k_331 cl5 z329 dX8_init_161 rfl rfl (Nat.le_of_ble_eq_true rfl) ⟨Nat.le_of_ble_eq_true rfl, Nat.le_of_ble_eq_true rfl⟩ ⟨Nat.le_of_ble_eq_true rfl, (Nat.le_of_ble_eq_true rfl)⟩ ?_
  refine wg_pop X dX8_init_164 rfl ?_
  refine wg_iinc (lv' := [(1, .int (11 : Int32)), (0, .ref (ad306 0))]) X 0 dX8_init_165 rfl (by decide) (by decide) rfl ?_
  refine wg_goto X 142 dX8_init_168 (by decide) ?_
  refine wg_iload_n X 0 dX8_init_142 rfl rfl ?_
  refine wg_ldcS X 0 (by decide) rfl rfl dX8_init_143 ?_
  obtain ⟨r421, h420, h⟩ := bd_some h
  refine wg_callKi (As := []) (rest := [.int (11 : Int32)]) X (c_J0_length_8abf5 l E ad306 S313  C419 M 0 (by decide) h420) T_yJ0_length_8abf5 k_283 (by decide) dX8_init_145 rfl rfl (Nat.le_of_ble_eq_true rfl) ⟨Nat.le_of_ble_eq_true rfl, Nat.le_of_ble_eq_true rfl⟩ ⟨Nat.le_of_ble_eq_true rfl, (Nat.le_of_ble_eq_true rfl)⟩ ?_
  obtain ⟨z422, h⟩ := ck_some h
  rw [z422]
  refine wg_icmp_ge X 171 dX8_init_148 (by decide) (fun c423 => absurd c423 (by decide)) (fun c423 => ?_)
  refine wg_aload_n X 1 dX8_init_151 rfl rfl ?_
  refine wg_getR (b := 23) X cl8 z321 3 (by decide) dX8_init_152 k_475 rfl z322 ?_
  refine wg_ldcS X 0 (by decide) rfl rfl dX8_init_155 ?_
  refine wg_iload_n X 0 dX8_init_157 rfl rfl ?_
  obtain ⟨r425, h424, h⟩ := bd_some h
  refine wg_callKi (As := [.int (11 : Int32)]) (rest := [.ref (ad306 23)]) X (c_J0_charAt_5068e l E ad306 S313  C419 M 0 (11 : Int32) (by decide) h424) T_yJ0_charAt_5068e k_293 (by decide) dX8_init_158 rfl rfl (Nat.le_of_ble_eq_true rfl) ⟨Nat.le_of_ble_eq_true rfl, Nat.le_of_ble_eq_true rfl⟩ ⟨Nat.le_of_ble_eq_true rfl, (Nat.le_of_ble_eq_true rfl)⟩ ?_
  obtain ⟨r427, C428, h426, h⟩ := bd2_some h
  refine wg_callVi (As := [.int r425]) (rest := []) X (c_X5_put l E ad306 S313 (wg_SCb_iff.mp z325) C419 M r425  h426) T_yX5_put k_331 cl5 z329 dX8_init_161 rfl rfl (Nat.le_of_ble_eq_true rfl) ⟨Nat.le_of_ble_eq_true rfl, Nat.le_of_ble_eq_true rfl⟩ ⟨Nat.le_of_ble_eq_true rfl, (Nat.le_of_ble_eq_true rfl)⟩ ?_
  refine wg_pop X dX8_init_164 rfl ?_
  refine wg_iinc (lv' := [(1, .int (12 : Int32)), (0, .ref (ad306 0))]) X 0 dX8_init_165 rfl (by decide) (by decide) rfl ?_
  refine wg_goto X 142 dX8_init_168 (by decide) ?_
  refine wg_iload_n X 0 dX8_init_142 rfl rfl ?_
  refine wg_ldcS X 0 (by decide) rfl rfl dX8_init_143 ?_
  obtain ⟨r430, h429, h⟩ := bd_some h
  refine wg_callKi (As := []) (rest := [.int (12 : Int32)]) X (c_J0_length_8abf5 l E ad306 S313  C428 M 0 (by decide) h429) T_yJ0_length_8abf5 k_283 (by decide) dX8_init_145 rfl rfl (Nat.le_of_ble_eq_true rfl) ⟨Nat.le_of_ble_eq_true rfl, Nat.le_of_ble_eq_true rfl⟩ ⟨Nat.le_of_ble_eq_true rfl, (Nat.le_of_ble_eq_true rfl)⟩ ?_
  obtain ⟨z431, h⟩ := ck_some h
  rw [z431]
  refine wg_icmp_ge X 171 dX8_init_148 (by decide) (fun c432 => absurd c432 (by decide)) (fun c432 => ?_)
  refine wg_aload_n X 1 dX8_init_151 rfl rfl ?_
  refine wg_getR (b := 23) X cl8 z321 3 (by decide) dX8_init_152 k_475 rfl z322 ?_
  refine wg_ldcS X 0 (by decide) rfl rfl dX8_init_155 ?_
  refine wg_iload_n X 0 dX8_init_157 rfl rfl ?_
  obtain ⟨r434, h433, h⟩ := bd_some h
  refine wg_callKi (As := [.int (12 : Int32)]) (rest := [.ref (ad306 23)]) X (c_J0_charAt_5068e l E ad306 S313  C428 M 0 (12 : Int32) (by decide) h433) T_yJ0_charAt_5068e k_293 (by decide) dX8_init_158 rfl rfl (Nat.le_of_ble_eq_true rfl) ⟨Nat.le_of_ble_eq_true rfl, Nat.le_of_ble_eq_true rfl⟩ ⟨Nat.le_of_ble_eq_true rfl, (Nat.le_of_ble_eq_true rfl)⟩ ?_
  obtain ⟨r436, C437, h435, h⟩ := bd2_some h
  refine wg_callVi (As := [.int r434]) (rest := []) X (c_X5_put l E ad306 S313 (wg_SCb_iff.mp z325) C428 M r434  h435) T_yX5_put k_331 cl5 z329 dX8_init_161 rfl rfl (Nat.le_of_ble_eq_true rfl) ⟨Nat.le_of_ble_eq_true rfl, Nat.le_of_ble_eq_true rfl⟩ ⟨Nat.le_of_ble_eq_true rfl, (Nat.le_of_ble_eq_true rfl)⟩ ?_
  refine wg_pop X dX8_init_164 rfl ?_
  refine wg_iinc (lv' := [(1, .int (13 : Int32)), (0, .ref (ad306 0))]) X 0 dX8_init_165 rfl (by decide) (by decide) rfl ?_
  refine wg_goto X 142 dX8_init_168 (by decide) ?_
  refine wg_iload_n X 0 dX8_init_142 rfl rfl ?_
  refine wg_ldcS X 0 (by decide) rfl rfl dX8_init_143 ?_
  obtain ⟨r439, h438, h⟩ := bd_some h
  refine wg_callKi (As := []) (rest := [.int (13 : Int32)]) X (c_J0_length_8abf5 l E ad306 S313  C437 M 0 (by decide) h438) T_yJ0_length_8abf5 k_283 (by decide) dX8_init_145 rfl rfl (Nat.le_of_ble_eq_true rfl) ⟨Nat.le_of_ble_eq_true rfl, Nat.le_of_ble_eq_true rfl⟩ ⟨Nat.le_of_ble_eq_true rfl, (Nat.le_of_ble_eq_true rfl)⟩ ?_
  obtain ⟨z440, h⟩ := ck_some h
  rw [z440]
  refine wg_icmp_ge X 171 dX8_init_148 (by decide) (fun c441 => absurd c441 (by decide)) (fun c441 => ?_)
  refine wg_aload_n X 1 dX8_init_151 rfl rfl ?_
  refine wg_getR (b := 23) X cl8 z321 3 (by decide) dX8_init_152 k_475 rfl z322 ?_
  refine wg_ldcS X 0 (by decide) rfl rfl dX8_init_155 ?_
  refine wg_iload_n X 0 dX8_init_157 rfl rfl ?_
  obtain ⟨r443, h442, h⟩ := bd_some h
  refine wg_callKi (As := [.int (13 : Int32)]) (rest := [.ref (ad306 23)]) X (c_J0_charAt_5068e l E ad306 S313  C437 M 0 (13 : Int32) (by decide) h442) T_yJ0_charAt_5068e k_293 (by decide) dX8_init_158 rfl rfl (Nat.le_of_ble_eq_true rfl) ⟨Nat.le_of_ble_eq_true rfl, Nat.le_of_ble_eq_true rfl⟩ ⟨Nat.le_of_ble_eq_true rfl, (Nat.le_of_ble_eq_true rfl)⟩ ?_
  obtain ⟨r445, C446, h444, h⟩ := bd2_some h
  refine wg_callVi (As := [.int r443]) (rest := []) X (c_X5_put l E ad306 S313 (wg_SCb_iff.mp z325) C437 M r443  h444) T_yX5_put k_331 cl5 z329 dX8_init_161 rfl rfl (Nat.le_of_ble_eq_true rfl) ⟨Nat.le_of_ble_eq_true rfl, Nat.le_of_ble_eq_true rfl⟩ ⟨Nat.le_of_ble_eq_true rfl, (Nat.le_of_ble_eq_true rfl)⟩ ?_
  refine wg_pop X dX8_init_164 rfl ?_
  refine wg_iinc (lv' := [(1, .int (14 : Int32)), (0, .ref (ad306 0))]) X 0 dX8_init_165 rfl (by decide) (by decide) rfl ?_
  refine wg_goto X 142 dX8_init_168 (by decide) ?_
  refine wg_iload_n X 0 dX8_init_142 rfl rfl ?_
  refine wg_ldcS X 0 (by decide) rfl rfl dX8_init_143 ?_
  obtain ⟨r448, h447, h⟩ := bd_some h
  refine wg_callKi (As := []) (rest := [.int (14 : Int32)]) X (c_J0_length_8abf5 l E ad306 S313  C446 M 0 (by decide) h447) T_yJ0_length_8abf5 k_283 (by decide) dX8_init_145 rfl rfl (Nat.le_of_ble_eq_true rfl) ⟨Nat.le_of_ble_eq_true rfl, Nat.le_of_ble_eq_true rfl⟩ ⟨Nat.le_of_ble_eq_true rfl, (Nat.le_of_ble_eq_true rfl)⟩ ?_
  obtain ⟨z449, h⟩ := ck_some h
  rw [z449]
  refine wg_icmp_ge X 171 dX8_init_148 (by decide) (fun c450 => absurd c450 (by decide)) (fun c450 => ?_)
  refine wg_aload_n X 1 dX8_init_151 rfl rfl ?_
  refine wg_getR (b := 23) X cl8 z321 3 (by decide) dX8_init_152 k_475 rfl z322 ?_
  refine wg_ldcS X 0 (by decide) rfl rfl dX8_init_155 ?_
  refine wg_iload_n X 0 dX8_init_157 rfl rfl ?_
  obtain ⟨r452, h451, h⟩ := bd_some h
  refine wg_callKi (As := [.int (14 : Int32)]) (rest := [.ref (ad306 23)]) X (c_J0_charAt_5068e l E ad306 S313  C446 M 0 (14 : Int32) (by decide) h451) T_yJ0_charAt_5068e k_293 (by decide) dX8_init_158 rfl rfl (Nat.le_of_ble_eq_true rfl) ⟨Nat.le_of_ble_eq_true rfl, Nat.le_of_ble_eq_true rfl⟩ ⟨Nat.le_of_ble_eq_true rfl, (Nat.le_of_ble_eq_true rfl)⟩ ?_
  obtain ⟨r454, C455, h453, h⟩ := bd2_some h
  refine wg_callVi (As := [.int r452]) (rest := []) X (c_X5_put l E ad306 S313 (wg_SCb_iff.mp z325) C446 M r452  h453) T_yX5_put k_331 cl5 z329 dX8_init_161 rfl rfl (Nat.le_of_ble_eq_true rfl) ⟨Nat.le_of_ble_eq_true rfl, Nat.le_of_ble_eq_true rfl⟩ ⟨Nat.le_of_ble_eq_true rfl, (Nat.le_of_ble_eq_true rfl)⟩ ?_
  refine wg_pop X dX8_init_164 rfl ?_
  refine wg_iinc (lv' := [(1, .int (15 : Int32)), (0, .ref (ad306 0))]) X 0 dX8_init_165 rfl (by decide) (by decide) rfl ?_
  refine wg_goto X 142 dX8_init_168 (by decide) ?_
  refine wg_iload_n X 0 dX8_init_142 rfl rfl ?_
  refine wg_ldcS X 0 (by decide) rfl rfl dX8_init_143 ?_
  obtain ⟨r457, h456, h⟩ := bd_some h
  refine wg_callKi (As := []) (rest := [.int (15 : Int32)]) X (c_J0_length_8abf5 l E ad306 S313  C455 M 0 (by decide) h456) T_yJ0_length_8abf5 k_283 (by decide) dX8_init_145 rfl rfl (Nat.le_of_ble_eq_true rfl) ⟨Nat.le_of_ble_eq_true rfl, Nat.le_of_ble_eq_true rfl⟩ ⟨Nat.le_of_ble_eq_true rfl, (Nat.le_of_ble_eq_true rfl)⟩ ?_
  obtain ⟨z458, h⟩ := ck_some h
  rw [z458]
  refine wg_icmp_ge X 171 dX8_init_148 (by decide) (fun c459 => absurd c459 (by decide)) (fun c459 => ?_)
  refine wg_aload_n X 1 dX8_init_151 rfl rfl ?_
  refine wg_getR (b := 23) X cl8 z321 3 (by decide) dX8_init_152 k_475 rfl z322 ?_
  refine wg_ldcS X 0 (by decide) rfl rfl dX8_init_155 ?_
  refine wg_iload_n X 0 dX8_init_157 rfl rfl ?_
  obtain ⟨r461, h460, h⟩ := bd_some h
  refine wg_callKi (As := [.int (15 : Int32)]) (rest := [.ref (ad306 23)]) X (c_J0_charAt_5068e l E ad306 S313  C455 M 0 (15 : Int32) (by decide) h460) T_yJ0_charAt_5068e k_293 (by decide) dX8_init_158 rfl rfl (Nat.le_of_ble_eq_true rfl) ⟨Nat.le_of_ble_eq_true rfl, Nat.le_of_ble_eq_true rfl⟩ ⟨Nat.le_of_ble_eq_true rfl, (Nat.le_of_ble_eq_true rfl)⟩ ?_
  obtain ⟨r463, C464, h462, h⟩ := bd2_some h
  refine wg_callVi (As := [.int r461]) (rest := []) X (c_X5_put l E ad306 S313 (wg_SCb_iff.mp z325) C455 M r461  h462) T_yX5_put k_331 cl5 z329 dX8_init_161 rfl rfl (Nat.le_of_ble_eq_true rfl) ⟨Nat.le_of_ble_eq_true rfl, Nat.le_of_ble_eq_true rfl⟩ ⟨Nat.le_of_ble_eq_true rfl, (Nat.le_of_ble_eq_true rfl)⟩ ?_
  refine wg_pop X dX8_init_164 rfl ?_
  refine wg_iinc (lv' := [(1, .int (16 : Int32)), (0, .ref (ad306 0))]) X 0 dX8_init_165 rfl (by decide) (by decide) rfl ?_
  refine wg_goto X 142 dX8_init_168 (by decide) ?_
  refine wg_iload_n X 0 dX8_init_142 rfl rfl ?_
  refine wg_ldcS X 0 (by decide) rfl rfl dX8_init_143 ?_
  obtain ⟨r466, h465, h⟩ := bd_some h
  refine wg_callKi (As := []) (rest := [.int (16 : Int32)]) X (c_J0_length_8abf5 l E ad306 S313  C464 M 0 (by decide) h465) T_yJ0_length_8abf5 k_283 (by decide) dX8_init_145 rfl rfl (Nat.le_of_ble_eq_true rfl) ⟨Nat.le_of_ble_eq_true rfl, Nat.le_of_ble_eq_true rfl⟩ ⟨Nat.le_of_ble_eq_true rfl, (Nat.le_of_ble_eq_true rfl)⟩ ?_
  obtain ⟨z467, h⟩ := ck_some h
  rw [z467]
  refine wg_icmp_ge X 171 dX8_init_148 (by decide) (fun c468 => absurd c468 (by decide)) (fun c468 => ?_)
  refine wg_aload_n X 1 dX8_init_151 rfl rfl ?_
  refine wg_getR (b := 23) X cl8 z321 3 (by decide) dX8_init_152 k_475 rfl z322 ?_
  refine wg_ldcS X 0 (by decide) rfl rfl dX8_init_155 ?_
  refine wg_iload_n X 0 dX8_init_157 rfl rfl ?_
  obtain ⟨r470, h469, h⟩ := bd_some h
  refine wg_callKi (As := [.int (16 : Int32)]) (rest := [.ref (ad306 23)]) X (c_J0_charAt_5068e l E ad306 S313  C464 M 0 (16 : Int32) (by decide) h469) T_yJ0_charAt_5068e k_293 (by decide) dX8_init_158 rfl rfl (Nat.le_of_ble_eq_true rfl) ⟨Nat.le_of_ble_eq_true rfl, Nat.le_of_ble_eq_true rfl⟩ ⟨Nat.le_of_ble_eq_true rfl, (Nat.le_of_ble_eq_true rfl)⟩ ?_
  obtain ⟨r472, C473, h471, h⟩ := bd2_some h
  refine wg_callVi (As := [.int r470]) (rest := []) X (c_X5_put l E ad306 S313 (wg_SCb_iff.mp z325) C464 M r470  h471) T_yX5_put k_331 cl5 z329 dX8_init_161 rfl rfl (Nat.le_of_ble_eq_true rfl) ⟨Nat.le_of_ble_eq_true rfl, Nat.le_of_ble_eq_true rfl⟩ ⟨Nat.le_of_ble_eq_true rfl, (Nat.le_of_ble_eq_true rfl)⟩ ?_
  refine wg_pop X dX8_init_164 rfl ?_
  refine wg_iinc (lv' := [(1, .int (17 : Int32)), (0, .ref (ad306 0))]) X 0 dX8_init_165 rfl (by decide) (by decide) rfl ?_
  refine wg_goto X 142 dX8_init_168 (by decide) ?_
  refine wg_iload_n X 0 dX8_init_142 rfl rfl ?_
  refine wg_ldcS X 0 (by decide) rfl rfl dX8_init_143 ?_
  obtain ⟨r475, h474, h⟩ := bd_some h
  refine wg_callKi (As := []) (rest := [.int (17 : Int32)]) X (c_J0_length_8abf5 l E ad306 S313  C473 M 0 (by decide) h474) T_yJ0_length_8abf5 k_283 (by decide) dX8_init_145 rfl rfl (Nat.le_of_ble_eq_true rfl) ⟨Nat.le_of_ble_eq_true rfl, Nat.le_of_ble_eq_true rfl⟩ ⟨Nat.le_of_ble_eq_true rfl, (Nat.le_of_ble_eq_true rfl)⟩ ?_
  obtain ⟨z476, h⟩ := ck_some h
  rw [z476]
  refine wg_icmp_ge X 171 dX8_init_148 (by decide) (fun c477 => absurd c477 (by decide)) (fun c477 => ?_)
  refine wg_aload_n X 1 dX8_init_151 rfl rfl ?_
  refine wg_getR (b := 23) X cl8 z321 3 (by decide) dX8_init_152 k_475 rfl z322 ?_
  refine wg_ldcS X 0 (by decide) rfl rfl dX8_init_155 ?_
  refine wg_iload_n X 0 dX8_init_157 rfl rfl ?_
  obtain ⟨r479, h478, h⟩ := bd_some h
  refine wg_callKi (As := [.int (17 : Int32)]) (rest := [.ref (ad306 23)]) X (c_J0_charAt_5068e l E ad306 S313  C473 M 0 (17 : Int32) (by decide) h478) T_yJ0_charAt_5068e k_293 (by decide) dX8_init_158 rfl rfl (Nat.le_of_ble_eq_true rfl) ⟨Nat.le_of_ble_eq_true rfl, Nat.le_of_ble_eq_true rfl⟩ ⟨Nat.le_of_ble_eq_true rfl, (Nat.le_of_ble_eq_true rfl)⟩ ?_
  obtain ⟨r481, C482, h480, h⟩ := bd2_some h
  refine wg_callVi (As := [.int r479]) (rest := []) X (c_X5_put l E ad306 S313 (wg_SCb_iff.mp z325) C473 M r479  h480) T_yX5_put k_331 cl5 z329 dX8_init_161 rfl rfl (Nat.le_of_ble_eq_true rfl) ⟨Nat.le_of_ble_eq_true rfl, Nat.le_of_ble_eq_true rfl⟩ ⟨Nat.le_of_ble_eq_true rfl, (Nat.le_of_ble_eq_true rfl)⟩ ?_
  refine wg_pop X dX8_init_164 rfl ?_
  refine wg_iinc (lv' := [(1, .int (18 : Int32)), (0, .ref (ad306 0))]) X 0 dX8_init_165 rfl (by decide) (by decide) rfl ?_
  refine wg_goto X 142 dX8_init_168 (by decide) ?_
  refine wg_iload_n X 0 dX8_init_142 rfl rfl ?_
  refine wg_ldcS X 0 (by decide) rfl rfl dX8_init_143 ?_
  obtain ⟨r484, h483, h⟩ := bd_some h
  refine wg_callKi (As := []) (rest := [.int (18 : Int32)]) X (c_J0_length_8abf5 l E ad306 S313  C482 M 0 (by decide) h483) T_yJ0_length_8abf5 k_283 (by decide) dX8_init_145 rfl rfl (Nat.le_of_ble_eq_true rfl) ⟨Nat.le_of_ble_eq_true rfl, Nat.le_of_ble_eq_true rfl⟩ ⟨Nat.le_of_ble_eq_true rfl, (Nat.le_of_ble_eq_true rfl)⟩ ?_
  obtain ⟨z485, h⟩ := ck_some h
  rw [z485]
  refine wg_icmp_ge X 171 dX8_init_148 (by decide) (fun c486 => absurd c486 (by decide)) (fun c486 => ?_)
  refine wg_aload_n X 1 dX8_init_151 rfl rfl ?_
  refine wg_getR (b := 23) X cl8 z321 3 (by decide) dX8_init_152 k_475 rfl z322 ?_
  refine wg_ldcS X 0 (by decide) rfl rfl dX8_init_155 ?_
  refine wg_iload_n X 0 dX8_init_157 rfl rfl ?_
  obtain ⟨r488, h487, h⟩ := bd_some h
  refine wg_callKi (As := [.int (18 : Int32)]) (rest := [.ref (ad306 23)]) X (c_J0_charAt_5068e l E ad306 S313  C482 M 0 (18 : Int32) (by decide) h487) T_yJ0_charAt_5068e k_293 (by decide) dX8_init_158 rfl rfl (Nat.le_of_ble_eq_true rfl) ⟨Nat.le_of_ble_eq_true rfl, Nat.le_of_ble_eq_true rfl⟩ ⟨Nat.le_of_ble_eq_true rfl, (Nat.le_of_ble_eq_true rfl)⟩ ?_
  obtain ⟨r490, C491, h489, h⟩ := bd2_some h
  refine wg_callVi (As := [.int r488]) (rest := []) X (c_X5_put l E ad306 S313 (wg_SCb_iff.mp z325) C482 M r488  h489) T_yX5_put k_331 cl5 z329 dX8_init_161 rfl rfl (Nat.le_of_ble_eq_true rfl) ⟨Nat.le_of_ble_eq_true rfl, Nat.le_of_ble_eq_true rfl⟩ ⟨Nat.le_of_ble_eq_true rfl, (Nat.le_of_ble_eq_true rfl)⟩ ?_
  refine wg_pop X dX8_init_164 rfl ?_
  refine wg_iinc (lv' := [(1, .int (19 : Int32)), (0, .ref (ad306 0))]) X 0 dX8_init_165 rfl (by decide) (by decide) rfl ?_
  refine wg_goto X 142 dX8_init_168 (by decide) ?_
  refine wg_iload_n X 0 dX8_init_142 rfl rfl ?_
  refine wg_ldcS X 0 (by decide) rfl rfl dX8_init_143 ?_
  obtain ⟨r493, h492, h⟩ := bd_some h
  refine wg_callKi (As := []) (rest := [.int (19 : Int32)]) X (c_J0_length_8abf5 l E ad306 S313  C491 M 0 (by decide) h492) T_yJ0_length_8abf5 k_283 (by decide) dX8_init_145 rfl rfl (Nat.le_of_ble_eq_true rfl) ⟨Nat.le_of_ble_eq_true rfl, Nat.le_of_ble_eq_true rfl⟩ ⟨Nat.le_of_ble_eq_true rfl, (Nat.le_of_ble_eq_true rfl)⟩ ?_
  obtain ⟨z494, h⟩ := ck_some h
  rw [z494]
  refine wg_icmp_ge X 171 dX8_init_148 (by decide) (fun c495 => absurd c495 (by decide)) (fun c495 => ?_)
  refine wg_aload_n X 1 dX8_init_151 rfl rfl ?_
  refine wg_getR (b := 23) X cl8 z321 3 (by decide) dX8_init_152 k_475 rfl z322 ?_
  refine wg_ldcS X 0 (by decide) rfl rfl dX8_init_155 ?_
  refine wg_iload_n X 0 dX8_init_157 rfl rfl ?_
  obtain ⟨r497, h496, h⟩ := bd_some h
  refine wg_callKi (As := [.int (19 : Int32)]) (rest := [.ref (ad306 23)]) X (c_J0_charAt_5068e l E ad306 S313  C491 M 0 (19 : Int32) (by decide) h496) T_yJ0_charAt_5068e k_293 (by decide) dX8_init_158 rfl rfl (Nat.le_of_ble_eq_true rfl) ⟨Nat.le_of_ble_eq_true rfl, Nat.le_of_ble_eq_true rfl⟩ ⟨Nat.le_of_ble_eq_true rfl, (Nat.le_of_ble_eq_true rfl)⟩ ?_
  obtain ⟨r499, C500, h498, h⟩ := bd2_some h
  refine wg_callVi (As := [.int r497]) (rest := []) X (c_X5_put l E ad306 S313 (wg_SCb_iff.mp z325) C491 M r497  h498) T_yX5_put k_331 cl5 z329 dX8_init_161 rfl rfl (Nat.le_of_ble_eq_true rfl) ⟨Nat.le_of_ble_eq_true rfl, Nat.le_of_ble_eq_true rfl⟩ ⟨Nat.le_of_ble_eq_true rfl, (Nat.le_of_ble_eq_true rfl)⟩ ?_
  refine wg_pop X dX8_init_164 rfl ?_
  refine wg_iinc (lv' := [(1, .int (20 : Int32)), (0, .ref (ad306 0))]) X 0 dX8_init_165 rfl (by decide) (by decide) rfl ?_
  refine wg_goto X 142 dX8_init_168 (by decide) ?_
  refine wg_iload_n X 0 dX8_init_142 rfl rfl ?_
  refine wg_ldcS X 0 (by decide) rfl rfl dX8_init_143 ?_
  obtain ⟨r502, h501, h⟩ := bd_some h
  refine wg_callKi (As := []) (rest := [.int (20 : Int32)]) X (c_J0_length_8abf5 l E ad306 S313  C500 M 0 (by decide) h501) T_yJ0_length_8abf5 k_283 (by decide) dX8_init_145 rfl rfl (Nat.le_of_ble_eq_true rfl) ⟨Nat.le_of_ble_eq_true rfl, Nat.le_of_ble_eq_true rfl⟩ ⟨Nat.le_of_ble_eq_true rfl, (Nat.le_of_ble_eq_true rfl)⟩ ?_
  obtain ⟨z503, h⟩ := ck_some h
  rw [z503]
  refine wg_icmp_ge X 171 dX8_init_148 (by decide) (fun c504 => absurd c504 (by decide)) (fun c504 => ?_)
  refine wg_aload_n X 1 dX8_init_151 rfl rfl ?_
  refine wg_getR (b := 23) X cl8 z321 3 (by decide) dX8_init_152 k_475 rfl z322 ?_
  refine wg_ldcS X 0 (by decide) rfl rfl dX8_init_155 ?_
  refine wg_iload_n X 0 dX8_init_157 rfl rfl ?_
  obtain ⟨r506, h505, h⟩ := bd_some h
  refine wg_callKi (As := [.int (20 : Int32)]) (rest := [.ref (ad306 23)]) X (c_J0_charAt_5068e l E ad306 S313  C500 M 0 (20 : Int32) (by decide) h505) T_yJ0_charAt_5068e k_293 (by decide) dX8_init_158 rfl rfl (Nat.le_of_ble_eq_true rfl) ⟨Nat.le_of_ble_eq_true rfl, Nat.le_of_ble_eq_true rfl⟩ ⟨Nat.le_of_ble_eq_true rfl, (Nat.le_of_ble_eq_true rfl)⟩ ?_
  obtain ⟨r508, C509, h507, h⟩ := bd2_some h
  refine wg_callVi (As := [.int r506]) (rest := []) X (c_X5_put l E ad306 S313 (wg_SCb_iff.mp z325) C500 M r506  h507) T_yX5_put k_331 cl5 z329 dX8_init_161 rfl rfl (Nat.le_of_ble_eq_true rfl) ⟨Nat.le_of_ble_eq_true rfl, Nat.le_of_ble_eq_true rfl⟩ ⟨Nat.le_of_ble_eq_true rfl, (Nat.le_of_ble_eq_true rfl)⟩ ?_
  refine wg_pop X dX8_init_164 rfl ?_
  refine wg_iinc (lv' := [(1, .int (21 : Int32)), (0, .ref (ad306 0))]) X 0 dX8_init_165 rfl (by decide) (by decide) rfl ?_
  refine wg_goto X 142 dX8_init_168 (by decide) ?_
  refine wg_iload_n X 0 dX8_init_142 rfl rfl ?_
  refine wg_ldcS X 0 (by decide) rfl rfl dX8_init_143 ?_
  obtain ⟨r511, h510, h⟩ := bd_some h
  refine wg_callKi (As := []) (rest := [.int (21 : Int32)]) X (c_J0_length_8abf5 l E ad306 S313  C509 M 0 (by decide) h510) T_yJ0_length_8abf5 k_283 (by decide) dX8_init_145 rfl rfl (Nat.le_of_ble_eq_true rfl) ⟨Nat.le_of_ble_eq_true rfl, Nat.le_of_ble_eq_true rfl⟩ ⟨Nat.le_of_ble_eq_true rfl, (Nat.le_of_ble_eq_true rfl)⟩ ?_
  obtain ⟨z512, h⟩ := ck_some h
  rw [z512]
  refine wg_icmp_ge X 171 dX8_init_148 (by decide) (fun c513 => absurd c513 (by decide)) (fun c513 => ?_)
  refine wg_aload_n X 1 dX8_init_151 rfl rfl ?_
  refine wg_getR (b := 23) X cl8 z321 3 (by decide) dX8_init_152 k_475 rfl z322 ?_
  refine wg_ldcS X 0 (by decide) rfl rfl dX8_init_155 ?_
  refine wg_iload_n X 0 dX8_init_157 rfl rfl ?_
  obtain ⟨r515, h514, h⟩ := bd_some h
  refine wg_callKi (As := [.int (21 : Int32)]) (rest := [.ref (ad306 23)]) X (c_J0_charAt_5068e l E ad306 S313  C509 M 0 (21 : Int32) (by decide) h514) T_yJ0_charAt_5068e k_293 (by decide) dX8_init_158 rfl rfl (Nat.le_of_ble_eq_true rfl) ⟨Nat.le_of_ble_eq_true rfl, Nat.le_of_ble_eq_true rfl⟩ ⟨Nat.le_of_ble_eq_true rfl, (Nat.le_of_ble_eq_true rfl)⟩ ?_
  obtain ⟨r517, C518, h516, h⟩ := bd2_some h
  refine wg_callVi (As := [.int r515]) (rest := []) X (c_X5_put l E ad306 S313 (wg_SCb_iff.mp z325) C509 M r515  h516) T_yX5_put k_331 cl5 z329 dX8_init_161 rfl rfl (Nat.le_of_ble_eq_true rfl) ⟨Nat.le_of_ble_eq_true rfl, Nat.le_of_ble_eq_true rfl⟩ ⟨Nat.le_of_ble_eq_true rfl, (Nat.le_of_ble_eq_true rfl)⟩ ?_
  refine wg_pop X dX8_init_164 rfl ?_
  refine wg_iinc (lv' := [(1, .int (22 : Int32)), (0, .ref (ad306 0))]) X 0 dX8_init_165 rfl (by decide) (by decide) rfl ?_
  refine wg_goto X 142 dX8_init_168 (by decide) ?_
  refine wg_iload_n X 0 dX8_init_142 rfl rfl ?_
  refine wg_ldcS X 0 (by decide) rfl rfl dX8_init_143 ?_
  obtain ⟨r520, h519, h⟩ := bd_some h
  refine wg_callKi (As := []) (rest := [.int (22 : Int32)]) X (c_J0_length_8abf5 l E ad306 S313  C518 M 0 (by decide) h519) T_yJ0_length_8abf5 k_283 (by decide) dX8_init_145 rfl rfl (Nat.le_of_ble_eq_true rfl) ⟨Nat.le_of_ble_eq_true rfl, Nat.le_of_ble_eq_true rfl⟩ ⟨Nat.le_of_ble_eq_true rfl, (Nat.le_of_ble_eq_true rfl)⟩ ?_
  obtain ⟨z521, h⟩ := ck_some h
  rw [z521]
  refine wg_icmp_ge X 171 dX8_init_148 (by decide) (fun c522 => absurd c522 (by decide)) (fun c522 => ?_)
  refine wg_aload_n X 1 dX8_init_151 rfl rfl ?_
  refine wg_getR (b := 23) X cl8 z321 3 (by decide) dX8_init_152 k_475 rfl z322 ?_
  refine wg_ldcS X 0 (by decide) rfl rfl dX8_init_155 ?_
  refine wg_iload_n X 0 dX8_init_157 rfl rfl ?_
  obtain ⟨r524, h523, h⟩ := bd_some h
  refine wg_callKi (As := [.int (22 : Int32)]) (rest := [.ref (ad306 23)]) X (c_J0_charAt_5068e l E ad306 S313  C518 M 0 (22 : Int32) (by decide) h523) T_yJ0_charAt_5068e k_293 (by decide) dX8_init_158 rfl rfl (Nat.le_of_ble_eq_true rfl) ⟨Nat.le_of_ble_eq_true rfl, Nat.le_of_ble_eq_true rfl⟩ ⟨Nat.le_of_ble_eq_true rfl, (Nat.le_of_ble_eq_true rfl)⟩ ?_
  obtain ⟨r526, C527, h525, h⟩ := bd2_some h
  refine wg_callVi (As := [.int r524]) (rest := []) X (c_X5_put l E ad306 S313 (wg_SCb_iff.mp z325) C518 M r524  h525) T_yX5_put k_331 cl5 z329 dX8_init_161 rfl rfl (Nat.le_of_ble_eq_true rfl) ⟨Nat.le_of_ble_eq_true rfl, Nat.le_of_ble_eq_true rfl⟩ ⟨Nat.le_of_ble_eq_true rfl, (Nat.le_of_ble_eq_true rfl)⟩ ?_
  refine wg_pop X dX8_init_164 rfl ?_
  refine wg_iinc (lv' := [(1, .int (23 : Int32)), (0, .ref (ad306 0))]) X 0 dX8_init_165 rfl (by decide) (by decide) rfl ?_
  refine wg_goto X 142 dX8_init_168 (by decide) ?_
  refine wg_iload_n X 0 dX8_init_142 rfl rfl ?_
  refine wg_ldcS X 0 (by decide) rfl rfl dX8_init_143 ?_
  obtain ⟨r529, h528, h⟩ := bd_some h
  refine wg_callKi (As := []) (rest := [.int (23 : Int32)]) X (c_J0_length_8abf5 l E ad306 S313  C527 M 0 (by decide) h528) T_yJ0_length_8abf5 k_283 (by decide) dX8_init_145 rfl rfl (Nat.le_of_ble_eq_true rfl) ⟨Nat.le_of_ble_eq_true rfl, Nat.le_of_ble_eq_true rfl⟩ ⟨Nat.le_of_ble_eq_true rfl, (Nat.le_of_ble_eq_true rfl)⟩ ?_
  obtain ⟨z530, h⟩ := ck_some h
  rw [z530]
  refine wg_icmp_ge X 171 dX8_init_148 (by decide) (fun c531 => absurd c531 (by decide)) (fun c531 => ?_)
  refine wg_aload_n X 1 dX8_init_151 rfl rfl ?_
  refine wg_getR (b := 23) X cl8 z321 3 (by decide) dX8_init_152 k_475 rfl z322 ?_
  refine wg_ldcS X 0 (by decide) rfl rfl dX8_init_155 ?_
  refine wg_iload_n X 0 dX8_init_157 rfl rfl ?_
  obtain ⟨r533, h532, h⟩ := bd_some h
  refine wg_callKi (As := [.int (23 : Int32)]) (rest := [.ref (ad306 23)]) X (c_J0_charAt_5068e l E ad306 S313  C527 M 0 (23 : Int32) (by decide) h532) T_yJ0_charAt_5068e k_293 (by decide) dX8_init_158 rfl rfl (Nat.le_of_ble_eq_true rfl) ⟨Nat.le_of_ble_eq_true rfl, Nat.le_of_ble_eq_true rfl⟩ ⟨Nat.le_of_ble_eq_true rfl, (Nat.le_of_ble_eq_true rfl)⟩ ?_
  obtain ⟨r535, C536, h534, h⟩ := bd2_some h
  refine wg_callVi (As := [.int r533]) (rest := []) X (c_X5_put l E ad306 S313 (wg_SCb_iff.mp z325) C527 M r533  h534) T_yX5_put k_331 cl5 z329 dX8_init_161 rfl rfl (Nat.le_of_ble_eq_true rfl) ⟨Nat.le_of_ble_eq_true rfl, Nat.le_of_ble_eq_true rfl⟩ ⟨Nat.le_of_ble_eq_true rfl, (Nat.le_of_ble_eq_true rfl)⟩ ?_
  refine wg_pop X dX8_init_164 rfl ?_
  refine wg_iinc (lv' := [(1, .int (24 : Int32)), (0, .ref (ad306 0))]) X 0 dX8_init_165 rfl (by decide) (by decide) rfl ?_
  refine wg_goto X 142 dX8_init_168 (by decide) ?_
  refine wg_iload_n X 0 dX8_init_142 rfl rfl ?_
  refine wg_ldcS X 0 (by decide) rfl rfl dX8_init_143 ?_
  obtain ⟨r538, h537, h⟩ := bd_some h
  refine wg_callKi (As := []) (rest := [.int (24 : Int32)]) X (c_J0_length_8abf5 l E ad306 S313  C536 M 0 (by decide) h537) T_yJ0_length_8abf5 k_283 (by decide) dX8_init_145 rfl rfl (Nat.le_of_ble_eq_true rfl) ⟨Nat.le_of_ble_eq_true rfl, Nat.le_of_ble_eq_true rfl⟩ ⟨Nat.le_of_ble_eq_true rfl, (Nat.le_of_ble_eq_true rfl)⟩ ?_
  obtain ⟨z539, h⟩ := ck_some h
  rw [z539]
  refine wg_icmp_ge X 171 dX8_init_148 (by decide) (fun c540 => absurd c540 (by decide)) (fun c540 => ?_)
  refine wg_aload_n X 1 dX8_init_151 rfl rfl ?_
  refine wg_getR (b := 23) X cl8 z321 3 (by decide) dX8_init_152 k_475 rfl z322 ?_
  refine wg_ldcS X 0 (by decide) rfl rfl dX8_init_155 ?_
  refine wg_iload_n X 0 dX8_init_157 rfl rfl ?_
  obtain ⟨r542, h541, h⟩ := bd_some h
  refine wg_callKi (As := [.int (24 : Int32)]) (rest := [.ref (ad306 23)]) X (c_J0_charAt_5068e l E ad306 S313  C536 M 0 (24 : Int32) (by decide) h541) T_yJ0_charAt_5068e k_293 (by decide) dX8_init_158 rfl rfl (Nat.le_of_ble_eq_true rfl) ⟨Nat.le_of_ble_eq_true rfl, Nat.le_of_ble_eq_true rfl⟩ ⟨Nat.le_of_ble_eq_true rfl, (Nat.le_of_ble_eq_true rfl)⟩ ?_
  obtain ⟨r544, C545, h543, h⟩ := bd2_some h
  refine wg_callVi (As := [.int r542]) (rest := []) X (c_X5_put l E ad306 S313 (wg_SCb_iff.mp z325) C536 M r542  h543) T_yX5_put k_331 cl5 z329 dX8_init_161 rfl rfl (Nat.le_of_ble_eq_true rfl) ⟨Nat.le_of_ble_eq_true rfl, Nat.le_of_ble_eq_true rfl⟩ ⟨Nat.le_of_ble_eq_true rfl, (Nat.le_of_ble_eq_true rfl)⟩ ?_
  refine wg_pop X dX8_init_164 rfl ?_
  refine wg_iinc (lv' := [(1, .int (25 : Int32)), (0, .ref (ad306 0))]) X 0 dX8_init_165 rfl (by decide) (by decide) rfl ?_
  refine wg_goto X 142 dX8_init_168 (by decide) ?_
  refine wg_iload_n X 0 dX8_init_142 rfl rfl ?_
  refine wg_ldcS X 0 (by decide) rfl rfl dX8_init_143 ?_
  obtain ⟨r547, h546, h⟩ := bd_some h
  refine wg_callKi (As := []) (rest := [.int (25 : Int32)]) X (c_J0_length_8abf5 l E ad306 S313  C545 M 0 (by decide) h546) T_yJ0_length_8abf5 k_283 (by decide) dX8_init_145 rfl rfl (Nat.le_of_ble_eq_true rfl) ⟨Nat.le_of_ble_eq_true rfl, Nat.le_of_ble_eq_true rfl⟩ ⟨Nat.le_of_ble_eq_true rfl, (Nat.le_of_ble_eq_true rfl)⟩ ?_
  obtain ⟨z548, h⟩ := ck_some h
  rw [z548]
  refine wg_icmp_ge X 171 dX8_init_148 (by decide) (fun c549 => absurd c549 (by decide)) (fun c549 => ?_)
  refine wg_aload_n X 1 dX8_init_151 rfl rfl ?_
  refine wg_getR (b := 23) X cl8 z321 3 (by decide) dX8_init_152 k_475 rfl z322 ?_
  refine wg_ldcS X 0 (by decide) rfl rfl dX8_init_155 ?_
  refine wg_iload_n X 0 dX8_init_157 rfl rfl ?_
  obtain ⟨r551, h550, h⟩ := bd_some h
  refine wg_callKi (As := [.int (25 : Int32)]) (rest := [.ref (ad306 23)]) X (c_J0_charAt_5068e l E ad306 S313  C545 M 0 (25 : Int32) (by decide) h550) T_yJ0_charAt_5068e k_293 (by decide) dX8_init_158 rfl rfl (Nat.le_of_ble_eq_true rfl) ⟨Nat.le_of_ble_eq_true rfl, Nat.le_of_ble_eq_true rfl⟩ ⟨Nat.le_of_ble_eq_true rfl, (Nat.le_of_ble_eq_true rfl)⟩ ?_
  obtain ⟨r553, C554, h552, h⟩ := bd2_some h
  refine wg_callVi (As := [.int r551]) (rest := []) X (c_X5_put l E ad306 S313 (wg_SCb_iff.mp z325) C545 M r551  h552) T_yX5_put k_331 cl5 z329 dX8_init_161 rfl rfl (Nat.le_of_ble_eq_true rfl) ⟨Nat.le_of_ble_eq_true rfl, Nat.le_of_ble_eq_true rfl⟩ ⟨Nat.le_of_ble_eq_true rfl, (Nat.le_of_ble_eq_true rfl)⟩ ?_
  refine wg_pop X dX8_init_164 rfl ?_
  refine wg_iinc (lv' := [(1, .int (26 : Int32)), (0, .ref (ad306 0))]) X 0 dX8_init_165 rfl (by decide) (by decide) rfl ?_
  refine wg_goto X 142 dX8_init_168 (by decide) ?_
  refine wg_iload_n X 0 dX8_init_142 rfl rfl ?_
  refine wg_ldcS X 0 (by decide) rfl rfl dX8_init_143 ?_
  obtain ⟨r556, h555, h⟩ := bd_some h
  refine wg_callKi (As := []) (rest := [.int (26 : Int32)]) X (c_J0_length_8abf5 l E ad306 S313  C554 M 0 (by decide) h555) T_yJ0_length_8abf5 k_283 (by decide) dX8_init_145 rfl rfl (Nat.le_of_ble_eq_true rfl) ⟨Nat.le_of_ble_eq_true rfl, Nat.le_of_ble_eq_true rfl⟩ ⟨Nat.le_of_ble_eq_true rfl, (Nat.le_of_ble_eq_true rfl)⟩ ?_
  obtain ⟨z557, h⟩ := ck_some h
  rw [z557]
  refine wg_icmp_ge X 171 dX8_init_148 (by decide) (fun c558 => absurd c558 (by decide)) (fun c558 => ?_)
  refine wg_aload_n X 1 dX8_init_151 rfl rfl ?_
  refine wg_getR (b := 23) X cl8 z321 3 (by decide) dX8_init_152 k_475 rfl z322 ?_
  refine wg_ldcS X 0 (by decide) rfl rfl dX8_init_155 ?_
  refine wg_iload_n X 0 dX8_init_157 rfl rfl ?_
  obtain ⟨r560, h559, h⟩ := bd_some h
  refine wg_callKi (As := [.int (26 : Int32)]) (rest := [.ref (ad306 23)]) X (c_J0_charAt_5068e l E ad306 S313  C554 M 0 (26 : Int32) (by decide) h559) T_yJ0_charAt_5068e k_293 (by decide) dX8_init_158 rfl rfl (Nat.le_of_ble_eq_true rfl) ⟨Nat.le_of_ble_eq_true rfl, Nat.le_of_ble_eq_true rfl⟩ ⟨Nat.le_of_ble_eq_true rfl, (Nat.le_of_ble_eq_true rfl)⟩ ?_
  obtain ⟨r562, C563, h561, h⟩ := bd2_some h
  refine wg_callVi (As := [.int r560]) (rest := []) X (c_X5_put l E ad306 S313 (wg_SCb_iff.mp z325) C554 M r560  h561) T_yX5_put k_331 cl5 z329 dX8_init_161 rfl rfl (Nat.le_of_ble_eq_true rfl) ⟨Nat.le_of_ble_eq_true rfl, Nat.le_of_ble_eq_true rfl⟩ ⟨Nat.le_of_ble_eq_true rfl, (Nat.le_of_ble_eq_true rfl)⟩ ?_
  refine wg_pop X dX8_init_164 rfl ?_
  refine wg_iinc (lv' := [(1, .int (27 : Int32)), (0, .ref (ad306 0))]) X 0 dX8_init_165 rfl (by decide) (by decide) rfl ?_
  refine wg_goto X 142 dX8_init_168 (by decide) ?_
  refine wg_iload_n X 0 dX8_init_142 rfl rfl ?_
  refine wg_ldcS X 0 (by decide) rfl rfl dX8_init_143 ?_
  obtain ⟨r565, h564, h⟩ := bd_some h
  refine wg_callKi (As := []) (rest := [.int (27 : Int32)]) X (c_J0_length_8abf5 l E ad306 S313  C563 M 0 (by decide) h564) T_yJ0_length_8abf5 k_283 (by decide) dX8_init_145 rfl rfl (Nat.le_of_ble_eq_true rfl) ⟨Nat.le_of_ble_eq_true rfl, Nat.le_of_ble_eq_true rfl⟩ ⟨Nat.le_of_ble_eq_true rfl, (Nat.le_of_ble_eq_true rfl)⟩ ?_
  obtain ⟨z566, h⟩ := ck_some h
  rw [z566]
  refine wg_icmp_ge X 171 dX8_init_148 (by decide) (fun c567 => absurd c567 (by decide)) (fun c567 => ?_)
  refine wg_aload_n X 1 dX8_init_151 rfl rfl ?_
  refine wg_getR (b := 23) X cl8 z321 3 (by decide) dX8_init_152 k_475 rfl z322 ?_
  refine wg_ldcS X 0 (by decide) rfl rfl dX8_init_155 ?_
  refine wg_iload_n X 0 dX8_init_157 rfl rfl ?_
  obtain ⟨r569, h568, h⟩ := bd_some h
  refine wg_callKi (As := [.int (27 : Int32)]) (rest := [.ref (ad306 23)]) X (c_J0_charAt_5068e l E ad306 S313  C563 M 0 (27 : Int32) (by decide) h568) T_yJ0_charAt_5068e k_293 (by decide) dX8_init_158 rfl rfl (Nat.le_of_ble_eq_true rfl) ⟨Nat.le_of_ble_eq_true rfl, Nat.le_of_ble_eq_true rfl⟩ ⟨Nat.le_of_ble_eq_true rfl, (Nat.le_of_ble_eq_true rfl)⟩ ?_
  obtain ⟨r571, C572, h570, h⟩ := bd2_some h
  refine wg_callVi (As := [.int r569]) (rest := []) X (c_X5_put l E ad306 S313 (wg_SCb_iff.mp z325) C563 M r569  h570) T_yX5_put k_331 cl5 z329 dX8_init_161 rfl rfl (Nat.le_of_ble_eq_true rfl) ⟨Nat.le_of_ble_eq_true rfl, Nat.le_of_ble_eq_true rfl⟩ ⟨Nat.le_of_ble_eq_true rfl, (Nat.le_of_ble_eq_true rfl)⟩ ?_
  refine wg_pop X dX8_init_164 rfl ?_
  refine wg_iinc (lv' := [(1, .int (28 : Int32)), (0, .ref (ad306 0))]) X 0 dX8_init_165 rfl (by decide) (by decide) rfl ?_
  refine wg_goto X 142 dX8_init_168 (by decide) ?_
  refine wg_iload_n X 0 dX8_init_142 rfl rfl ?_
  refine wg_ldcS X 0 (by decide) rfl rfl dX8_init_143 ?_
  obtain ⟨r574, h573, h⟩ := bd_some h
  refine wg_callKi (As := []) (rest := [.int (28 : Int32)]) X (c_J0_length_8abf5 l E ad306 S313  C572 M 0 (by decide) h573) T_yJ0_length_8abf5 k_283 (by decide) dX8_init_145 rfl rfl (Nat.le_of_ble_eq_true rfl) ⟨Nat.le_of_ble_eq_true rfl, Nat.le_of_ble_eq_true rfl⟩ ⟨Nat.le_of_ble_eq_true rfl, (Nat.le_of_ble_eq_true rfl)⟩ ?_
  obtain ⟨z575, h⟩ := ck_some h
  rw [z575]
  refine wg_icmp_ge X 171 dX8_init_148 (by decide) (fun c576 => absurd c576 (by decide)) (fun c576 => ?_)
  refine wg_aload_n X 1 dX8_init_151 rfl rfl ?_
  refine wg_getR (b := 23) X cl8 z321 3 (by decide) dX8_init_152 k_475 rfl z322 ?_
  refine wg_ldcS X 0 (by decide) rfl rfl dX8_init_155 ?_
  refine wg_iload_n X 0 dX8_init_157 rfl rfl ?_
  obtain ⟨r578, h577, h⟩ := bd_some h
  refine wg_callKi (As := [.int (28 : Int32)]) (rest := [.ref (ad306 23)]) X (c_J0_charAt_5068e l E ad306 S313  C572 M 0 (28 : Int32) (by decide) h577) T_yJ0_charAt_5068e k_293 (by decide) dX8_init_158 rfl rfl (Nat.le_of_ble_eq_true rfl) ⟨Nat.le_of_ble_eq_true rfl, Nat.le_of_ble_eq_true rfl⟩ ⟨Nat.le_of_ble_eq_true rfl, (Nat.le_of_ble_eq_true rfl)⟩ ?_
  obtain ⟨r580, C581, h579, h⟩ := bd2_some h
  refine wg_callVi (As := [.int r578]) (rest := []) X (c_X5_put l E ad306 S313 (wg_SCb_iff.mp z325) C572 M r578  h579) T_yX5_put k_331 cl5 z329 dX8_init_161 rfl rfl (Nat.le_of_ble_eq_true rfl) ⟨Nat.le_of_ble_eq_true rfl, Nat.le_of_ble_eq_true rfl⟩ ⟨Nat.le_of_ble_eq_true rfl, (Nat.le_of_ble_eq_true rfl)⟩ ?_
  refine wg_pop X dX8_init_164 rfl ?_
  refine wg_iinc (lv' := [(1, .int (29 : Int32)), (0, .ref (ad306 0))]) X 0 dX8_init_165 rfl (by decide) (by decide) rfl ?_
  refine wg_goto X 142 dX8_init_168 (by decide) ?_
  refine wg_iload_n X 0 dX8_init_142 rfl rfl ?_
  refine wg_ldcS X 0 (by decide) rfl rfl dX8_init_143 ?_
  obtain ⟨r583, h582, h⟩ := bd_some h
  refine wg_callKi (As := []) (rest := [.int (29 : Int32)]) X (c_J0_length_8abf5 l E ad306 S313  C581 M 0 (by decide) h582) T_yJ0_length_8abf5 k_283 (by decide) dX8_init_145 rfl rfl (Nat.le_of_ble_eq_true rfl) ⟨Nat.le_of_ble_eq_true rfl, Nat.le_of_ble_eq_true rfl⟩ ⟨Nat.le_of_ble_eq_true rfl, (Nat.le_of_ble_eq_true rfl)⟩ ?_
  obtain ⟨z584, h⟩ := ck_some h
  rw [z584]
  refine wg_icmp_ge X 171 dX8_init_148 (by decide) (fun c585 => absurd c585 (by decide)) (fun c585 => ?_)
  refine wg_aload_n X 1 dX8_init_151 rfl rfl ?_
  refine wg_getR (b := 23) X cl8 z321 3 (by decide) dX8_init_152 k_475 rfl z322 ?_
  refine wg_ldcS X 0 (by decide) rfl rfl dX8_init_155 ?_
  refine wg_iload_n X 0 dX8_init_157 rfl rfl ?_
  obtain ⟨r587, h586, h⟩ := bd_some h
  refine wg_callKi (As := [.int (29 : Int32)]) (rest := [.ref (ad306 23)]) X (c_J0_charAt_5068e l E ad306 S313  C581 M 0 (29 : Int32) (by decide) h586) T_yJ0_charAt_5068e k_293 (by decide) dX8_init_158 rfl rfl (Nat.le_of_ble_eq_true rfl) ⟨Nat.le_of_ble_eq_true rfl, Nat.le_of_ble_eq_true rfl⟩ ⟨Nat.le_of_ble_eq_true rfl, (Nat.le_of_ble_eq_true rfl)⟩ ?_
  obtain ⟨r589, C590, h588, h⟩ := bd2_some h
  refine wg_callVi (As := [.int r587]) (rest := []) X (c_X5_put l E ad306 S313 (wg_SCb_iff.mp z325) C581 M r587  h588) T_yX5_put k_331 cl5 z329 dX8_init_161 rfl rfl (Nat.le_of_ble_eq_true rfl) ⟨Nat.le_of_ble_eq_true rfl, Nat.le_of_ble_eq_true rfl⟩ ⟨Nat.le_of_ble_eq_true rfl, (Nat.le_of_ble_eq_true rfl)⟩ ?_
  refine wg_pop X dX8_init_164 rfl ?_
  refine wg_iinc (lv' := [(1, .int (30 : Int32)), (0, .ref (ad306 0))]) X 0 dX8_init_165 rfl (by decide) (by decide) rfl ?_
  refine wg_goto X 142 dX8_init_168 (by decide) ?_
  refine wg_iload_n X 0 dX8_init_142 rfl rfl ?_
  refine wg_ldcS X 0 (by decide) rfl rfl dX8_init_143 ?_
  obtain ⟨r592, h591, h⟩ := bd_some h
  refine wg_callKi (As := []) (rest := [.int (30 : Int32)]) X (c_J0_length_8abf5 l E ad306 S313  C590 M 0 (by decide) h591) T_yJ0_length_8abf5 k_283 (by decide) dX8_init_145 rfl rfl (Nat.le_of_ble_eq_true rfl) ⟨Nat.le_of_ble_eq_true rfl, Nat.le_of_ble_eq_true rfl⟩ ⟨Nat.le_of_ble_eq_true rfl, (Nat.le_of_ble_eq_true rfl)⟩ ?_
  obtain ⟨z593, h⟩ := ck_some h
  rw [z593]
  refine wg_icmp_ge X 171 dX8_init_148 (by decide) (fun c594 => absurd c594 (by decide)) (fun c594 => ?_)
  refine wg_aload_n X 1 dX8_init_151 rfl rfl ?_
  refine wg_getR (b := 23) X cl8 z321 3 (by decide) dX8_init_152 k_475 rfl z322 ?_
  refine wg_ldcS X 0 (by decide) rfl rfl dX8_init_155 ?_
  refine wg_iload_n X 0 dX8_init_157 rfl rfl ?_
  obtain ⟨r596, h595, h⟩ := bd_some h
  refine wg_callKi (As := [.int (30 : Int32)]) (rest := [.ref (ad306 23)]) X (c_J0_charAt_5068e l E ad306 S313  C590 M 0 (30 : Int32) (by decide) h595) T_yJ0_charAt_5068e k_293 (by decide) dX8_init_158 rfl rfl (Nat.le_of_ble_eq_true rfl) ⟨Nat.le_of_ble_eq_true rfl, Nat.le_of_ble_eq_true rfl⟩ ⟨Nat.le_of_ble_eq_true rfl, (Nat.le_of_ble_eq_true rfl)⟩ ?_
  obtain ⟨r598, C599, h597, h⟩ := bd2_some h
  refine wg_callVi (As := [.int r596]) (rest := []) X (c_X5_put l E ad306 S313 (wg_SCb_iff.mp z325) C590 M r596  h597) T_yX5_put k_331 cl5 z329 dX8_init_161 rfl rfl (Nat.le_of_ble_eq_true rfl) ⟨Nat.le_of_ble_eq_true rfl, Nat.le_of_ble_eq_true rfl⟩ ⟨Nat.le_of_ble_eq_true rfl, (Nat.le_of_ble_eq_true rfl)⟩ ?_
  refine wg_pop X dX8_init_164 rfl ?_
  refine wg_iinc (lv' := [(1, .int (31 : Int32)), (0, .ref (ad306 0))]) X 0 dX8_init_165 rfl (by decide) (by decide) rfl ?_
  refine wg_goto X 142 dX8_init_168 (by decide) ?_
  refine wg_iload_n X 0 dX8_init_142 rfl rfl ?_
  refine wg_ldcS X 0 (by decide) rfl rfl dX8_init_143 ?_
  obtain ⟨r601, h600, h⟩ := bd_some h
  refine wg_callKi (As := []) (rest := [.int (31 : Int32)]) X (c_J0_length_8abf5 l E ad306 S313  C599 M 0 (by decide) h600) T_yJ0_length_8abf5 k_283 (by decide) dX8_init_145 rfl rfl (Nat.le_of_ble_eq_true rfl) ⟨Nat.le_of_ble_eq_true rfl, Nat.le_of_ble_eq_true rfl⟩ ⟨Nat.le_of_ble_eq_true rfl, (Nat.le_of_ble_eq_true rfl)⟩ ?_
  obtain ⟨z602, h⟩ := ck_some h
  rw [z602]
  refine wg_icmp_ge X 171 dX8_init_148 (by decide) (fun c603 => absurd c603 (by decide)) (fun c603 => ?_)
  refine wg_aload_n X 1 dX8_init_151 rfl rfl ?_
  refine wg_getR (b := 23) X cl8 z321 3 (by decide) dX8_init_152 k_475 rfl z322 ?_
  refine wg_ldcS X 0 (by decide) rfl rfl dX8_init_155 ?_
  refine wg_iload_n X 0 dX8_init_157 rfl rfl ?_
  obtain ⟨r605, h604, h⟩ := bd_some h
  refine wg_callKi (As := [.int (31 : Int32)]) (rest := [.ref (ad306 23)]) X (c_J0_charAt_5068e l E ad306 S313  C599 M 0 (31 : Int32) (by decide) h604) T_yJ0_charAt_5068e k_293 (by decide) dX8_init_158 rfl rfl (Nat.le_of_ble_eq_true rfl) ⟨Nat.le_of_ble_eq_true rfl, Nat.le_of_ble_eq_true rfl⟩ ⟨Nat.le_of_ble_eq_true rfl, (Nat.le_of_ble_eq_true rfl)⟩ ?_
  obtain ⟨r607, C608, h606, h⟩ := bd2_some h
  refine wg_callVi (As := [.int r605]) (rest := []) X (c_X5_put l E ad306 S313 (wg_SCb_iff.mp z325) C599 M r605  h606) T_yX5_put k_331 cl5 z329 dX8_init_161 rfl rfl (Nat.le_of_ble_eq_true rfl) ⟨Nat.le_of_ble_eq_true rfl, Nat.le_of_ble_eq_true rfl⟩ ⟨Nat.le_of_ble_eq_true rfl, (Nat.le_of_ble_eq_true rfl)⟩ ?_
  refine wg_pop X dX8_init_164 rfl ?_
  refine wg_iinc (lv' := [(1, .int (32 : Int32)), (0, .ref (ad306 0))]) X 0 dX8_init_165 rfl (by decide) (by decide) rfl ?_
  refine wg_goto X 142 dX8_init_168 (by decide) ?_
  refine wg_iload_n X 0 dX8_init_142 rfl rfl ?_
  refine wg_ldcS X 0 (by decide) rfl rfl dX8_init_143 ?_
  obtain ⟨r610, h609, h⟩ := bd_some h
  refine wg_callKi (As := []) (rest := [.int (32 : Int32)]) X (c_J0_length_8abf5 l E ad306 S313  C608 M 0 (by decide) h609) T_yJ0_length_8abf5 k_283 (by decide) dX8_init_145 rfl rfl (Nat.le_of_ble_eq_true rfl) ⟨Nat.le_of_ble_eq_true rfl, Nat.le_of_ble_eq_true rfl⟩ ⟨Nat.le_of_ble_eq_true rfl, (Nat.le_of_ble_eq_true rfl)⟩ ?_
  obtain ⟨z611, h⟩ := ck_some h
  rw [z611]
  refine wg_icmp_ge X 171 dX8_init_148 (by decide) (fun c612 => absurd c612 (by decide)) (fun c612 => ?_)
  refine wg_aload_n X 1 dX8_init_151 rfl rfl ?_
  refine wg_getR (b := 23) X cl8 z321 3 (by decide) dX8_init_152 k_475 rfl z322 ?_
  refine wg_ldcS X 0 (by decide) rfl rfl dX8_init_155 ?_
  refine wg_iload_n X 0 dX8_init_157 rfl rfl ?_
  obtain ⟨r614, h613, h⟩ := bd_some h
  refine wg_callKi (As := [.int (32 : Int32)]) (rest := [.ref (ad306 23)]) X (c_J0_charAt_5068e l E ad306 S313  C608 M 0 (32 : Int32) (by decide) h613) T_yJ0_charAt_5068e k_293 (by decide) dX8_init_158 rfl rfl (Nat.le_of_ble_eq_true rfl) ⟨Nat.le_of_ble_eq_true rfl, Nat.le_of_ble_eq_true rfl⟩ ⟨Nat.le_of_ble_eq_true rfl, (Nat.le_of_ble_eq_true rfl)⟩ ?_
  obtain ⟨r616, C617, h615, h⟩ := bd2_some h
  refine wg_callVi (As := [.int r614]) (rest := []) X (c_X5_put l E ad306 S313 (wg_SCb_iff.mp z325) C608 M r614  h615) T_yX5_put k_331 cl5 z329 dX8_init_161 rfl rfl (Nat.le_of_ble_eq_true rfl) ⟨Nat.le_of_ble_eq_true rfl, Nat.le_of_ble_eq_true rfl⟩ ⟨Nat.le_of_ble_eq_true rfl, (Nat.le_of_ble_eq_true rfl)⟩ ?_
  refine wg_pop X dX8_init_164 rfl ?_
  refine wg_iinc (lv' := [(1, .int (33 : Int32)), (0, .ref (ad306 0))]) X 0 dX8_init_165 rfl (by decide) (by decide) rfl ?_
  refine wg_goto X 142 dX8_init_168 (by decide) ?_
  refine wg_iload_n X 0 dX8_init_142 rfl rfl ?_
  refine wg_ldcS X 0 (by decide) rfl rfl dX8_init_143 ?_
  obtain ⟨r619, h618, h⟩ := bd_some h
  refine wg_callKi (As := []) (rest := [.int (33 : Int32)]) X (c_J0_length_8abf5 l E ad306 S313  C617 M 0 (by decide) h618) T_yJ0_length_8abf5 k_283 (by decide) dX8_init_145 rfl rfl (Nat.le_of_ble_eq_true rfl) ⟨Nat.le_of_ble_eq_true rfl, Nat.le_of_ble_eq_true rfl⟩ ⟨Nat.le_of_ble_eq_true rfl, (Nat.le_of_ble_eq_true rfl)⟩ ?_
  obtain ⟨z620, h⟩ := ck_some h
  rw [z620]
  refine wg_icmp_ge X 171 dX8_init_148 (by decide) (fun c621 => absurd c621 (by decide)) (fun c621 => ?_)
  refine wg_aload_n X 1 dX8_init_151 rfl rfl ?_
  refine wg_getR (b := 23) X cl8 z321 3 (by decide) dX8_init_152 k_475 rfl z322 ?_
  refine wg_ldcS X 0 (by decide) rfl rfl dX8_init_155 ?_
  refine wg_iload_n X 0 dX8_init_157 rfl rfl ?_
  obtain ⟨r623, h622, h⟩ := bd_some h
  refine wg_callKi (As := [.int (33 : Int32)]) (rest := [.ref (ad306 23)]) X (c_J0_charAt_5068e l E ad306 S313  C617 M 0 (33 : Int32) (by decide) h622) T_yJ0_charAt_5068e k_293 (by decide) dX8_init_158 rfl rfl (Nat.le_of_ble_eq_true rfl) ⟨Nat.le_of_ble_eq_true rfl, Nat.le_of_ble_eq_true rfl⟩ ⟨Nat.le_of_ble_eq_true rfl, (Nat.le_of_ble_eq_true rfl)⟩ ?_
  obtain ⟨r625, C626, h624, h⟩ := bd2_some h
  refine wg_callVi (As := [.int r623]) (rest := []) X (c_X5_put l E ad306 S313 (wg_SCb_iff.mp z325) C617 M r623  h624) T_yX5_put k_331 cl5 z329 dX8_init_161 rfl rfl (Nat.le_of_ble_eq_true rfl) ⟨Nat.le_of_ble_eq_true rfl, Nat.le_of_ble_eq_true rfl⟩ ⟨Nat.le_of_ble_eq_true rfl, (Nat.le_of_ble_eq_true rfl)⟩ ?_
  refine wg_pop X dX8_init_164 rfl ?_
  refine wg_iinc (lv' := [(1, .int (34 : Int32)), (0, .ref (ad306 0))]) X 0 dX8_init_165 rfl (by decide) (by decide) rfl ?_
  refine wg_goto X 142 dX8_init_168 (by decide) ?_
  refine wg_iload_n X 0 dX8_init_142 rfl rfl ?_
  refine wg_ldcS X 0 (by decide) rfl rfl dX8_init_143 ?_
  obtain ⟨r628, h627, h⟩ := bd_some h
  refine wg_callKi (As := []) (rest := [.int (34 : Int32)]) X (c_J0_length_8abf5 l E ad306 S313  C626 M 0 (by decide) h627) T_yJ0_length_8abf5 k_283 (by decide) dX8_init_145 rfl rfl (Nat.le_of_ble_eq_true rfl) ⟨Nat.le_of_ble_eq_true rfl, Nat.le_of_ble_eq_true rfl⟩ ⟨Nat.le_of_ble_eq_true rfl, (Nat.le_of_ble_eq_true rfl)⟩ ?_
  obtain ⟨z629, h⟩ := ck_some h
  rw [z629]
  refine wg_icmp_ge X 171 dX8_init_148 (by decide) (fun c630 => absurd c630 (by decide)) (fun c630 => ?_)
  refine wg_aload_n X 1 dX8_init_151 rfl rfl ?_
  refine wg_getR (b := 23) X cl8 z321 3 (by decide) dX8_init_152 k_475 rfl z322 ?_
  refine wg_ldcS X 0 (by decide) rfl rfl dX8_init_155 ?_
  refine wg_iload_n X 0 dX8_init_157 rfl rfl ?_
  obtain ⟨r632, h631, h⟩ := bd_some h
  refine wg_callKi (As := [.int (34 : Int32)]) (rest := [.ref (ad306 23)]) X (c_J0_charAt_5068e l E ad306 S313  C626 M 0 (34 : Int32) (by decide) h631) T_yJ0_charAt_5068e k_293 (by decide) dX8_init_158 rfl rfl (Nat.le_of_ble_eq_true rfl) ⟨Nat.le_of_ble_eq_true rfl, Nat.le_of_ble_eq_true rfl⟩ ⟨Nat.le_of_ble_eq_true rfl, (Nat.le_of_ble_eq_true rfl)⟩ ?_
  obtain ⟨r634, C635, h633, h⟩ := bd2_some h
  refine wg_callVi (As := [.int r632]) (rest := []) X (c_X5_put l E ad306 S313 (wg_SCb_iff.mp z325) C626 M r632  h633) T_yX5_put k_331 cl5 z329 dX8_init_161 rfl rfl (Nat.le_of_ble_eq_true rfl) ⟨Nat.le_of_ble_eq_true rfl, Nat.le_of_ble_eq_true rfl⟩ ⟨Nat.le_of_ble_eq_true rfl, (Nat.le_of_ble_eq_true rfl)⟩ ?_
  refine wg_pop X dX8_init_164 rfl ?_
  refine wg_iinc (lv' := [(1, .int (35 : Int32)), (0, .ref (ad306 0))]) X 0 dX8_init_165 rfl (by decide) (by decide) rfl ?_
  refine wg_goto X 142 dX8_init_168 (by decide) ?_
  refine wg_iload_n X 0 dX8_init_142 rfl rfl ?_
  refine wg_ldcS X 0 (by decide) rfl rfl dX8_init_143 ?_
  obtain ⟨r637, h636, h⟩ := bd_some h
  refine wg_callKi (As := []) (rest := [.int (35 : Int32)]) X (c_J0_length_8abf5 l E ad306 S313  C635 M 0 (by decide) h636) T_yJ0_length_8abf5 k_283 (by decide) dX8_init_145 rfl rfl (Nat.le_of_ble_eq_true rfl) ⟨Nat.le_of_ble_eq_true rfl, Nat.le_of_ble_eq_true rfl⟩ ⟨Nat.le_of_ble_eq_true rfl, (Nat.le_of_ble_eq_true rfl)⟩ ?_
  obtain ⟨z638, h⟩ := ck_some h
  rw [z638]
  refine wg_icmp_ge X 171 dX8_init_148 (by decide) (fun c639 => absurd c639 (by decide)) (fun c639 => ?_)
  refine wg_aload_n X 1 dX8_init_151 rfl rfl ?_
  refine wg_getR (b := 23) X cl8 z321 3 (by decide) dX8_init_152 k_475 rfl z322 ?_
  refine wg_ldcS X 0 (by decide) rfl rfl dX8_init_155 ?_
  refine wg_iload_n X 0 dX8_init_157 rfl rfl ?_
  obtain ⟨r641, h640, h⟩ := bd_some h
  refine wg_callKi (As := [.int (35 : Int32)]) (rest := [.ref (ad306 23)]) X (c_J0_charAt_5068e l E ad306 S313  C635 M 0 (35 : Int32) (by decide) h640) T_yJ0_charAt_5068e k_293 (by decide) dX8_init_158 rfl rfl (Nat.le_of_ble_eq_true rfl) ⟨Nat.le_of_ble_eq_true rfl, Nat.le_of_ble_eq_true rfl⟩ ⟨Nat.le_of_ble_eq_true rfl, (Nat.le_of_ble_eq_true rfl)⟩ ?_
  obtain ⟨r643, C644, h642, h⟩ := bd2_some h
  refine wg_callVi (As := [.int r641]) (rest := []) X (c_X5_put l E ad306 S313 (wg_SCb_iff.mp z325) C635 M r641  h642) T_yX5_put k_331 cl5 z329 dX8_init_161 rfl rfl (Nat.le_of_ble_eq_true rfl) ⟨Nat.le_of_ble_eq_true rfl, Nat.le_of_ble_eq_true rfl⟩ ⟨Nat.le_of_ble_eq_true rfl, (Nat.le_of_ble_eq_true rfl)⟩ ?_
  refine wg_pop X dX8_init_164 rfl ?_
  refine wg_iinc (lv' := [(1, .int (36 : Int32)), (0, .ref (ad306 0))]) X 0 dX8_init_165 rfl (by decide) (by decide) rfl ?_
  refine wg_goto X 142 dX8_init_168 (by decide) ?_
  refine wg_iload_n X 0 dX8_init_142 rfl rfl ?_
  refine wg_ldcS X 0 (by decide) rfl rfl dX8_init_143 ?_
  obtain ⟨r646, h645, h⟩ := bd_some h
  refine wg_callKi (As := []) (rest := [.int (36 : Int32)]) X (c_J0_length_8abf5 l E ad306 S313  C644 M 0 (by decide) h645) T_yJ0_length_8abf5 k_283 (by decide) dX8_init_145 rfl rfl (Nat.le_of_ble_eq_true rfl) ⟨Nat.le_of_ble_eq_true rfl, Nat.le_of_ble_eq_true rfl⟩ ⟨Nat.le_of_ble_eq_true rfl, (Nat.le_of_ble_eq_true rfl)⟩ ?_
  obtain ⟨z647, h⟩ := ck_some h
  rw [z647]
  refine wg_icmp_ge X 171 dX8_init_148 (by decide) (fun c648 => absurd c648 (by decide)) (fun c648 => ?_)
  refine wg_aload_n X 1 dX8_init_151 rfl rfl ?_
  refine wg_getR (b := 23) X cl8 z321 3 (by decide) dX8_init_152 k_475 rfl z322 ?_
  refine wg_ldcS X 0 (by decide) rfl rfl dX8_init_155 ?_
  refine wg_iload_n X 0 dX8_init_157 rfl rfl ?_
  obtain ⟨r650, h649, h⟩ := bd_some h
  refine wg_callKi (As := [.int (36 : Int32)]) (rest := [.ref (ad306 23)]) X (c_J0_charAt_5068e l E ad306 S313  C644 M 0 (36 : Int32) (by decide) h649) T_yJ0_charAt_5068e k_293 (by decide) dX8_init_158 rfl rfl (Nat.le_of_ble_eq_true rfl) ⟨Nat.le_of_ble_eq_true rfl, Nat.le_of_ble_eq_true rfl⟩ ⟨Nat.le_of_ble_eq_true rfl, (Nat.le_of_ble_eq_true rfl)⟩ ?_
  obtain ⟨r652, C653, h651, h⟩ := bd2_some h
  refine wg_callVi (As := [.int r650]) (rest := []) X (c_X5_put l E ad306 S313 (wg_SCb_iff.mp z325) C644 M r650  h651) T_yX5_put k_331 cl5 z329 dX8_init_161 rfl rfl (Nat.le_of_ble_eq_true rfl) ⟨Nat.le_of_ble_eq_true rfl, Nat.le_of_ble_eq_true rfl⟩ ⟨Nat.le_of_ble_eq_true rfl, (Nat.le_of_ble_eq_true rfl)⟩ ?_
  refine wg_pop X dX8_init_164 rfl ?_
  refine wg_iinc (lv' := [(1, .int (37 : Int32)), (0, .ref (ad306 0))]) X 0 dX8_init_165 rfl (by decide) (by decide) rfl ?_
  refine wg_goto X 142 dX8_init_168 (by decide) ?_
  refine wg_iload_n X 0 dX8_init_142 rfl rfl ?_
  refine wg_ldcS X 0 (by decide) rfl rfl dX8_init_143 ?_
  obtain ⟨r655, h654, h⟩ := bd_some h
  refine wg_callKi (As := []) (rest := [.int (37 : Int32)]) X (c_J0_length_8abf5 l E ad306 S313  C653 M 0 (by decide) h654) T_yJ0_length_8abf5 k_283 (by decide) dX8_init_145 rfl rfl (Nat.le_of_ble_eq_true rfl) ⟨Nat.le_of_ble_eq_true rfl, Nat.le_of_ble_eq_true rfl⟩ ⟨Nat.le_of_ble_eq_true rfl, (Nat.le_of_ble_eq_true rfl)⟩ ?_
  obtain ⟨z656, h⟩ := ck_some h
  rw [z656]
  refine wg_icmp_ge X 171 dX8_init_148 (by decide) (fun c657 => absurd c657 (by decide)) (fun c657 => ?_)
  refine wg_aload_n X 1 dX8_init_151 rfl rfl ?_
  refine wg_getR (b := 23) X cl8 z321 3 (by decide) dX8_init_152 k_475 rfl z322 ?_
  refine wg_ldcS X 0 (by decide) rfl rfl dX8_init_155 ?_
  refine wg_iload_n X 0 dX8_init_157 rfl rfl ?_
  obtain ⟨r659, h658, h⟩ := bd_some h
  refine wg_callKi (As := [.int (37 : Int32)]) (rest := [.ref (ad306 23)]) X (c_J0_charAt_5068e l E ad306 S313  C653 M 0 (37 : Int32) (by decide) h658) T_yJ0_charAt_5068e k_293 (by decide) dX8_init_158 rfl rfl (Nat.le_of_ble_eq_true rfl) ⟨Nat.le_of_ble_eq_true rfl, Nat.le_of_ble_eq_true rfl⟩ ⟨Nat.le_of_ble_eq_true rfl, (Nat.le_of_ble_eq_true rfl)⟩ ?_
  obtain ⟨r661, C662, h660, h⟩ := bd2_some h
  refine wg_callVi (As := [.int r659]) (rest := []) X (c_X5_put l E ad306 S313 (wg_SCb_iff.mp z325) C653 M r659  h660) T_yX5_put k_331 cl5 z329 dX8_init_161 rfl rfl (Nat.le_of_ble_eq_true rfl) ⟨Nat.le_of_ble_eq_true rfl, Nat.le_of_ble_eq_true rfl⟩ ⟨Nat.le_of_ble_eq_true rfl, (Nat.le_of_ble_eq_true rfl)⟩ ?_
  refine wg_pop X dX8_init_164 rfl ?_
  refine wg_iinc (lv' := [(1, .int (38 : Int32)), (0, .ref (ad306 0))]) X 0 dX8_init_165 rfl (by decide) (by decide) rfl ?_
  refine wg_goto X 142 dX8_init_168 (by decide) ?_
  refine wg_iload_n X 0 dX8_init_142 rfl rfl ?_
  refine wg_ldcS X 0 (by decide) rfl rfl dX8_init_143 ?_
  obtain ⟨r664, h663, h⟩ := bd_some h
  refine wg_callKi (As := []) (rest := [.int (38 : Int32)]) X (c_J0_length_8abf5 l E ad306 S313  C662 M 0 (by decide) h663) T_yJ0_length_8abf5 k_283 (by decide) dX8_init_145 rfl rfl (Nat.le_of_ble_eq_true rfl) ⟨Nat.le_of_ble_eq_true rfl, Nat.le_of_ble_eq_true rfl⟩ ⟨Nat.le_of_ble_eq_true rfl, (Nat.le_of_ble_eq_true rfl)⟩ ?_
  obtain ⟨z665, h⟩ := ck_some h
  rw [z665]
  refine wg_icmp_ge X 171 dX8_init_148 (by decide) (fun c666 => absurd c666 (by decide)) (fun c666 => ?_)
  refine wg_aload_n X 1 dX8_init_151 rfl rfl ?_
  refine wg_getR (b := 23) X cl8 z321 3 (by decide) dX8_init_152 k_475 rfl z322 ?_
  refine wg_ldcS X 0 (by decide) rfl rfl dX8_init_155 ?_
  refine wg_iload_n X 0 dX8_init_157 rfl rfl ?_
  obtain ⟨r668, h667, h⟩ := bd_some h
  refine wg_callKi (As := [.int (38 : Int32)]) (rest := [.ref (ad306 23)]) X (c_J0_charAt_5068e l E ad306 S313  C662 M 0 (38 : Int32) (by decide) h667) T_yJ0_charAt_5068e k_293 (by decide) dX8_init_158 rfl rfl (Nat.le_of_ble_eq_true rfl) ⟨Nat.le_of_ble_eq_true rfl, Nat.le_of_ble_eq_true rfl⟩ ⟨Nat.le_of_ble_eq_true rfl, (Nat.le_of_ble_eq_true rfl)⟩ ?_
  obtain ⟨r670, C671, h669, h⟩ := bd2_some h
  refine wg_callVi (As := [.int r668]) (rest := []) X (c_X5_put l E ad306 S313 (wg_SCb_iff.mp z325) C662 M r668  h669) T_yX5_put k_331 cl5 z329 dX8_init_161 rfl rfl (Nat.le_of_ble_eq_true rfl) ⟨Nat.le_of_ble_eq_true rfl, Nat.le_of_ble_eq_true rfl⟩ ⟨Nat.le_of_ble_eq_true rfl, (Nat.le_of_ble_eq_true rfl)⟩ ?_
  refine wg_pop X dX8_init_164 rfl ?_
  refine wg_iinc (lv' := [(1, .int (39 : Int32)), (0, .ref (ad306 0))]) X 0 dX8_init_165 rfl (by decide) (by decide) rfl ?_
  refine wg_goto X 142 dX8_init_168 (by decide) ?_
  refine wg_iload_n X 0 dX8_init_142 rfl rfl ?_
  refine wg_ldcS X 0 (by decide) rfl rfl dX8_init_143 ?_
  obtain ⟨r673, h672, h⟩ := bd_some h
  refine wg_callKi (As := []) (rest := [.int (39 : Int32)]) X (c_J0_length_8abf5 l E ad306 S313  C671 M 0 (by decide) h672) T_yJ0_length_8abf5 k_283 (by decide) dX8_init_145 rfl rfl (Nat.le_of_ble_eq_true rfl) ⟨Nat.le_of_ble_eq_true rfl, Nat.le_of_ble_eq_true rfl⟩ ⟨Nat.le_of_ble_eq_true rfl, (Nat.le_of_ble_eq_true rfl)⟩ ?_
  obtain ⟨z674, h⟩ := ck_some h
  rw [z674]
  refine wg_icmp_ge X 171 dX8_init_148 (by decide) (fun c675 => absurd c675 (by decide)) (fun c675 => ?_)
  refine wg_aload_n X 1 dX8_init_151 rfl rfl ?_
  refine wg_getR (b := 23) X cl8 z321 3 (by decide) dX8_init_152 k_475 rfl z322 ?_
  refine wg_ldcS X 0 (by decide) rfl rfl dX8_init_155 ?_
  refine wg_iload_n X 0 dX8_init_157 rfl rfl ?_
  obtain ⟨r677, h676, h⟩ := bd_some h
  refine wg_callKi (As := [.int (39 : Int32)]) (rest := [.ref (ad306 23)]) X (c_J0_charAt_5068e l E ad306 S313  C671 M 0 (39 : Int32) (by decide) h676) T_yJ0_charAt_5068e k_293 (by decide) dX8_init_158 rfl rfl (Nat.le_of_ble_eq_true rfl) ⟨Nat.le_of_ble_eq_true rfl, Nat.le_of_ble_eq_true rfl⟩ ⟨Nat.le_of_ble_eq_true rfl, (Nat.le_of_ble_eq_true rfl)⟩ ?_
  obtain ⟨r679, C680, h678, h⟩ := bd2_some h
  refine wg_callVi (As := [.int r677]) (rest := []) X (c_X5_put l E ad306 S313 (wg_SCb_iff.mp z325) C671 M r677  h678) T_yX5_put k_331 cl5 z329 dX8_init_161 rfl rfl (Nat.le_of_ble_eq_true rfl) ⟨Nat.le_of_ble_eq_true rfl, Nat.le_of_ble_eq_true rfl⟩ ⟨Nat.le_of_ble_eq_true rfl, (Nat.le_of_ble_eq_true rfl)⟩ ?_
  refine wg_pop X dX8_init_164 rfl ?_
  refine wg_iinc (lv' := [(1, .int (40 : Int32)), (0, .ref (ad306 0))]) X 0 dX8_init_165 rfl (by decide) (by decide) rfl ?_
  refine wg_goto X 142 dX8_init_168 (by decide) ?_
  refine wg_iload_n X 0 dX8_init_142 rfl rfl ?_
  refine wg_ldcS X 0 (by decide) rfl rfl dX8_init_143 ?_
  obtain ⟨r682, h681, h⟩ := bd_some h
  refine wg_callKi (As := []) (rest := [.int (40 : Int32)]) X (c_J0_length_8abf5 l E ad306 S313  C680 M 0 (by decide) h681) T_yJ0_length_8abf5 k_283 (by decide) dX8_init_145 rfl rfl (Nat.le_of_ble_eq_true rfl) ⟨Nat.le_of_ble_eq_true rfl, Nat.le_of_ble_eq_true rfl⟩ ⟨Nat.le_of_ble_eq_true rfl, (Nat.le_of_ble_eq_true rfl)⟩ ?_
  obtain ⟨z683, h⟩ := ck_some h
  rw [z683]
  refine wg_icmp_ge X 171 dX8_init_148 (by decide) (fun c684 => absurd c684 (by decide)) (fun c684 => ?_)
  refine wg_aload_n X 1 dX8_init_151 rfl rfl ?_
  refine wg_getR (b := 23) X cl8 z321 3 (by decide) dX8_init_152 k_475 rfl z322 ?_
  refine wg_ldcS X 0 (by decide) rfl rfl dX8_init_155 ?_
  refine wg_iload_n X 0 dX8_init_157 rfl rfl ?_
  obtain ⟨r686, h685, h⟩ := bd_some h
  refine wg_callKi (As := [.int (40 : Int32)]) (rest := [.ref (ad306 23)]) X (c_J0_charAt_5068e l E ad306 S313  C680 M 0 (40 : Int32) (by decide) h685) T_yJ0_charAt_5068e k_293 (by decide) dX8_init_158 rfl rfl (Nat.le_of_ble_eq_true rfl) ⟨Nat.le_of_ble_eq_true rfl, Nat.le_of_ble_eq_true rfl⟩ ⟨Nat.le_of_ble_eq_true rfl, (Nat.le_of_ble_eq_true rfl)⟩ ?_
  obtain ⟨r688, C689, h687, h⟩ := bd2_some h
  refine wg_callVi (As := [.int r686]) (rest := []) X (c_X5_put l E ad306 S313 (wg_SCb_iff.mp z325) C680 M r686  h687) T_yX5_put k_331 cl5 z329 dX8_init_161 rfl rfl (Nat.le_of_ble_eq_true rfl) ⟨Nat.le_of_ble_eq_true rfl, Nat.le_of_ble_eq_true rfl⟩ ⟨Nat.le_of_ble_eq_true rfl, (Nat.le_of_ble_eq_true rfl)⟩ ?_
  refine wg_pop X dX8_init_164 rfl ?_
  refine wg_iinc (lv' := [(1, .int (41 : Int32)), (0, .ref (ad306 0))]) X 0 dX8_init_165 rfl (by decide) (by decide) rfl ?_
  refine wg_goto X 142 dX8_init_168 (by decide) ?_
  refine wg_iload_n X 0 dX8_init_142 rfl rfl ?_
  refine wg_ldcS X 0 (by decide) rfl rfl dX8_init_143 ?_
  obtain ⟨r691, h690, h⟩ := bd_some h
  refine wg_callKi (As := []) (rest := [.int (41 : Int32)]) X (c_J0_length_8abf5 l E ad306 S313  C689 M 0 (by decide) h690) T_yJ0_length_8abf5 k_283 (by decide) dX8_init_145 rfl rfl (Nat.le_of_ble_eq_true rfl) ⟨Nat.le_of_ble_eq_true rfl, Nat.le_of_ble_eq_true rfl⟩ ⟨Nat.le_of_ble_eq_true rfl, (Nat.le_of_ble_eq_true rfl)⟩ ?_
  obtain ⟨z692, h⟩ := ck_some h
  rw [z692]
  refine wg_icmp_ge X 171 dX8_init_148 (by decide) (fun c693 => absurd c693 (by decide)) (fun c693 => ?_)
  refine wg_aload_n X 1 dX8_init_151 rfl rfl ?_
  refine wg_getR (b := 23) X cl8 z321 3 (by decide) dX8_init_152 k_475 rfl z322 ?_
  refine wg_ldcS X 0 (by decide) rfl rfl dX8_init_155 ?_
  refine wg_iload_n X 0 dX8_init_157 rfl rfl ?_
  obtain ⟨r695, h694, h⟩ := bd_some h
  refine wg_callKi (As := [.int (41 : Int32)]) (rest := [.ref (ad306 23)]) X (c_J0_charAt_5068e l E ad306 S313  C689 M 0 (41 : Int32) (by decide) h694) T_yJ0_charAt_5068e k_293 (by decide) dX8_init_158 rfl rfl (Nat.le_of_ble_eq_true rfl) ⟨Nat.le_of_ble_eq_true rfl, Nat.le_of_ble_eq_true rfl⟩ ⟨Nat.le_of_ble_eq_true rfl, (Nat.le_of_ble_eq_true rfl)⟩ ?_
  obtain ⟨r697, C698, h696, h⟩ := bd2_some h
  refine wg_callVi (As := [.int r695]) (rest := []) X (c_X5_put l E ad306 S313 (wg_SCb_iff.mp z325) C689 M r695  h696) T_yX5_put k_331 cl5 z329 dX8_init_161 rfl rfl (Nat.le_of_ble_eq_true rfl) ⟨Nat.le_of_ble_eq_true rfl, Nat.le_of_ble_eq_true rfl⟩ ⟨Nat.le_of_ble_eq_true rfl, (Nat.le_of_ble_eq_true rfl)⟩ ?_
  refine wg_pop X dX8_init_164 rfl ?_
  refine wg_iinc (lv' := [(1, .int (42 : Int32)), (0, .ref (ad306 0))]) X 0 dX8_init_165 rfl (by decide) (by decide) rfl ?_
  refine wg_goto X 142 dX8_init_168 (by decide) ?_
  refine wg_iload_n X 0 dX8_init_142 rfl rfl ?_
  refine wg_ldcS X 0 (by decide) rfl rfl dX8_init_143 ?_
  obtain ⟨r700, h699, h⟩ := bd_some h
  refine wg_callKi (As := []) (rest := [.int (42 : Int32)]) X (c_J0_length_8abf5 l E ad306 S313  C698 M 0 (by decide) h699) T_yJ0_length_8abf5 k_283 (by decide) dX8_init_145 rfl rfl (Nat.le_of_ble_eq_true rfl) ⟨Nat.le_of_ble_eq_true rfl, Nat.le_of_ble_eq_true rfl⟩ ⟨Nat.le_of_ble_eq_true rfl, (Nat.le_of_ble_eq_true rfl)⟩ ?_
  obtain ⟨z701, h⟩ := ck_some h
  rw [z701]
  refine wg_icmp_ge X 171 dX8_init_148 (by decide) (fun c702 => absurd c702 (by decide)) (fun c702 => ?_)
  refine wg_aload_n X 1 dX8_init_151 rfl rfl ?_
  refine wg_getR (b := 23) X cl8 z321 3 (by decide) dX8_init_152 k_475 rfl z322 ?_
  refine wg_ldcS X 0 (by decide) rfl rfl dX8_init_155 ?_
  refine wg_iload_n X 0 dX8_init_157 rfl rfl ?_
  obtain ⟨r704, h703, h⟩ := bd_some h
  refine wg_callKi (As := [.int (42 : Int32)]) (rest := [.ref (ad306 23)]) X (c_J0_charAt_5068e l E ad306 S313  C698 M 0 (42 : Int32) (by decide) h703) T_yJ0_charAt_5068e k_293 (by decide) dX8_init_158 rfl rfl (Nat.le_of_ble_eq_true rfl) ⟨Nat.le_of_ble_eq_true rfl, Nat.le_of_ble_eq_true rfl⟩ ⟨Nat.le_of_ble_eq_true rfl, (Nat.le_of_ble_eq_true rfl)⟩ ?_
  obtain ⟨r706, C707, h705, h⟩ := bd2_some h
  refine wg_callVi (As := [.int r704]) (rest := []) X (c_X5_put l E ad306 S313 (wg_SCb_iff.mp z325) C698 M r704  h705) T_yX5_put k_331 cl5 z329 dX8_init_161 rfl rfl (Nat.le_of_ble_eq_true rfl) ⟨Nat.le_of_ble_eq_true rfl, Nat.le_of_ble_eq_true rfl⟩ ⟨Nat.le_of_ble_eq_true rfl, (Nat.le_of_ble_eq_true rfl)⟩ ?_
  refine wg_pop X dX8_init_164 rfl ?_
  refine wg_iinc (lv' := [(1, .int (43 : Int32)), (0, .ref (ad306 0))]) X 0 dX8_init_165 rfl (by decide) (by decide) rfl ?_
  refine wg_goto X 142 dX8_init_168 (by decide) ?_
  refine wg_iload_n X 0 dX8_init_142 rfl rfl ?_
  refine wg_ldcS X 0 (by decide) rfl rfl dX8_init_143 ?_
  obtain ⟨r709, h708, h⟩ := bd_some h
  refine wg_callKi (As := []) (rest := [.int (43 : Int32)]) X (c_J0_length_8abf5 l E ad306 S313  C707 M 0 (by decide) h708) T_yJ0_length_8abf5 k_283 (by decide) dX8_init_145 rfl rfl (Nat.le_of_ble_eq_true rfl) ⟨Nat.le_of_ble_eq_true rfl, Nat.le_of_ble_eq_true rfl⟩ ⟨Nat.le_of_ble_eq_true rfl, (Nat.le_of_ble_eq_true rfl)⟩ ?_
  obtain ⟨z710, h⟩ := ck_some h
  rw [z710]
  refine wg_icmp_ge X 171 dX8_init_148 (by decide) (fun c711 => absurd c711 (by decide)) (fun c711 => ?_)
  refine wg_aload_n X 1 dX8_init_151 rfl rfl ?_
  refine wg_getR (b := 23) X cl8 z321 3 (by decide) dX8_init_152 k_475 rfl z322 ?_
  refine wg_ldcS X 0 (by decide) rfl rfl dX8_init_155 ?_
  refine wg_iload_n X 0 dX8_init_157 rfl rfl ?_
  obtain ⟨r713, h712, h⟩ := bd_some h
  refine wg_callKi (As := [.int (43 : Int32)]) (rest := [.ref (ad306 23)]) X (c_J0_charAt_5068e l E ad306 S313  C707 M 0 (43 : Int32) (by decide) h712) T_yJ0_charAt_5068e k_293 (by decide) dX8_init_158 rfl rfl (Nat.le_of_ble_eq_true rfl) ⟨Nat.le_of_ble_eq_true rfl, Nat.le_of_ble_eq_true rfl⟩ ⟨Nat.le_of_ble_eq_true rfl, (Nat.le_of_ble_eq_true rfl)⟩ ?_
  obtain ⟨r715, C716, h714, h⟩ := bd2_some h
  refine wg_callVi (As := [.int r713]) (rest := []) X (c_X5_put l E ad306 S313 (wg_SCb_iff.mp z325) C707 M r713  h714) T_yX5_put k_331 cl5 z329 dX8_init_161 rfl rfl (Nat.le_of_ble_eq_true rfl) ⟨Nat.le_of_ble_eq_true rfl, Nat.le_of_ble_eq_true rfl⟩ ⟨Nat.le_of_ble_eq_true rfl, (Nat.le_of_ble_eq_true rfl)⟩ ?_
  refine wg_pop X dX8_init_164 rfl ?_
  refine wg_iinc (lv' := [(1, .int (44 : Int32)), (0, .ref (ad306 0))]) X 0 dX8_init_165 rfl (by decide) (by decide) rfl ?_
  refine wg_goto X 142 dX8_init_168 (by decide) ?_
  refine wg_iload_n X 0 dX8_init_142 rfl rfl ?_
  refine wg_ldcS X 0 (by decide) rfl rfl dX8_init_143 ?_
  obtain ⟨r718, h717, h⟩ := bd_some h
  refine wg_callKi (As := []) (rest := [.int (44 : Int32)]) X (c_J0_length_8abf5 l E ad306 S313  C716 M 0 (by decide) h717) T_yJ0_length_8abf5 k_283 (by decide) dX8_init_145 rfl rfl (Nat.le_of_ble_eq_true rfl) ⟨Nat.le_of_ble_eq_true rfl, Nat.le_of_ble_eq_true rfl⟩ ⟨Nat.le_of_ble_eq_true rfl, (Nat.le_of_ble_eq_true rfl)⟩ ?_
  obtain ⟨z719, h⟩ := ck_some h
  rw [z719]
  refine wg_icmp_ge X 171 dX8_init_148 (by decide) (fun c720 => absurd c720 (by decide)) (fun c720 => ?_)
  refine wg_aload_n X 1 dX8_init_151 rfl rfl ?_
  refine wg_getR (b := 23) X cl8 z321 3 (by decide) dX8_init_152 k_475 rfl z322 ?_
  refine wg_ldcS X 0 (by decide) rfl rfl dX8_init_155 ?_
  refine wg_iload_n X 0 dX8_init_157 rfl rfl ?_
  obtain ⟨r722, h721, h⟩ := bd_some h
  refine wg_callKi (As := [.int (44 : Int32)]) (rest := [.ref (ad306 23)]) X (c_J0_charAt_5068e l E ad306 S313  C716 M 0 (44 : Int32) (by decide) h721) T_yJ0_charAt_5068e k_293 (by decide) dX8_init_158 rfl rfl (Nat.le_of_ble_eq_true rfl) ⟨Nat.le_of_ble_eq_true rfl, Nat.le_of_ble_eq_true rfl⟩ ⟨Nat.le_of_ble_eq_true rfl, (Nat.le_of_ble_eq_true rfl)⟩ ?_
  obtain ⟨r724, C725, h723, h⟩ := bd2_some h
  refine wg_callVi (As := [.int r722]) (rest := []) X (c_X5_put l E ad306 S313 (wg_SCb_iff.mp z325) C716 M r722  h723) T_yX5_put k_331 cl5 z329 dX8_init_161 rfl rfl (Nat.le_of_ble_eq_true rfl) ⟨Nat.le_of_ble_eq_true rfl, Nat.le_of_ble_eq_true rfl⟩ ⟨Nat.le_of_ble_eq_true rfl, (Nat.le_of_ble_eq_true rfl)⟩ ?_
  refine wg_pop X dX8_init_164 rfl ?_
  refine wg_iinc (lv' := [(1, .int (45 : Int32)), (0, .ref (ad306 0))]) X 0 dX8_init_165 rfl (by decide) (by decide) rfl ?_
  refine wg_goto X 142 dX8_init_168 (by decide) ?_
  refine wg_iload_n X 0 dX8_init_142 rfl rfl ?_
  refine wg_ldcS X 0 (by decide) rfl rfl dX8_init_143 ?_
  obtain ⟨r727, h726, h⟩ := bd_some h
  refine wg_callKi (As := []) (rest := [.int (45 : Int32)]) X (c_J0_length_8abf5 l E ad306 S313  C725 M 0 (by decide) h726) T_yJ0_length_8abf5 k_283 (by decide) dX8_init_145 rfl rfl (Nat.le_of_ble_eq_true rfl) ⟨Nat.le_of_ble_eq_true rfl, Nat.le_of_ble_eq_true rfl⟩ ⟨Nat.le_of_ble_eq_true rfl, (Nat.le_of_ble_eq_true rfl)⟩ ?_
  obtain ⟨z728, h⟩ := ck_some h
  rw [z728]
  refine wg_icmp_ge X 171 dX8_init_148 (by decide) (fun c729 => absurd c729 (by decide)) (fun c729 => ?_)
  refine wg_aload_n X 1 dX8_init_151 rfl rfl ?_
  refine wg_getR (b := 23) X cl8 z321 3 (by decide) dX8_init_152 k_475 rfl z322 ?_
  refine wg_ldcS X 0 (by decide) rfl rfl dX8_init_155 ?_
  refine wg_iload_n X 0 dX8_init_157 rfl rfl ?_
  obtain ⟨r731, h730, h⟩ := bd_some h
  refine wg_callKi (As := [.int (45 : Int32)]) (rest := [.ref (ad306 23)]) X (c_J0_charAt_5068e l E ad306 S313  C725 M 0 (45 : Int32) (by decide) h730) T_yJ0_charAt_5068e k_293 (by decide) dX8_init_158 rfl rfl (Nat.le_of_ble_eq_true rfl) ⟨Nat.le_of_ble_eq_true rfl, Nat.le_of_ble_eq_true rfl⟩ ⟨Nat.le_of_ble_eq_true rfl, (Nat.le_of_ble_eq_true rfl)⟩ ?_
  obtain ⟨r733, C734, h732, h⟩ := bd2_some h
  refine wg_callVi (As := [.int r731]) (rest := []) X (c_X5_put l E ad306 S313 (wg_SCb_iff.mp z325) C725 M r731  h732) T_yX5_put k_331 cl5 z329 dX8_init_161 rfl rfl (Nat.le_of_ble_eq_true rfl) ⟨Nat.le_of_ble_eq_true rfl, Nat.le_of_ble_eq_true rfl⟩ ⟨Nat.le_of_ble_eq_true rfl, (Nat.le_of_ble_eq_true rfl)⟩ ?_
  refine wg_pop X dX8_init_164 rfl ?_
  refine wg_iinc (lv' := [(1, .int (46 : Int32)), (0, .ref (ad306 0))]) X 0 dX8_init_165 rfl (by decide) (by decide) rfl ?_
  refine wg_goto X 142 dX8_init_168 (by decide) ?_
  refine wg_iload_n X 0 dX8_init_142 rfl rfl ?_
  refine wg_ldcS X 0 (by decide) rfl rfl dX8_init_143 ?_
  obtain ⟨r736, h735, h⟩ := bd_some h
  refine wg_callKi (As := []) (rest := [.int (46 : Int32)]) X (c_J0_length_8abf5 l E ad306 S313  C734 M 0 (by decide) h735) T_yJ0_length_8abf5 k_283 (by decide) dX8_init_145 rfl rfl (Nat.le_of_ble_eq_true rfl) ⟨Nat.le_of_ble_eq_true rfl, Nat.le_of_ble_eq_true rfl⟩ ⟨Nat.le_of_ble_eq_true rfl, (Nat.le_of_ble_eq_true rfl)⟩ ?_
  obtain ⟨z737, h⟩ := ck_some h
  rw [z737]
  refine wg_icmp_ge X 171 dX8_init_148 (by decide) (fun c738 => absurd c738 (by decide)) (fun c738 => ?_)
  refine wg_aload_n X 1 dX8_init_151 rfl rfl ?_
  refine wg_getR (b := 23) X cl8 z321 3 (by decide) dX8_init_152 k_475 rfl z322 ?_
  refine wg_ldcS X 0 (by decide) rfl rfl dX8_init_155 ?_
  refine wg_iload_n X 0 dX8_init_157 rfl rfl ?_
  obtain ⟨r740, h739, h⟩ := bd_some h
  refine wg_callKi (As := [.int (46 : Int32)]) (rest := [.ref (ad306 23)]) X (c_J0_charAt_5068e l E ad306 S313  C734 M 0 (46 : Int32) (by decide) h739) T_yJ0_charAt_5068e k_293 (by decide) dX8_init_158 rfl rfl (Nat.le_of_ble_eq_true rfl) ⟨Nat.le_of_ble_eq_true rfl, Nat.le_of_ble_eq_true rfl⟩ ⟨Nat.le_of_ble_eq_true rfl, (Nat.le_of_ble_eq_true rfl)⟩ ?_
  obtain ⟨r742, C743, h741, h⟩ := bd2_some h
  refine wg_callVi (As := [.int r740]) (rest := []) X (c_X5_put l E ad306 S313 (wg_SCb_iff.mp z325) C734 M r740  h741) T_yX5_put k_331 cl5 z329 dX8_init_161 rfl rfl (Nat.le_of_ble_eq_true rfl) ⟨Nat.le_of_ble_eq_true rfl, Nat.le_of_ble_eq_true rfl⟩ ⟨Nat.le_of_ble_eq_true rfl, (Nat.le_of_ble_eq_true rfl)⟩ ?_
  refine wg_pop X dX8_init_164 rfl ?_
  refine wg_iinc (lv' := [(1, .int (47 : Int32)), (0, .ref (ad306 0))]) X 0 dX8_init_165 rfl (by decide) (by decide) rfl ?_
  refine wg_goto X 142 dX8_init_168 (by decide) ?_
  refine wg_iload_n X 0 dX8_init_142 rfl rfl ?_
  refine wg_ldcS X 0 (by decide) rfl rfl dX8_init_143 ?_
  obtain ⟨r745, h744, h⟩ := bd_some h
  refine wg_callKi (As := []) (rest := [.int (47 : Int32)]) X (c_J0_length_8abf5 l E ad306 S313  C743 M 0 (by decide) h744) T_yJ0_length_8abf5 k_283 (by decide) dX8_init_145 rfl rfl (Nat.le_of_ble_eq_true rfl) ⟨Nat.le_of_ble_eq_true rfl, Nat.le_of_ble_eq_true rfl⟩ ⟨Nat.le_of_ble_eq_true rfl, (Nat.le_of_ble_eq_true rfl)⟩ ?_
  obtain ⟨z746, h⟩ := ck_some h
  rw [z746]
  refine wg_icmp_ge X 171 dX8_init_148 (by decide) (fun c747 => absurd c747 (by decide)) (fun c747 => ?_)
  refine wg_aload_n X 1 dX8_init_151 rfl rfl ?_
  refine wg_getR (b := 23) X cl8 z321 3 (by decide) dX8_init_152 k_475 rfl z322 ?_
  refine wg_ldcS X 0 (by decide) rfl rfl dX8_init_155 ?_
  refine wg_iload_n X 0 dX8_init_157 rfl rfl ?_
  obtain ⟨r749, h748, h⟩ := bd_some h
  refine wg_callKi (As := [.int (47 : Int32)]) (rest := [.ref (ad306 23)]) X (c_J0_charAt_5068e l E ad306 S313  C743 M 0 (47 : Int32) (by decide) h748) T_yJ0_charAt_5068e k_293 (by decide) dX8_init_158 rfl rfl (Nat.le_of_ble_eq_true rfl) ⟨Nat.le_of_ble_eq_true rfl, Nat.le_of_ble_eq_true rfl⟩ ⟨Nat.le_of_ble_eq_true rfl, (Nat.le_of_ble_eq_true rfl)⟩ ?_
  obtain ⟨r751, C752, h750, h⟩ := bd2_some h
  refine wg_callVi (As := [.int r749]) (rest := []) X (c_X5_put l E ad306 S313 (wg_SCb_iff.mp z325) C743 M r749  h750) T_yX5_put k_331 cl5 z329 dX8_init_161 rfl rfl (Nat.le_of_ble_eq_true rfl) ⟨Nat.le_of_ble_eq_true rfl, Nat.le_of_ble_eq_true rfl⟩ ⟨Nat.le_of_ble_eq_true rfl, (Nat.le_of_ble_eq_true rfl)⟩ ?_
  refine wg_pop X dX8_init_164 rfl ?_
  refine wg_iinc (lv' := [(1, .int (48 : Int32)), (0, .ref (ad306 0))]) X 0 dX8_init_165 rfl (by decide) (by decide) rfl ?_
  refine wg_goto X 142 dX8_init_168 (by decide) ?_
  refine wg_iload_n X 0 dX8_init_142 rfl rfl ?_
  refine wg_ldcS X 0 (by decide) rfl rfl dX8_init_143 ?_
  obtain ⟨r754, h753, h⟩ := bd_some h
  refine wg_callKi (As := []) (rest := [.int (48 : Int32)]) X (c_J0_length_8abf5 l E ad306 S313  C752 M 0 (by decide) h753) T_yJ0_length_8abf5 k_283 (by decide) dX8_init_145 rfl rfl (Nat.le_of_ble_eq_true rfl) ⟨Nat.le_of_ble_eq_true rfl, Nat.le_of_ble_eq_true rfl⟩ ⟨Nat.le_of_ble_eq_true rfl, (Nat.le_of_ble_eq_true rfl)⟩ ?_
  obtain ⟨z755, h⟩ := ck_some h
  rw [z755]
  refine wg_icmp_ge X 171 dX8_init_148 (by decide) (fun c756 => absurd c756 (by decide)) (fun c756 => ?_)
  refine wg_aload_n X 1 dX8_init_151 rfl rfl ?_
  refine wg_getR (b := 23) X cl8 z321 3 (by decide) dX8_init_152 k_475 rfl z322 ?_
  refine wg_ldcS X 0 (by decide) rfl rfl dX8_init_155 ?_
  refine wg_iload_n X 0 dX8_init_157 rfl rfl ?_
  obtain ⟨r758, h757, h⟩ := bd_some h
  refine wg_callKi (As := [.int (48 : Int32)]) (rest := [.ref (ad306 23)]) X (c_J0_charAt_5068e l E ad306 S313  C752 M 0 (48 : Int32) (by decide) h757) T_yJ0_charAt_5068e k_293 (by decide) dX8_init_158 rfl rfl (Nat.le_of_ble_eq_true rfl) ⟨Nat.le_of_ble_eq_true rfl, Nat.le_of_ble_eq_true rfl⟩ ⟨Nat.le_of_ble_eq_true rfl, (Nat.le_of_ble_eq_true rfl)⟩ ?_
  obtain ⟨r760, C761, h759, h⟩ := bd2_some h
  refine wg_callVi (As := [.int r758]) (rest := []) X (c_X5_put l E ad306 S313 (wg_SCb_iff.mp z325) C752 M r758  h759) T_yX5_put k_331 cl5 z329 dX8_init_161 rfl rfl (Nat.le_of_ble_eq_true rfl) ⟨Nat.le_of_ble_eq_true rfl, Nat.le_of_ble_eq_true rfl⟩ ⟨Nat.le_of_ble_eq_true rfl, (Nat.le_of_ble_eq_true rfl)⟩ ?_
  refine wg_pop X dX8_init_164 rfl ?_
  refine wg_iinc (lv' := [(1, .int (49 : Int32)), (0, .ref (ad306 0))]) X 0 dX8_init_165 rfl (by decide) (by decide) rfl ?_
  refine wg_goto X 142 dX8_init_168 (by decide) ?_
  refine wg_iload_n X 0 dX8_init_142 rfl rfl ?_
  refine wg_ldcS X 0 (by decide) rfl rfl dX8_init_143 ?_
  obtain ⟨r763, h762, h⟩ := bd_some h
  refine wg_callKi (As := []) (rest := [.int (49 : Int32)]) X (c_J0_length_8abf5 l E ad306 S313  C761 M 0 (by decide) h762) T_yJ0_length_8abf5 k_283 (by decide) dX8_init_145 rfl rfl (Nat.le_of_ble_eq_true rfl) ⟨Nat.le_of_ble_eq_true rfl, Nat.le_of_ble_eq_true rfl⟩ ⟨Nat.le_of_ble_eq_true rfl, (Nat.le_of_ble_eq_true rfl)⟩ ?_
  obtain ⟨z764, h⟩ := ck_some h
  rw [z764]
  refine wg_icmp_ge X 171 dX8_init_148 (by decide) (fun c765 => absurd c765 (by decide)) (fun c765 => ?_)
  refine wg_aload_n X 1 dX8_init_151 rfl rfl ?_
  refine wg_getR (b := 23) X cl8 z321 3 (by decide) dX8_init_152 k_475 rfl z322 ?_
  refine wg_ldcS X 0 (by decide) rfl rfl dX8_init_155 ?_
  refine wg_iload_n X 0 dX8_init_157 rfl rfl ?_
  obtain ⟨r767, h766, h⟩ := bd_some h
  refine wg_callKi (As := [.int (49 : Int32)]) (rest := [.ref (ad306 23)]) X (c_J0_charAt_5068e l E ad306 S313  C761 M 0 (49 : Int32) (by decide) h766) T_yJ0_charAt_5068e k_293 (by decide) dX8_init_158 rfl rfl (Nat.le_of_ble_eq_true rfl) ⟨Nat.le_of_ble_eq_true rfl, Nat.le_of_ble_eq_true rfl⟩ ⟨Nat.le_of_ble_eq_true rfl, (Nat.le_of_ble_eq_true rfl)⟩ ?_
  obtain ⟨r769, C770, h768, h⟩ := bd2_some h
  refine wg_callVi (As := [.int r767]) (rest := []) X (c_X5_put l E ad306 S313 (wg_SCb_iff.mp z325) C761 M r767  h768) T_yX5_put k_331 cl5 z329 dX8_init_161 rfl rfl (Nat.le_of_ble_eq_true rfl) ⟨Nat.le_of_ble_eq_true rfl, Nat.le_of_ble_eq_true rfl⟩ ⟨Nat.le_of_ble_eq_true rfl, (Nat.le_of_ble_eq_true rfl)⟩ ?_
  refine wg_pop X dX8_init_164 rfl ?_
  refine wg_iinc (lv' := [(1, .int (50 : Int32)), (0, .ref (ad306 0))]) X 0 dX8_init_165 rfl (by decide) (by decide) rfl ?_
  refine wg_goto X 142 dX8_init_168 (by decide) ?_
  refine wg_iload_n X 0 dX8_init_142 rfl rfl ?_
  refine wg_ldcS X 0 (by decide) rfl rfl dX8_init_143 ?_
  obtain ⟨r772, h771, h⟩ := bd_some h
  refine wg_callKi (As := []) (rest := [.int (50 : Int32)]) X (c_J0_length_8abf5 l E ad306 S313  C770 M 0 (by decide) h771) T_yJ0_length_8abf5 k_283 (by decide) dX8_init_145 rfl rfl (Nat.le_of_ble_eq_true rfl) ⟨Nat.le_of_ble_eq_true rfl, Nat.le_of_ble_eq_true rfl⟩ ⟨Nat.le_of_ble_eq_true rfl, (Nat.le_of_ble_eq_true rfl)⟩ ?_
  obtain ⟨z773, h⟩ := ck_some h
  rw [z773]
  refine wg_icmp_ge X 171 dX8_init_148 (by decide) (fun c774 => absurd c774 (by decide)) (fun c774 => ?_)
  refine wg_aload_n X 1 dX8_init_151 rfl rfl ?_
  refine wg_getR (b := 23) X cl8 z321 3 (by decide) dX8_init_152 k_475 rfl z322 ?_
  refine wg_ldcS X 0 (by decide) rfl rfl dX8_init_155 ?_
  refine wg_iload_n X 0 dX8_init_157 rfl rfl ?_
  obtain ⟨r776, h775, h⟩ := bd_some h
  refine wg_callKi (As := [.int (50 : Int32)]) (rest := [.ref (ad306 23)]) X (c_J0_charAt_5068e l E ad306 S313  C770 M 0 (50 : Int32) (by decide) h775) T_yJ0_charAt_5068e k_293 (by decide) dX8_init_158 rfl rfl (Nat.le_of_ble_eq_true rfl) ⟨Nat.le_of_ble_eq_true rfl, Nat.le_of_ble_eq_true rfl⟩ ⟨Nat.le_of_ble_eq_true rfl, (Nat.le_of_ble_eq_true rfl)⟩ ?_
  obtain ⟨r778, C779, h777, h⟩ := bd2_some h
  refine wg_callVi (As := [.int r776]) (rest := []) X (c_X5_put l E ad306 S313 (wg_SCb_iff.mp z325) C770 M r776  h777) T_yX5_put k_331 cl5 z329 dX8_init_161 rfl rfl (Nat.le_of_ble_eq_true rfl) ⟨Nat.le_of_ble_eq_true rfl, Nat.le_of_ble_eq_true rfl⟩ ⟨Nat.le_of_ble_eq_true rfl, (Nat.le_of_ble_eq_true rfl)⟩ ?_
  refine wg_pop X dX8_init_164 rfl ?_
  refine wg_iinc (lv' := [(1, .int (51 : Int32)), (0, .ref (ad306 0))]) X 0 dX8_init_165 rfl (by decide) (by decide) rfl ?_
  refine wg_goto X 142 dX8_init_168 (by decide) ?_
  refine wg_iload_n X 0 dX8_init_142 rfl rfl ?_
  refine wg_ldcS X 0 (by decide) rfl rfl dX8_init_143 ?_
  obtain ⟨r781, h780, h⟩ := bd_some h
  refine wg_callKi (As := []) (rest := [.int (51 : Int32)]) X (c_J0_length_8abf5 l E ad306 S313  C779 M 0 (by decide) h780) T_yJ0_length_8abf5 k_283 (by decide) dX8_init_145 rfl rfl (Nat.le_of_ble_eq_true rfl) ⟨Nat.le_of_ble_eq_true rfl, Nat.le_of_ble_eq_true rfl⟩ ⟨Nat.le_of_ble_eq_true rfl, (Nat.le_of_ble_eq_true rfl)⟩ ?_
  obtain ⟨z782, h⟩ := ck_some h
  rw [z782]
  refine wg_icmp_ge X 171 dX8_init_148 (by decide) (fun c783 => absurd c783 (by decide)) (fun c783 => ?_)
  refine wg_aload_n X 1 dX8_init_151 rfl rfl ?_
  refine wg_getR (b := 23) X cl8 z321 3 (by decide) dX8_init_152 k_475 rfl z322 ?_
  refine wg_ldcS X 0 (by decide) rfl rfl dX8_init_155 ?_
  refine wg_iload_n X 0 dX8_init_157 rfl rfl ?_
  obtain ⟨r785, h784, h⟩ := bd_some h
  refine wg_callKi (As := [.int (51 : Int32)]) (rest := [.ref (ad306 23)]) X (c_J0_charAt_5068e l E ad306 S313  C779 M 0 (51 : Int32) (by decide) h784) T_yJ0_charAt_5068e k_293 (by decide) dX8_init_158 rfl rfl (Nat.le_of_ble_eq_true rfl) ⟨Nat.le_of_ble_eq_true rfl, Nat.le_of_ble_eq_true rfl⟩ ⟨Nat.le_of_ble_eq_true rfl, (Nat.le_of_ble_eq_true rfl)⟩ ?_
  obtain ⟨r787, C788, h786, h⟩ := bd2_some h
  refine wg_callVi (As := [.int r785]) (rest := []) X (c_X5_put l E ad306 S313 (wg_SCb_iff.mp z325) C779 M r785  h786) T_yX5_put k_331 cl5 z329 dX8_init_161 rfl rfl (Nat.le_of_ble_eq_true rfl) ⟨Nat.le_of_ble_eq_true rfl, Nat.le_of_ble_eq_true rfl⟩ ⟨Nat.le_of_ble_eq_true rfl, (Nat.le_of_ble_eq_true rfl)⟩ ?_
  refine wg_pop X dX8_init_164 rfl ?_
  refine wg_iinc (lv' := [(1, .int (52 : Int32)), (0, .ref (ad306 0))]) X 0 dX8_init_165 rfl (by decide) (by decide) rfl ?_
  refine wg_goto X 142 dX8_init_168 (by decide) ?_
  refine wg_iload_n X 0 dX8_init_142 rfl rfl ?_
  refine wg_ldcS X 0 (by decide) rfl rfl dX8_init_143 ?_
  obtain ⟨r790, h789, h⟩ := bd_some h
  refine wg_callKi (As := []) (rest := [.int (52 : Int32)]) X (c_J0_length_8abf5 l E ad306 S313  C788 M 0 (by decide) h789) T_yJ0_length_8abf5 k_283 (by decide) dX8_init_145 rfl rfl (Nat.le_of_ble_eq_true rfl) ⟨Nat.le_of_ble_eq_true rfl, Nat.le_of_ble_eq_true rfl⟩ ⟨Nat.le_of_ble_eq_true rfl, (Nat.le_of_ble_eq_true rfl)⟩ ?_
  obtain ⟨z791, h⟩ := ck_some h
  rw [z791]
  refine wg_icmp_ge X 171 dX8_init_148 (by decide) (fun c792 => absurd c792 (by decide)) (fun c792 => ?_)
  refine wg_aload_n X 1 dX8_init_151 rfl rfl ?_
  refine wg_getR (b := 23) X cl8 z321 3 (by decide) dX8_init_152 k_475 rfl z322 ?_
  refine wg_ldcS X 0 (by decide) rfl rfl dX8_init_155 ?_
  refine wg_iload_n X 0 dX8_init_157 rfl rfl ?_
  obtain ⟨r794, h793, h⟩ := bd_some h
  refine wg_callKi (As := [.int (52 : Int32)]) (rest := [.ref (ad306 23)]) X (c_J0_charAt_5068e l E ad306 S313  C788 M 0 (52 : Int32) (by decide) h793) T_yJ0_charAt_5068e k_293 (by decide) dX8_init_158 rfl rfl (Nat.le_of_ble_eq_true rfl) ⟨Nat.le_of_ble_eq_true rfl, Nat.le_of_ble_eq_true rfl⟩ ⟨Nat.le_of_ble_eq_true rfl, (Nat.le_of_ble_eq_true rfl)⟩ ?_
  obtain ⟨r796, C797, h795, h⟩ := bd2_some h
  refine wg_callVi (As := [.int r794]) (rest := []) X (c_X5_put l E ad306 S313 (wg_SCb_iff.mp z325) C788 M r794  h795) T_yX5_put k_331 cl5 z329 dX8_init_161 rfl rfl (Nat.le_of_ble_eq_true rfl) ⟨Nat.le_of_ble_eq_true rfl, Nat.le_of_ble_eq_true rfl⟩ ⟨Nat.le_of_ble_eq_true rfl, (Nat.le_of_ble_eq_true rfl)⟩ ?_
  refine wg_pop X dX8_init_164 rfl ?_
  refine wg_iinc (lv' := [(1, .int (53 : Int32)), (0, .ref (ad306 0))]) X 0 dX8_init_165 rfl (by decide) (by decide) rfl ?_
  refine wg_goto X 142 dX8_init_168 (by decide) ?_
  refine wg_iload_n X 0 dX8_init_142 rfl rfl ?_
  refine wg_ldcS X 0 (by decide) rfl rfl dX8_init_143 ?_
  obtain ⟨r799, h798, h⟩ := bd_some h
  refine wg_callKi (As := []) (rest := [.int (53 : Int32)]) X (c_J0_length_8abf5 l E ad306 S313  C797 M 0 (by decide) h798) T_yJ0_length_8abf5 k_283 (by decide) dX8_init_145 rfl rfl (Nat.le_of_ble_eq_true rfl) ⟨Nat.le_of_ble_eq_true rfl, Nat.le_of_ble_eq_true rfl⟩ ⟨Nat.le_of_ble_eq_true rfl, (Nat.le_of_ble_eq_true rfl)⟩ ?_
  obtain ⟨z800, h⟩ := ck_some h
  rw [z800]
  refine wg_icmp_ge X 171 dX8_init_148 (by decide) (fun c801 => ?_) (fun c801 => absurd c801 (by decide))
  refine wg_aload_n X 1 dX8_init_171 rfl rfl ?_
  obtain ⟨z802, h⟩ := ck_some h
  refine wg_getR (b := 31) X cl8 z321 5 (by decide) dX8_init_172 k_477 rfl z802 ?_
  refine wg_aload_n X 1 dX8_init_175 rfl rfl ?_
  obtain ⟨z803, h⟩ := ck_some h
  refine wg_getR (b := 28) X cl8 z321 4 (by decide) dX8_init_176 k_476 rfl z803 ?_
  refine wg_aload_n X 1 dX8_init_179 rfl rfl ?_
  refine wg_getR (b := 23) X cl8 z321 3 (by decide) dX8_init_180 k_475 rfl z322 ?_
  obtain ⟨z804, h⟩ := ck_some h
  obtain ⟨z805, h⟩ := ck_some h
  obtain ⟨r809, S807, C808, h806, h⟩ := bd3_some h
  refine wg_callVa (As := [.ref (ad306 23)]) (rest := [.ref (ad306 31)]) X (c_X2_read l E ad306 S313 hx315.1 N C797 M  h806) T_yX2_read k_335 cl2 z805 dX8_init_183 rfl rfl (Nat.le_of_ble_eq_true rfl) ⟨Nat.le_of_ble_eq_true rfl, Nat.le_of_ble_eq_true rfl⟩ ⟨Nat.le_of_ble_eq_true rfl, (Nat.le_of_ble_eq_true rfl)⟩ hx315 (fun ad810 hx811 ha812 => ?_)
  refine wg_cs (k := 54) (n := 1991) rfl rfl ?_
  refine wg_ren (lv' := [(1, .int (53 : Int32)), (0, .ref (ad810 0))]) (st' := [va_re ad810 r809, .ref (ad810 31)]) (by first | rfl | simp only [ha812 0 z804.1, ha812 31 z804.2]) (by first | rfl | simp only [Option.toList, List.nil_append, List.cons_append, ha812 0 z804.1, ha812 31 z804.2]) ?_
  obtain ⟨t813, e814, h⟩ := bd_some h
  refine wg_some e814 ?_
  obtain ⟨z815, h⟩ := ck_some h
  obtain ⟨z816, h⟩ := ck_some h
  obtain ⟨r820, S818, C819, h817, h⟩ := bd3_some h
  refine wg_callVa (As := [.ref (ad810 t813)]) (rest := []) X (c_X3_add l E ad810 S807 hx811.1 C808 M t813 h817) T_yX3_add k_464 cl3 z816 dX8_init_186 rfl rfl (Nat.le_of_ble_eq_true rfl) ⟨Nat.le_of_ble_eq_true rfl, Nat.le_of_ble_eq_true rfl⟩ ⟨Nat.le_of_ble_eq_true rfl, (Nat.le_of_ble_eq_true rfl)⟩ hx811 (fun ad821 hx822 ha823 => ?_)
  refine wg_cs (k := 54) (n := 1991) rfl rfl ?_
  refine wg_ren (lv' := [(1, .int (53 : Int32)), (0, .ref (ad821 0))]) (st' := [.int r820]) (by first | rfl | simp only [ha823 0 z815]) (by first | rfl | simp only [Option.toList, List.nil_append, List.cons_append, ha823 0 z815]) ?_
  refine wg_pop X dX8_init_189 rfl ?_
  refine wg_aload_n X 1 dX8_init_190 rfl rfl ?_
  obtain ⟨z824, h⟩ := ck_some h
  obtain ⟨z825, h⟩ := ck_some h
  refine wg_getR (b := 23) X cl8 z824 3 (by decide) dX8_init_191 k_475 rfl z825 ?_
  obtain ⟨z826, h⟩ := ck_some h
  obtain ⟨C828, h827, h⟩ := bd_some h
  obtain ⟨z829, h⟩ := ck_some h
  refine wg_callVv (As := []) (rest := []) X (c_X5_empty l E ad821 S818 (wg_SCb_iff.mp z826) C819 M   h827) T_yX5_empty k_468 cl5 z829 dX8_init_194 rfl rfl (Nat.le_of_ble_eq_true rfl) ⟨Nat.le_of_ble_eq_true rfl, Nat.le_of_ble_eq_true rfl⟩ ⟨Nat.le_of_ble_eq_true rfl, (Nat.le_of_ble_eq_true rfl)⟩ ?_
  refine wg_widen (k := 54) (n := 2500) (Nat.le_of_ble_eq_true rfl) (Nat.le_of_ble_eq_true rfl) ?_
  exact wg_avret X hx822 rfl ⟨(Prod.mk.inj (sm_inj h)).1, (Prod.mk.inj (sm_inj h)).2, rfl⟩ hr dX8_init_197
