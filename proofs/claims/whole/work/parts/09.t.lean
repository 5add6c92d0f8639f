set_option maxRecDepth 100000 in
theorem pm_cw0 : pm_hw 0 ∈ lw_tbl := List.mem_of_getElem? (i := 75) rfl
set_option maxRecDepth 100000 in
theorem pm_cw1 : pm_hw 1 ∈ lw_tbl := List.mem_of_getElem? (i := 251) rfl
set_option maxRecDepth 100000 in
theorem pm_cw2 : pm_hw 2 ∈ lw_tbl := List.mem_of_getElem? (i := 451) rfl
set_option maxRecDepth 100000 in
theorem pm_cw3 : pm_hw 3 ∈ lw_tbl := List.mem_of_getElem? (i := 528) rfl
set_option maxRecDepth 100000 in
theorem pm_cw4 : pm_hw 4 ∈ lw_tbl := List.mem_of_getElem? (i := 535) rfl
set_option maxRecDepth 100000 in
theorem pm_cw5 : pm_hw 5 ∈ lw_tbl := List.mem_of_getElem? (i := 550) rfl
set_option maxRecDepth 100000 in
theorem pm_cw6 : pm_hw 6 ∈ lw_tbl := List.mem_of_getElem? (i := 557) rfl
set_option maxRecDepth 100000 in
theorem pm_cw7 : pm_hw 7 ∈ lw_tbl := List.mem_of_getElem? (i := 565) rfl
set_option maxRecDepth 100000 in
theorem pm_cw8 : pm_hw 8 ∈ lw_tbl := List.mem_of_getElem? (i := 602) rfl
set_option maxRecDepth 100000 in
theorem pm_cw9 : pm_hw 9 ∈ lw_tbl := List.mem_of_getElem? (i := 609) rfl
set_option maxRecDepth 100000 in
theorem pm_cw10 : pm_hw 10 ∈ lw_tbl := List.mem_of_getElem? (i := 616) rfl
set_option maxRecDepth 100000 in
theorem pm_cw11 : pm_hw 11 ∈ lw_tbl := List.mem_of_getElem? (i := 623) rfl
set_option maxRecDepth 100000 in
theorem pm_cw12 : pm_hw 12 ∈ lw_tbl := List.mem_of_getElem? (i := 630) rfl
set_option maxRecDepth 100000 in
theorem pm_cw13 : pm_hw 13 ∈ lw_tbl := List.mem_of_getElem? (i := 637) rfl
set_option maxRecDepth 100000 in
theorem pm_cw14 : pm_hw 14 ∈ lw_tbl := List.mem_of_getElem? (i := 644) rfl
set_option maxRecDepth 100000 in
theorem pm_cw15 : pm_hw 15 ∈ lw_tbl := List.mem_of_getElem? (i := 655) rfl
set_option maxRecDepth 100000 in
theorem pm_cw16 : pm_hw 16 ∈ lw_tbl := List.mem_of_getElem? (i := 413) rfl
set_option maxRecDepth 100000 in
theorem pm_cw17 : pm_hw 17 ∈ lw_tbl := List.mem_of_getElem? (i := 424) rfl
set_option maxRecDepth 100000 in
theorem pm_cw18 : pm_hw 18 ∈ lw_tbl := List.mem_of_getElem? (i := 428) rfl
set_option maxRecDepth 100000 in
theorem pm_cw19 : pm_hw 19 ∈ lw_tbl := List.mem_of_getElem? (i := 435) rfl
set_option maxRecDepth 100000 in
theorem pm_cw20 : pm_hw 20 ∈ lw_tbl := List.mem_of_getElem? (i := 431) rfl
set_option maxRecDepth 100000 in
theorem pm_cw21 : pm_hw 21 ∈ lw_tbl := List.mem_of_getElem? (i := 420) rfl
set_option maxRecDepth 100000 in
theorem pm_cw22 : pm_hw 22 ∈ lw_tbl := List.mem_of_getElem? (i := 568) rfl
set_option maxRecDepth 100000 in
theorem pm_cw23 : pm_hw 23 ∈ lw_tbl := List.mem_of_getElem? (i := 455) rfl
set_option maxRecDepth 100000 in
theorem pm_cw24 : pm_hw 24 ∈ lw_tbl := List.mem_of_getElem? (i := 417) rfl
set_option maxRecDepth 100000 in
theorem pm_cw25 : pm_hw 25 ∈ lw_tbl := List.mem_of_getElem? (i := 287) rfl
set_option maxRecDepth 100000 in
theorem pm_cw26 : pm_hw 26 ∈ lw_tbl := List.mem_of_getElem? (i := 648) rfl
set_option maxRecDepth 100000 in
theorem pm_cw27 : pm_hw 27 ∈ lw_tbl := List.mem_of_getElem? (i := 316) rfl
set_option maxRecDepth 100000 in
theorem pm_cw28 : pm_hw 28 ∈ lw_tbl := List.mem_of_getElem? (i := 385) rfl
set_option maxRecDepth 100000 in
theorem pm_cw29 : pm_hw 29 ∈ lw_tbl := List.mem_of_getElem? (i := 443) rfl
set_option maxRecDepth 100000 in
theorem pm_cw30 : pm_hw 30 ∈ lw_tbl := List.mem_of_getElem? (i := 543) rfl
set_option maxRecDepth 100000 in
theorem pm_cw31 : pm_hw 31 ∈ lw_tbl := List.mem_of_getElem? (i := 439) rfl
set_option maxRecDepth 100000 in
theorem pm_cw32 : pm_hw 32 ∈ lw_tbl := List.mem_of_getElem? (i := 259) rfl
set_option maxRecDepth 100000 in
theorem pm_cw33 : pm_hw 33 ∈ lw_tbl := List.mem_of_getElem? (i := 263) rfl
set_option maxRecDepth 100000 in
theorem pm_cw34 : pm_hw 34 ∈ lw_tbl := List.mem_of_getElem? (i := 295) rfl
set_option maxRecDepth 100000 in
theorem pm_cw35 : pm_hw 35 ∈ lw_tbl := List.mem_of_getElem? (i := 283) rfl
set_option maxRecDepth 100000 in
theorem pm_cw36 : pm_hw 36 ∈ lw_tbl := List.mem_of_getElem? (i := 591) rfl
set_option maxRecDepth 100000 in
theorem pm_cw37 : pm_hw 37 ∈ lw_tbl := List.mem_of_getElem? (i := 347) rfl
set_option maxRecDepth 100000 in
theorem pm_cw38 : pm_hw 38 ∈ lw_tbl := List.mem_of_getElem? (i := 351) rfl
set_option maxRecDepth 100000 in
theorem pm_cw39 : pm_hw 39 ∈ lw_tbl := List.mem_of_getElem? (i := 408) rfl
set_option maxRecDepth 100000 in
theorem pm_cw40 : pm_hw 40 ∈ lw_tbl := List.mem_of_getElem? (i := 355) rfl
set_option maxRecDepth 100000 in
theorem pm_cw41 : pm_hw 41 ∈ lw_tbl := List.mem_of_getElem? (i := 359) rfl
set_option maxRecDepth 100000 in
theorem pm_cw42 : pm_hw 42 ∈ lw_tbl := List.mem_of_getElem? (i := 367) rfl
set_option maxRecDepth 100000 in
theorem pm_cw43 : pm_hw 43 ∈ lw_tbl := List.mem_of_getElem? (i := 390) rfl
set_option maxRecDepth 100000 in
theorem pm_cw44 : pm_hw 44 ∈ lw_tbl := List.mem_of_getElem? (i := 404) rfl
set_option maxRecDepth 100000 in
theorem pm_cw45 : pm_hw 45 ∈ lw_tbl := List.mem_of_getElem? (i := 660) rfl
set_option maxRecDepth 100000 in
theorem pm_cw46 : pm_hw 46 ∈ lw_tbl := List.mem_of_getElem? (i := 764) rfl
set_option maxRecDepth 100000 in
theorem pm_cw47 : pm_hw 47 ∈ lw_tbl := List.mem_of_getElem? (i := 888) rfl
set_option maxRecDepth 100000 in
theorem pm_cw48 : pm_hw 48 ∈ lw_tbl := List.mem_of_getElem? (i := 776) rfl
set_option maxRecDepth 100000 in
theorem pm_cw49 : pm_hw 49 ∈ lw_tbl := List.mem_of_getElem? (i := 844) rfl
set_option maxRecDepth 100000 in
theorem pm_cw50 : pm_hw 50 ∈ lw_tbl := List.mem_of_getElem? (i := 900) rfl
set_option maxRecDepth 100000 in
theorem pm_cw51 : pm_hw 51 ∈ lw_tbl := List.mem_of_getElem? (i := 983) rfl
set_option maxRecDepth 100000 in
theorem pm_cw52 : pm_hw 52 ∈ lw_tbl := List.mem_of_getElem? (i := 908) rfl
set_option maxRecDepth 100000 in
theorem pm_cw53 : pm_hw 53 ∈ lw_tbl := List.mem_of_getElem? (i := 944) rfl
set_option maxRecDepth 100000 in
theorem pm_cw54 : pm_hw 54 ∈ lw_tbl := List.mem_of_getElem? (i := 808) rfl
set_option maxRecDepth 100000 in
theorem pm_cw55 : pm_hw 55 ∈ lw_tbl := List.mem_of_getElem? (i := 796) rfl
set_option maxRecDepth 100000 in
theorem pm_cw56 : pm_hw 56 ∈ lw_tbl := List.mem_of_getElem? (i := 792) rfl
set_option maxRecDepth 100000 in
theorem pm_cw57 : pm_hw 57 ∈ lw_tbl := List.mem_of_getElem? (i := 788) rfl
set_option maxRecDepth 100000 in
theorem pm_cw58 : pm_hw 58 ∈ lw_tbl := List.mem_of_getElem? (i := 812) rfl
set_option maxRecDepth 100000 in
theorem pm_cw59 : pm_hw 59 ∈ lw_tbl := List.mem_of_getElem? (i := 784) rfl
set_option maxRecDepth 100000 in
theorem pm_cw60 : pm_hw 60 ∈ lw_tbl := List.mem_of_getElem? (i := 804) rfl
set_option maxRecDepth 100000 in
theorem pm_cw61 : pm_hw 61 ∈ lw_tbl := List.mem_of_getElem? (i := 800) rfl
set_option maxRecDepth 100000 in
theorem pm_cw62 : pm_hw 62 ∈ lw_tbl := List.mem_of_getElem? (i := 780) rfl
set_option maxRecDepth 100000 in
theorem pm_cw63 : pm_hw 63 ∈ lw_tbl := List.mem_of_getElem? (i := 772) rfl
set_option maxRecDepth 100000 in
theorem pm_cw64 : pm_hw 64 ∈ lw_tbl := List.mem_of_getElem? (i := 840) rfl
set_option maxRecDepth 100000 in
theorem pm_cw65 : pm_hw 65 ∈ lw_tbl := List.mem_of_getElem? (i := 848) rfl
set_option maxRecDepth 100000 in
theorem pm_cw66 : pm_hw 66 ∈ lw_tbl := List.mem_of_getElem? (i := 836) rfl
set_option maxRecDepth 100000 in
theorem pm_cw67 : pm_hw 67 ∈ lw_tbl := List.mem_of_getElem? (i := 872) rfl
set_option maxRecDepth 100000 in
theorem pm_cw68 : pm_hw 68 ∈ lw_tbl := List.mem_of_getElem? (i := 868) rfl
set_option maxRecDepth 100000 in
theorem pm_cw69 : pm_hw 69 ∈ lw_tbl := List.mem_of_getElem? (i := 864) rfl
set_option maxRecDepth 100000 in
theorem pm_cw70 : pm_hw 70 ∈ lw_tbl := List.mem_of_getElem? (i := 860) rfl
set_option maxRecDepth 100000 in
theorem pm_cw71 : pm_hw 71 ∈ lw_tbl := List.mem_of_getElem? (i := 856) rfl
set_option maxRecDepth 100000 in
theorem pm_cw72 : pm_hw 72 ∈ lw_tbl := List.mem_of_getElem? (i := 832) rfl
set_option maxRecDepth 100000 in
theorem pm_cw73 : pm_hw 73 ∈ lw_tbl := List.mem_of_getElem? (i := 852) rfl
set_option maxRecDepth 100000 in
theorem pm_cw74 : pm_hw 74 ∈ lw_tbl := List.mem_of_getElem? (i := 924) rfl
set_option maxRecDepth 100000 in
theorem pm_cw75 : pm_hw 75 ∈ lw_tbl := List.mem_of_getElem? (i := 816) rfl
set_option maxRecDepth 100000 in
theorem pm_cw76 : pm_hw 76 ∈ lw_tbl := List.mem_of_getElem? (i := 820) rfl
set_option maxRecDepth 100000 in
theorem pm_cw77 : pm_hw 77 ∈ lw_tbl := List.mem_of_getElem? (i := 824) rfl
set_option maxRecDepth 100000 in
theorem pm_cw78 : pm_hw 78 ∈ lw_tbl := List.mem_of_getElem? (i := 828) rfl
set_option maxRecDepth 100000 in
theorem pm_cw79 : pm_hw 79 ∈ lw_tbl := List.mem_of_getElem? (i := 768) rfl
set_option maxRecDepth 100000 in
theorem pm_cw80 : pm_hw 80 ∈ lw_tbl := List.mem_of_getElem? (i := 884) rfl
set_option maxRecDepth 100000 in
theorem pm_cw81 : pm_hw 81 ∈ lw_tbl := List.mem_of_getElem? (i := 880) rfl
set_option maxRecDepth 100000 in
theorem pm_cw82 : pm_hw 82 ∈ lw_tbl := List.mem_of_getElem? (i := 876) rfl
set_option maxRecDepth 100000 in
theorem pm_cw83 : pm_hw 83 ∈ lw_tbl := List.mem_of_getElem? (i := 892) rfl
set_option maxRecDepth 100000 in
theorem pm_cw84 : pm_hw 84 ∈ lw_tbl := List.mem_of_getElem? (i := 896) rfl
set_option maxRecDepth 100000 in
theorem pm_cw85 : pm_hw 85 ∈ lw_tbl := List.mem_of_getElem? (i := 904) rfl
set_option maxRecDepth 100000 in
theorem pm_cw86 : pm_hw 86 ∈ lw_tbl := List.mem_of_getElem? (i := 912) rfl
set_option maxRecDepth 100000 in
theorem pm_cw87 : pm_hw 87 ∈ lw_tbl := List.mem_of_getElem? (i := 920) rfl
set_option maxRecDepth 100000 in
theorem pm_cw88 : pm_hw 88 ∈ lw_tbl := List.mem_of_getElem? (i := 916) rfl
set_option maxRecDepth 100000 in
theorem pm_cw89 : pm_hw 89 ∈ lw_tbl := List.mem_of_getElem? (i := 928) rfl
set_option maxRecDepth 100000 in
theorem pm_cw90 : pm_hw 90 ∈ lw_tbl := List.mem_of_getElem? (i := 932) rfl
set_option maxRecDepth 100000 in
theorem pm_cw91 : pm_hw 91 ∈ lw_tbl := List.mem_of_getElem? (i := 936) rfl
set_option maxRecDepth 100000 in
theorem pm_cw92 : pm_hw 92 ∈ lw_tbl := List.mem_of_getElem? (i := 940) rfl
set_option maxRecDepth 100000 in
theorem pm_cw93 : pm_hw 93 ∈ lw_tbl := List.mem_of_getElem? (i := 948) rfl
set_option maxRecDepth 100000 in
theorem pm_cw94 : pm_hw 94 ∈ lw_tbl := List.mem_of_getElem? (i := 952) rfl
set_option maxRecDepth 100000 in
theorem pm_cw95 : pm_hw 95 ∈ lw_tbl := List.mem_of_getElem? (i := 956) rfl
set_option maxRecDepth 100000 in
theorem pm_cw96 : pm_hw 96 ∈ lw_tbl := List.mem_of_getElem? (i := 960) rfl
set_option maxRecDepth 100000 in
theorem pm_cw97 : pm_hw 97 ∈ lw_tbl := List.mem_of_getElem? (i := 967) rfl
set_option maxRecDepth 100000 in
theorem pm_cw98 : pm_hw 98 ∈ lw_tbl := List.mem_of_getElem? (i := 964) rfl
set_option maxRecDepth 100000 in
theorem pm_cw99 : pm_hw 99 ∈ lw_tbl := List.mem_of_getElem? (i := 971) rfl
set_option maxRecDepth 100000 in
theorem pm_cw100 : pm_hw 100 ∈ lw_tbl := List.mem_of_getElem? (i := 975) rfl
set_option maxRecDepth 100000 in
theorem pm_cw101 : pm_hw 101 ∈ lw_tbl := List.mem_of_getElem? (i := 979) rfl
set_option maxRecDepth 100000 in
theorem pm_cw102 : pm_hw 102 ∈ lw_tbl := List.mem_of_getElem? (i := 93) rfl
set_option maxRecDepth 100000 in
theorem pm_cw103 : pm_hw 103 ∈ lw_tbl := List.mem_of_getElem? (i := 335) rfl
set_option maxRecDepth 100000 in
theorem pm_cw104 : pm_hw 104 ∈ lw_tbl := List.mem_of_getElem? (i := 343) rfl
set_option maxRecDepth 100000 in
theorem pm_cw105 : pm_hw 105 ∈ lw_tbl := List.mem_of_getElem? (i := 376) rfl
set_option maxRecDepth 100000 in
theorem pm_cw106 : pm_hw 106 ∈ lw_tbl := List.mem_of_getElem? (i := 141) rfl
set_option maxRecDepth 100000 in
theorem pm_cw107 : pm_hw 107 ∈ lw_tbl := List.mem_of_getElem? (i := 587) rfl
set_option maxRecDepth 100000 in
theorem pm_cw108 : pm_hw 108 ∈ lw_tbl := List.mem_of_getElem? (i := 394) rfl
set_option maxRecDepth 100000 in
theorem pm_cw109 : pm_hw 109 ∈ lw_tbl := List.mem_of_getElem? (i := 135) rfl
set_option maxRecDepth 100000 in
theorem pm_cw110 : pm_hw 110 ∈ lw_tbl := List.mem_of_getElem? (i := 521) rfl
set_option maxRecDepth 100000 in
theorem pm_cw111 : pm_hw 111 ∈ lw_tbl := List.mem_of_getElem? (i := 291) rfl
set_option maxRecDepth 100000 in
theorem pm_cw112 : pm_hw 112 ∈ lw_tbl := List.mem_of_getElem? (i := 267) rfl
set_option maxRecDepth 100000 in
theorem pm_cw113 : pm_hw 113 ∈ lw_tbl := List.mem_of_getElem? (i := 363) rfl
set_option maxRecDepth 100000 in
theorem pm_cw114 : pm_hw 114 ∈ lw_tbl := List.mem_of_getElem? (i := 539) rfl
set_option maxRecDepth 100000 in
theorem pm_cw115 : pm_hw 115 ∈ lw_tbl := List.mem_of_getElem? (i := 303) rfl
set_option maxRecDepth 100000 in
theorem pm_cw116 : pm_hw 116 ∈ lw_tbl := List.mem_of_getElem? (i := 299) rfl
set_option maxRecDepth 100000 in
theorem pm_cw117 : pm_hw 117 ∈ lw_tbl := List.mem_of_getElem? (i := 275) rfl
set_option maxRecDepth 100000 in
theorem pm_cw118 : pm_hw 118 ∈ lw_tbl := List.mem_of_getElem? (i := 271) rfl
set_option maxRecDepth 100000 in
theorem pm_cw119 : pm_hw 119 ∈ lw_tbl := List.mem_of_getElem? (i := 279) rfl
set_option maxRecDepth 100000 in
theorem pm_cw120 : pm_hw 120 ∈ lw_tbl := List.mem_of_getElem? (i := 308) rfl
set_option maxRecDepth 100000 in
theorem pm_cw121 : pm_hw 121 ∈ lw_tbl := List.mem_of_getElem? (i := 595) rfl
set_option maxRecDepth 100000 in
theorem pm_cw122 : pm_hw 122 ∈ lw_tbl := List.mem_of_getElem? (i := 312) rfl
set_option maxRecDepth 100000 in
theorem pm_cw123 : pm_hw 123 ∈ lw_tbl := List.mem_of_getElem? (i := 87) rfl
set_option maxRecDepth 100000 in
theorem pm_cw124 : pm_hw 124 ∈ lw_tbl := List.mem_of_getElem? (i := 398) rfl
set_option maxRecDepth 100000 in
theorem pm_cw125 : pm_hw 125 ∈ lw_tbl := List.mem_of_getElem? (i := 320) rfl
set_option maxRecDepth 100000 in
theorem pm_cw126 : pm_hw 126 ∈ lw_tbl := List.mem_of_getElem? (i := 339) rfl
set_option maxRecDepth 100000 in
theorem pm_cw127 : pm_hw 127 ∈ lw_tbl := List.mem_of_getElem? (i := 327) rfl
set_option maxRecDepth 100000 in
theorem pm_cw128 : pm_hw 128 ∈ lw_tbl := List.mem_of_getElem? (i := 331) rfl
set_option maxRecDepth 100000 in
theorem pm_cw129 : pm_hw 129 ∈ lw_tbl := List.mem_of_getElem? (i := 255) rfl
set_option maxRecDepth 100000 in
theorem pm_cw130 : pm_hw 130 ∈ lw_tbl := List.mem_of_getElem? (i := 372) rfl
set_option maxRecDepth 100000 in
theorem pm_cw131 : pm_hw 131 ∈ lw_tbl := List.mem_of_getElem? (i := 381) rfl
set_option maxRecDepth 100000 in
theorem pm_cw132 : pm_hw 132 ∈ lw_tbl := List.mem_of_getElem? (i := 446) rfl
set_option maxRecDepth 100000 in
theorem pm_cw133 : pm_hw 133 ∈ lw_tbl := List.mem_of_getElem? (i := 524) rfl
set_option maxRecDepth 100000 in
theorem pm_cw134 : pm_hw 134 ∈ lw_tbl := List.mem_of_getElem? (i := 531) rfl
set_option maxRecDepth 100000 in
theorem pm_cw135 : pm_hw 135 ∈ lw_tbl := List.mem_of_getElem? (i := 546) rfl
set_option maxRecDepth 100000 in
theorem pm_cw136 : pm_hw 136 ∈ lw_tbl := List.mem_of_getElem? (i := 553) rfl
set_option maxRecDepth 100000 in
theorem pm_cw137 : pm_hw 137 ∈ lw_tbl := List.mem_of_getElem? (i := 560) rfl
set_option maxRecDepth 100000 in
theorem pm_cw138 : pm_hw 138 ∈ lw_tbl := List.mem_of_getElem? (i := 598) rfl
set_option maxRecDepth 100000 in
theorem pm_cw139 : pm_hw 139 ∈ lw_tbl := List.mem_of_getElem? (i := 605) rfl
set_option maxRecDepth 100000 in
theorem pm_cw140 : pm_hw 140 ∈ lw_tbl := List.mem_of_getElem? (i := 612) rfl
set_option maxRecDepth 100000 in
theorem pm_cw141 : pm_hw 141 ∈ lw_tbl := List.mem_of_getElem? (i := 619) rfl
set_option maxRecDepth 100000 in
theorem pm_cw142 : pm_hw 142 ∈ lw_tbl := List.mem_of_getElem? (i := 626) rfl
set_option maxRecDepth 100000 in
theorem pm_cw143 : pm_hw 143 ∈ lw_tbl := List.mem_of_getElem? (i := 633) rfl
set_option maxRecDepth 100000 in
theorem pm_cw144 : pm_hw 144 ∈ lw_tbl := List.mem_of_getElem? (i := 640) rfl
set_option maxRecDepth 100000 in
theorem pm_cw145 : pm_hw 145 ∈ lw_tbl := List.mem_of_getElem? (i := 651) rfl
theorem pm_ch20 : ∀ a, a < 20 → pm_hw a ∈ lw_tbl := lt_s (lt_s (lt_s (lt_s (lt_s (lt_s (lt_s (lt_s (lt_s (lt_s (lt_s (lt_s (lt_s (lt_s (lt_s (lt_s (lt_s (lt_s (lt_s (lt_s (lt_0) pm_cw0) pm_cw1) pm_cw2) pm_cw3) pm_cw4) pm_cw5) pm_cw6) pm_cw7) pm_cw8) pm_cw9) pm_cw10) pm_cw11) pm_cw12) pm_cw13) pm_cw14) pm_cw15) pm_cw16) pm_cw17) pm_cw18) pm_cw19
theorem pm_ch40 : ∀ a, a < 40 → pm_hw a ∈ lw_tbl := lt_s (lt_s (lt_s (lt_s (lt_s (lt_s (lt_s (lt_s (lt_s (lt_s (lt_s (lt_s (lt_s (lt_s (lt_s (lt_s (lt_s (lt_s (lt_s (lt_s (pm_ch20) pm_cw20) pm_cw21) pm_cw22) pm_cw23) pm_cw24) pm_cw25) pm_cw26) pm_cw27) pm_cw28) pm_cw29) pm_cw30) pm_cw31) pm_cw32) pm_cw33) pm_cw34) pm_cw35) pm_cw36) pm_cw37) pm_cw38) pm_cw39
theorem pm_ch60 : ∀ a, a < 60 → pm_hw a ∈ lw_tbl := lt_s (lt_s (lt_s (lt_s (lt_s (lt_s (lt_s (lt_s (lt_s (lt_s (lt_s (lt_s (lt_s (lt_s (lt_s (lt_s (lt_s (lt_s (lt_s (lt_s (pm_ch40) pm_cw40) pm_cw41) pm_cw42) pm_cw43) pm_cw44) pm_cw45) pm_cw46) pm_cw47) pm_cw48) pm_cw49) pm_cw50) pm_cw51) pm_cw52) pm_cw53) pm_cw54) pm_cw55) pm_cw56) pm_cw57) pm_cw58) pm_cw59
theorem pm_ch80 : ∀ a, a < 80 → pm_hw a ∈ lw_tbl := lt_s (lt_s (lt_s (lt_s (lt_s (lt_s (lt_s (lt_s (lt_s (lt_s (lt_s (lt_s (lt_s (lt_s (lt_s (lt_s (lt_s (lt_s (lt_s (lt_s (pm_ch60) pm_cw60) pm_cw61) pm_cw62) pm_cw63) pm_cw64) pm_cw65) pm_cw66) pm_cw67) pm_cw68) pm_cw69) pm_cw70) pm_cw71) pm_cw72) pm_cw73) pm_cw74) pm_cw75) pm_cw76) pm_cw77) pm_cw78) pm_cw79
theorem pm_ch100 : ∀ a, a < 100 → pm_hw a ∈ lw_tbl := lt_s (lt_s (lt_s (lt_s (lt_s (lt_s (lt_s (lt_s (lt_s (lt_s (lt_s (lt_s (lt_s (lt_s (lt_s (lt_s (lt_s (lt_s (lt_s (lt_s (pm_ch80) pm_cw80) pm_cw81) pm_cw82) pm_cw83) pm_cw84) pm_cw85) pm_cw86) pm_cw87) pm_cw88) pm_cw89) pm_cw90) pm_cw91) pm_cw92) pm_cw93) pm_cw94) pm_cw95) pm_cw96) pm_cw97) pm_cw98) pm_cw99
theorem pm_ch120 : ∀ a, a < 120 → pm_hw a ∈ lw_tbl := lt_s (lt_s (lt_s (lt_s (lt_s (lt_s (lt_s (lt_s (lt_s (lt_s (lt_s (lt_s (lt_s (lt_s (lt_s (lt_s (lt_s (lt_s (lt_s (lt_s (pm_ch100) pm_cw100) pm_cw101) pm_cw102) pm_cw103) pm_cw104) pm_cw105) pm_cw106) pm_cw107) pm_cw108) pm_cw109) pm_cw110) pm_cw111) pm_cw112) pm_cw113) pm_cw114) pm_cw115) pm_cw116) pm_cw117) pm_cw118) pm_cw119
theorem pm_ch140 : ∀ a, a < 140 → pm_hw a ∈ lw_tbl := lt_s (lt_s (lt_s (lt_s (lt_s (lt_s (lt_s (lt_s (lt_s (lt_s (lt_s (lt_s (lt_s (lt_s (lt_s (lt_s (lt_s (lt_s (lt_s (lt_s (pm_ch120) pm_cw120) pm_cw121) pm_cw122) pm_cw123) pm_cw124) pm_cw125) pm_cw126) pm_cw127) pm_cw128) pm_cw129) pm_cw130) pm_cw131) pm_cw132) pm_cw133) pm_cw134) pm_cw135) pm_cw136) pm_cw137) pm_cw138) pm_cw139
theorem pm_ch146 : ∀ a, a < 146 → pm_hw a ∈ lw_tbl := lt_s (lt_s (lt_s (lt_s (lt_s (lt_s (pm_ch140) pm_cw140) pm_cw141) pm_cw142) pm_cw143) pm_cw144) pm_cw145
def pm_cg (w : Cond) : Bool := match w with
  | .code _ _ _ _ => true
  | .codeWith _ _ _ _ _ => true
  | _ => false
theorem pm_hw_pb (mi : Nat) : pm_pb (pm_hw mi) = true := by
  unfold pm_hw
  split <;> rfl
theorem pm_hw_in {mi : Nat} (h : mi < 146) : pm_hw mi ∈ pm_Tl := List.mem_filter.mpr ⟨pm_ch146 mi h, pm_hw_pb mi⟩
