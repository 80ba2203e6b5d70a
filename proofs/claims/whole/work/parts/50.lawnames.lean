/-! the law: its words, its instructions (began as the printed names) -/
def wsL_law_r1 : List Cond := [Cond.classLink RL 7 RX8, Cond.instantiable RX8 11, Cond.initialized RX8, Cond.classLink RL 10 RX9, Cond.instantiable RX9 22, Cond.initialized RX9, Cond.methodLink RL 9 yX8_init, Cond.instanceMethod yX8_init, Cond.code yX8_init cX8_init 2 none, Cond.methodLink RX8 1 objectInit, Cond.instanceMethod objectInit, Cond.code objectInit ⟨#[0xb1]⟩ 1 none, Cond.classLink RX8 7 RX7, Cond.instantiable RX7 6, Cond.initialized RX7, Cond.fieldLink RX8 10 "SilentRent" "text" "LSilentRent$Text;", Cond.classLink RX8 16 RX2, Cond.instantiable RX2 10, Cond.initialized RX2, Cond.fieldLink RX8 19 "SilentRent" "built" "LSilentRent$House;", Cond.fieldLink RX8 23 "SilentRent" "draft" "LSilentRent$House;", Cond.classLink RX8 26 RX5, Cond.instantiable RX5 5, Cond.initialized RX5]
def wsL_law_r2 : List Cond := [Cond.fieldLink RX8 29 "SilentRent" "now" "LSilentRent$Now;", Cond.classLink RX8 33 RX6, Cond.instantiable RX6 2, Cond.initialized RX6, Cond.fieldLink RX8 36 "SilentRent" "past" "LSilentRent$Past;", Cond.classLink RX8 40 RX4, Cond.fieldLink RX8 42 "SilentRent" "images" "[LSilentRent$Image;", Cond.classLink RX8 46 RX0, Cond.instantiable RX0 3, Cond.initialized RX0, Cond.fieldLink RX8 49 "SilentRent" "lines" "LSilentRent$Book;", Cond.classLink RX8 53 RX3, Cond.instantiable RX3 2, Cond.initialized RX3, Cond.fieldLink RX8 56 "SilentRent" "housing" "LSilentRent$Housing;", Cond.classLink RX8 60 RX1, Cond.instantiable RX1 4, Cond.initialized RX1, Cond.fieldLink RX8 63 "SilentRent" "fitting" "LSilentRent$Fitting;", Cond.arrayClass .int, Cond.fieldLink RX8 67 "SilentRent" "groups" "[I", Cond.instantiable RX4 3, Cond.initialized RX4, Cond.instanceMethod yX7_init]
def wsL_law_r3 : List Cond := [Cond.code yX7_init cX7_init 1 none, Cond.methodLink RX7 3 objectInit, Cond.fieldLink RX7 9 "SilentRent$Text" "bytes" "[I", Cond.instanceMethod yX2_init, Cond.code yX2_init cX2_init 1 none, Cond.methodLink RX2 3 objectInit, Cond.fieldLink RX2 9 "SilentRent$House" "price" "[I", Cond.fieldLink RX2 15 "SilentRent$House" "sleep" "[I", Cond.fieldLink RX2 18 "SilentRent$House" "must" "[I", Cond.fieldLink RX2 21 "SilentRent$House" "wits" "[I", Cond.fieldLink RX2 24 "SilentRent$House" "asks" "[I", Cond.fieldLink RX2 27 "SilentRent$House" "hears" "[I", Cond.fieldLink RX2 30 "SilentRent$House" "lips" "[I", Cond.methodLink RX8 28 yX5_init, Cond.instanceMethod yX5_init, Cond.code yX5_init cX5_init 1 none, Cond.methodLink RX5 3 objectInit, Cond.fieldLink RX5 9 "SilentRent$Now" "home" "[I", Cond.fieldLink RX5 15 "SilentRent$Now" "talked" "[I", Cond.fieldLink RX5 18 "SilentRent$Now" "pays" "[I", Cond.fieldLink RX5 21 "SilentRent$Now" "debt" "[I", Cond.methodLink RX5 24 yJ7_fill_53178, Cond.static yJ7_fill_53178, Cond.initialized RJ7]
def wsL_law_r4 : List Cond := [Cond.code yJ7_fill_53178 cJ7_fill_53178 4 none, Cond.methodLink RX8 35 yX6_init, Cond.instanceMethod yX6_init, Cond.code yX6_init cX6_init 2 none, Cond.methodLink RX6 3 objectInit, Cond.classLink RX6 9 RX5, Cond.fieldLink RX6 11 "SilentRent$Past" "steps" "[LSilentRent$Now;", Cond.methodLink RX6 17 yX5_init, Cond.instanceMethod yX0_init, Cond.code yX0_init cX0_init 1 none, Cond.methodLink RX0 3 objectInit, Cond.fieldLink RX0 9 "SilentRent$Book" "who" "[I", Cond.fieldLink RX0 15 "SilentRent$Book" "lacks" "[I", Cond.instanceMethod yX3_init, Cond.code yX3_init cX3_init 1 none, Cond.methodLink RX3 3 objectInit, Cond.fieldLink RX3 9 "SilentRent$Housing" "home" "[I", Cond.classLink RX3 15 "[[I", Cond.fieldLink RX3 17 "SilentRent$Housing" "best" "[[I", Cond.instanceMethod yX1_init, Cond.code yX1_init cX1_init 1 none, Cond.methodLink RX1 3 objectInit, Cond.fieldLink RX1 9 "SilentRent$Fitting" "ways" "[I", Cond.arrayClass .boolean]
def wsL_law_r5 : List Cond := [Cond.fieldLink RX1 15 "SilentRent$Fitting" "reached" "[Z", Cond.fieldLink RX1 19 "SilentRent$Fitting" "open" "[I", Cond.instanceMethod yX4_init, Cond.code yX4_init cX4_init 1 none, Cond.methodLink RX4 1 objectInit, Cond.classLink RX4 7 RX5, Cond.fieldLink RX4 10 "SilentRent$Image" "now" "LSilentRent$Now;", Cond.classLink RX4 16 RX6, Cond.fieldLink RX4 19 "SilentRent$Image" "past" "LSilentRent$Past;", Cond.methodLink RX4 9 yX5_init, Cond.methodLink RX4 18 yX6_init, Cond.methodLink RL 12 yX9_init, Cond.instanceMethod yX9_init, Cond.code yX9_init cX9_init 1 none, Cond.methodLink RX9 1 objectInit, Cond.fieldLink RX9 7 "SilentRentModel" "text" "[I", Cond.fieldLink RX9 13 "SilentRentModel" "read" "[I", Cond.fieldLink RX9 16 "SilentRentModel" "house" "[I", Cond.fieldLink RX9 19 "SilentRentModel" "now" "[I", Cond.fieldLink RX9 22 "SilentRentModel" "undone" "[I", Cond.fieldLink RX9 25 "SilentRentModel" "rooms" "[I", Cond.fieldLink RX9 28 "SilentRentModel" "groups" "[I", Cond.fieldLink RX9 31 "SilentRentModel" "who" "[I", Cond.fieldLink RX9 34 "SilentRentModel" "lacked" "[I"]
def wsL_law_r6 : List Cond := [Cond.fieldLink RX9 37 "SilentRentModel" "some" "[I", Cond.fieldLink RX9 40 "SilentRentModel" "kept" "[I", Cond.methodLink RX9 43 yX9_anew, Cond.instanceMethod yX9_anew, Cond.selects RX9 yX9_anew yX9_anew, Cond.code yX9_anew cX9_anew 2 none, Cond.fieldLink RX9 109 "SilentRentModel" "lines" "I", Cond.fieldLink RX9 112 "SilentRentModel" "undos" "I", Cond.methodLink RL 13 yX8_type, Cond.instanceMethod yX8_type, Cond.selects RX8 yX8_type yX8_type, Cond.code yX8_type cX8_type 2 (some .int), Cond.fieldLink RX8 72 "SilentRent$Text" "length" "I", Cond.fieldLink RX8 76 "SilentRent$Text" "bytes" "[I", Cond.methodLink RL 17 yX9_type, Cond.instanceMethod yX9_type, Cond.selects RX9 yX9_type yX9_type, Cond.code yX9_type cX9_type 2 (some .int), Cond.constantLong RX9 46 (255), Cond.fieldLink RX9 52 "SilentRentModel" "size" "I", Cond.methodLink RX9 48 yX9_in, Cond.static yX9_in, Cond.code yX9_in cX9_in 6 (some .boolean), Cond.methodLink RL 18 yX8_clear]
def wsL_law_r7 : List Cond := [Cond.instanceMethod yX8_clear, Cond.selects RX8 yX8_clear yX8_clear, Cond.code yX8_clear cX8_clear 2 (some .int), Cond.methodLink RL 22 yX9_clear, Cond.instanceMethod yX9_clear, Cond.selects RX9 yX9_clear yX9_clear, Cond.code yX9_clear cX9_clear 2 (some .int), Cond.methodLink RL 23 yX8_house, Cond.instanceMethod yX8_house, Cond.selects RX8 yX8_house yX8_house, Cond.code yX8_house cX8_house 4 (some .int), Cond.fieldLink RX8 86 "SilentRent$Past" "known" "I", Cond.fieldLink RX8 89 "SilentRent$Book" "length" "I", Cond.fieldLink RX8 90 "SilentRent$Image" "kept" "Z", Cond.methodLink RX8 79 yX7_readInto, Cond.instanceMethod yX7_readInto, Cond.selects RX7 yX7_readInto yX7_readInto, Cond.code yX7_readInto cX7_readInto 3 (some .int), Cond.fieldLink RX7 15 "SilentRent$House" "rooms" "I", Cond.fieldLink RX7 21 "SilentRent$House" "tenants" "I", Cond.fieldLink RX7 24 "SilentRent$House" "chairs" "I", Cond.fieldLink RX7 27 "SilentRent$Text" "next" "I", Cond.fieldLink RX7 30 "SilentRent$Text" "length" "I", Cond.fieldLink RX7 36 "SilentRent$Text" "token" "I"]
def wsL_law_r8 : List Cond := [Cond.fieldLink RX7 43 "SilentRent$Text" "start" "I", Cond.methodLink RX7 33 yX7_step, Cond.instanceMethod yX7_step, Cond.selects RX7 yX7_step yX7_step, Cond.code yX7_step cX7_step 1 none, Cond.fieldLink RX7 46 "SilentRent$Text" "value" "I", Cond.methodLink RX7 90 yX7_kindOf, Cond.static yX7_kindOf, Cond.code yX7_kindOf cX7_kindOf 1 (some .int), Cond.methodLink RX7 94 yX7_takeDigits, Cond.instanceMethod yX7_takeDigits, Cond.selects RX7 yX7_takeDigits yX7_takeDigits, Cond.code yX7_takeDigits cX7_takeDigits 2 none, Cond.methodLink RX7 39 yX7_readItem, Cond.instanceMethod yX7_readItem, Cond.selects RX7 yX7_readItem yX7_readItem, Cond.code yX7_readItem cX7_readItem 2 (some .boolean), Cond.methodLink RX7 49 yX7_readRoom, Cond.instanceMethod yX7_readRoom, Cond.selects RX7 yX7_readRoom yX7_readRoom, Cond.code yX7_readRoom cX7_readRoom 3 (some .boolean), Cond.fieldLink RX7 69 "SilentRent$House" "price" "[I", Cond.methodLink RX7 65 yX7_number, Cond.instanceMethod yX7_number]
def wsL_law_r9 : List Cond := [Cond.selects RX7 yX7_number yX7_number, Cond.code yX7_number cX7_number 3 (some .boolean), Cond.methodLink RX7 52 yX7_semicolon, Cond.instanceMethod yX7_semicolon, Cond.selects RX7 yX7_semicolon yX7_semicolon, Cond.code yX7_semicolon cX7_semicolon 1 (some .boolean), Cond.methodLink RX7 56 yX7_readTenant, Cond.instanceMethod yX7_readTenant, Cond.selects RX7 yX7_readTenant yX7_readTenant, Cond.code yX7_readTenant cX7_readTenant 3 (some .boolean), Cond.fieldLink RX7 72 "SilentRent$House" "sleep" "[I", Cond.fieldLink RX7 75 "SilentRent$House" "must" "[I", Cond.fieldLink RX7 78 "SilentRent$House" "wits" "[I", Cond.fieldLink RX7 81 "SilentRent$House" "asks" "[I", Cond.fieldLink RX7 84 "SilentRent$House" "hears" "[I", Cond.methodLink RX7 59 yX7_readHearing, Cond.instanceMethod yX7_readHearing, Cond.selects RX7 yX7_readHearing yX7_readHearing, Cond.code yX7_readHearing cX7_readHearing 3 (some .boolean), Cond.methodLink RX7 62 yX7_readChair, Cond.instanceMethod yX7_readChair, Cond.selects RX7 yX7_readChair yX7_readChair, Cond.code yX7_readChair cX7_readChair 3 (some .boolean), Cond.fieldLink RX7 87 "SilentRent$House" "lips" "[I"]
def wsL_law_r10 : List Cond := [Cond.methodLink RX8 83 yX5_begin, Cond.instanceMethod yX5_begin, Cond.selects RX5 yX5_begin yX5_begin, Cond.code yX5_begin cX5_begin 1 none, Cond.fieldLink RX5 30 "SilentRent$Now" "day" "I", Cond.methodLink RL 26 yX9_house, Cond.instanceMethod yX9_house, Cond.selects RX9 yX9_house yX9_house, Cond.code yX9_house cX9_house 3 (some .int), Cond.fieldLink RX9 64 "SilentRentModel" "at" "I", Cond.fieldLink RX9 77 "SilentRentModel" "token" "I", Cond.fieldLink RX9 74 "SilentRentModel" "begin" "I", Cond.methodLink RX9 89 yX9_reads, Cond.instanceMethod yX9_reads, Cond.selects RX9 yX9_reads yX9_reads, Cond.code yX9_reads cX9_reads 1 none, Cond.methodLink RX9 70 yX9_isLetter, Cond.static yX9_isLetter, Cond.code yX9_isLetter cX9_isLetter 1 (some .boolean), Cond.constantLong RX9 56 (97), Cond.constantLong RX9 58 (122), Cond.methodLink RX9 83 yX9_readLetters, Cond.instanceMethod yX9_readLetters, Cond.selects RX9 yX9_readLetters yX9_readLetters]
def wsL_law_r11 : List Cond := [Cond.code yX9_readLetters cX9_readLetters 1 none, Cond.fieldLink RX9 67 "SilentRentModel" "told" "I", Cond.methodLink RX9 80 yX9_isFigure, Cond.static yX9_isFigure, Cond.code yX9_isFigure cX9_isFigure 1 (some .boolean), Cond.constantLong RX9 60 (48), Cond.constantLong RX9 62 (57), Cond.methodLink RX9 86 yX9_readNumber, Cond.instanceMethod yX9_readNumber, Cond.selects RX9 yX9_readNumber yX9_readNumber, Cond.code yX9_readNumber cX9_readNumber 2 none, Cond.methodLink RX9 106 yX9_readItem, Cond.instanceMethod yX9_readItem, Cond.selects RX9 yX9_readItem yX9_readItem, Cond.code yX9_readItem cX9_readItem 1 (some .boolean), Cond.methodLink RX9 92 yX9_number, Cond.instanceMethod yX9_number, Cond.selects RX9 yX9_number yX9_number, Cond.code yX9_number cX9_number 3 (some .boolean), Cond.methodLink RX9 96 yX9_ends, Cond.instanceMethod yX9_ends, Cond.selects RX9 yX9_ends yX9_ends, Cond.code yX9_ends cX9_ends 1 (some .boolean), Cond.methodLink RX9 100 yX9_readTenant]
def wsL_law_r12 : List Cond := [Cond.instanceMethod yX9_readTenant, Cond.selects RX9 yX9_readTenant yX9_readTenant, Cond.code yX9_readTenant cX9_readTenant 3 (some .boolean), Cond.methodLink RX9 103 yX9_readHears, Cond.instanceMethod yX9_readHears, Cond.selects RX9 yX9_readHears yX9_readHears, Cond.code yX9_readHears cX9_readHears 2 (some .boolean), Cond.methodLink RL 27 yX8_room, Cond.instanceMethod yX8_room, Cond.selects RX8 yX8_room yX8_room, Cond.code yX8_room cX8_room 3 (some .int), Cond.fieldLink RX8 98 "SilentRent$House" "price" "[I", Cond.methodLink RX8 94 yX2_hasRoom, Cond.instanceMethod yX2_hasRoom, Cond.selects RX2 yX2_hasRoom yX2_hasRoom, Cond.code yX2_hasRoom cX2_hasRoom 2 (some .boolean), Cond.fieldLink RX2 33 "SilentRent$House" "rooms" "I", Cond.methodLink RX8 101 yX5_dweller, Cond.instanceMethod yX5_dweller, Cond.selects RX5 yX5_dweller yX5_dweller, Cond.code yX5_dweller cX5_dweller 3 (some .int), Cond.methodLink RX8 105 yX2_whoMeets, Cond.instanceMethod yX2_whoMeets, Cond.selects RX2 yX2_whoMeets yX2_whoMeets]
def wsL_law_r13 : List Cond := [Cond.code yX2_whoMeets cX2_whoMeets 4 (some .int), Cond.fieldLink RX2 37 "SilentRent$House" "tenants" "I", Cond.methodLink RX2 50 yX2_meets, Cond.instanceMethod yX2_meets, Cond.selects RX2 yX2_meets yX2_meets, Cond.code yX2_meets cX2_meets 3 (some .boolean), Cond.methodLink RX2 47 yX2_keepsSilent, Cond.instanceMethod yX2_keepsSilent, Cond.selects RX2 yX2_keepsSilent yX2_keepsSilent, Cond.code yX2_keepsSilent cX2_keepsSilent 2 (some .int), Cond.methodLink RX2 43 yX2_freeHours, Cond.instanceMethod yX2_freeHours, Cond.selects RX2 yX2_freeHours yX2_freeHours, Cond.code yX2_freeHours cX2_freeHours 2 (some .int), Cond.methodLink RL 31 yX9_room, Cond.instanceMethod yX9_room, Cond.selects RX9 yX9_room yX9_room, Cond.code yX9_room cX9_room 5 (some .int), Cond.constantLong RX9 128 (2), Cond.methodLink RX9 125 yX9_isRoom, Cond.instanceMethod yX9_isRoom, Cond.selects RX9 yX9_isRoom yX9_isRoom, Cond.code yX9_isRoom cX9_isRoom 2 (some .boolean), Cond.methodLink RX9 130 yX9_more]
def wsL_law_r14 : List Cond := [Cond.instanceMethod yX9_more, Cond.selects RX9 yX9_more yX9_more, Cond.code yX9_more cX9_more 3 (some .int), Cond.methodLink RX9 115 yX9_free, Cond.instanceMethod yX9_free, Cond.selects RX9 yX9_free yX9_free, Cond.code yX9_free cX9_free 2 (some .int), Cond.methodLink RX9 119 yX9_must, Cond.instanceMethod yX9_must, Cond.selects RX9 yX9_must yX9_must, Cond.code yX9_must cX9_must 2 (some .int), Cond.methodLink RX9 134 yX9_livesIn, Cond.instanceMethod yX9_livesIn, Cond.selects RX9 yX9_livesIn yX9_livesIn, Cond.code yX9_livesIn cX9_livesIn 4 (some .int), Cond.methodLink RX9 122 yX9_roomOf, Cond.instanceMethod yX9_roomOf, Cond.selects RX9 yX9_roomOf yX9_roomOf, Cond.code yX9_roomOf cX9_roomOf 2 (some .int), Cond.methodLink RL 32 yX8_tenant, Cond.instanceMethod yX8_tenant, Cond.selects RX8 yX8_tenant yX8_tenant, Cond.code yX8_tenant cX8_tenant 3 (some .int), Cond.fieldLink RX8 111 "SilentRent$House" "sleep" "[I"]
def wsL_law_r15 : List Cond := [Cond.fieldLink RX8 114 "SilentRent$House" "must" "[I", Cond.fieldLink RX8 117 "SilentRent$House" "wits" "[I", Cond.fieldLink RX8 120 "SilentRent$House" "asks" "[I", Cond.fieldLink RX8 123 "SilentRent$Now" "home" "[I", Cond.fieldLink RX8 126 "SilentRent$Now" "talked" "[I", Cond.fieldLink RX8 129 "SilentRent$Now" "pays" "[I", Cond.fieldLink RX8 132 "SilentRent$Now" "debt" "[I", Cond.fieldLink RX8 138 "SilentRent$House" "hears" "[I", Cond.methodLink RX8 108 yX2_hasTenant, Cond.instanceMethod yX2_hasTenant, Cond.selects RX2 yX2_hasTenant yX2_hasTenant, Cond.code yX2_hasTenant cX2_hasTenant 2 (some .boolean), Cond.methodLink RX8 135 yX8_silentHours, Cond.instanceMethod yX8_silentHours, Cond.selects RX8 yX8_silentHours yX8_silentHours, Cond.code yX8_silentHours cX8_silentHours 2 (some .int), Cond.methodLink RX8 170 Lib.Math.max.name, Cond.static Lib.Math.max.name, Cond.initialized "java/lang/Math", Cond.code Lib.Math.max.name Lib.Math.max.code 2 (some .int), Cond.methodLink RX8 155 yX2_freeHours, Cond.methodLink RL 35 yX9_tenant, Cond.instanceMethod yX9_tenant, Cond.selects RX9 yX9_tenant yX9_tenant]
def wsL_law_r16 : List Cond := [Cond.code yX9_tenant cX9_tenant 3 (some .int), Cond.constantLong RX9 140 (9), Cond.methodLink RX9 137 yX9_isTenant, Cond.instanceMethod yX9_isTenant, Cond.selects RX9 yX9_isTenant yX9_isTenant, Cond.code yX9_isTenant cX9_isTenant 2 (some .boolean), Cond.methodLink RX9 142 yX9_silent, Cond.instanceMethod yX9_silent, Cond.selects RX9 yX9_silent yX9_silent, Cond.code yX9_silent cX9_silent 3 (some .int), Cond.methodLink RL 36 yX8_chair, Cond.instanceMethod yX8_chair, Cond.selects RX8 yX8_chair yX8_chair, Cond.code yX8_chair cX8_chair 2 (some .int), Cond.fieldLink RX8 144 "SilentRent$House" "lips" "[I", Cond.methodLink RX8 141 yX2_hasChair, Cond.instanceMethod yX2_hasChair, Cond.selects RX2 yX2_hasChair yX2_hasChair, Cond.code yX2_hasChair cX2_hasChair 2 (some .boolean), Cond.fieldLink RX2 40 "SilentRent$House" "chairs" "I", Cond.methodLink RX8 147 yX2_everybody, Cond.instanceMethod yX2_everybody, Cond.selects RX2 yX2_everybody yX2_everybody, Cond.code yX2_everybody cX2_everybody 1 (some .int)]
def wsL_law_r17 : List Cond := [Cond.methodLink RL 39 yX9_chair, Cond.instanceMethod yX9_chair, Cond.selects RX9 yX9_chair yX9_chair, Cond.code yX9_chair cX9_chair 2 (some .int), Cond.methodLink RX9 145 yX9_lips, Cond.instanceMethod yX9_lips, Cond.selects RX9 yX9_lips yX9_lips, Cond.code yX9_lips cX9_lips 2 (some .int), Cond.methodLink RL 40 yX8_moves, Cond.instanceMethod yX8_moves, Cond.selects RX8 yX8_moves yX8_moves, Cond.code yX8_moves cX8_moves 5 (some .int), Cond.methodLink RX8 151 yX6_push, Cond.instanceMethod yX6_push, Cond.selects RX6 yX6_push yX6_push, Cond.code yX6_push cX6_push 2 none, Cond.fieldLink RX6 18 "SilentRent$Past" "known" "I", Cond.methodLink RX6 22 yX6_loseOldest, Cond.instanceMethod yX6_loseOldest, Cond.selects RX6 yX6_loseOldest yX6_loseOldest, Cond.code yX6_loseOldest cX6_loseOldest 3 none, Cond.methodLink RX6 25 yX5_copyFrom, Cond.instanceMethod yX5_copyFrom, Cond.selects RX5 yX5_copyFrom yX5_copyFrom]
def wsL_law_r18 : List Cond := [Cond.code yX5_copyFrom cX5_copyFrom 2 none, Cond.methodLink RX5 34 arraycopyName, Cond.native arraycopyName, Cond.static arraycopyName, Cond.initialized "java/lang/System", Cond.methodLink RL 43 yX9_moves, Cond.instanceMethod yX9_moves, Cond.selects RX9 yX9_moves yX9_moves, Cond.code yX9_moves cX9_moves 4 (some .int), Cond.constantLong RX9 148 (-1), Cond.methodLink RX9 150 yX9_notes, Cond.instanceMethod yX9_notes, Cond.selects RX9 yX9_notes yX9_notes, Cond.code yX9_notes cX9_notes 2 none, Cond.methodLink RL 44 yX8_talks, Cond.instanceMethod yX8_talks, Cond.selects RX8 yX8_talks yX8_talks, Cond.code yX8_talks cX8_talks 6 (some .int), Cond.methodLink RL 48 yX9_talks, Cond.instanceMethod yX9_talks, Cond.selects RX9 yX9_talks yX9_talks, Cond.code yX9_talks cX9_talks 5 (some .int), Cond.constantLong RX9 153 (24), Cond.methodLink RL 49 yX8_evening]
def wsL_law_r19 : List Cond := [Cond.instanceMethod yX8_evening, Cond.selects RX8 yX8_evening yX8_evening, Cond.code yX8_evening cX8_evening 3 (some .int), Cond.fieldLink RX8 158 "SilentRent$Now" "day" "I", Cond.fieldLink RX8 161 "SilentRent$House" "tenants" "I", Cond.methodLink RX8 164 Lib.Math.min.name, Cond.static Lib.Math.min.name, Cond.code Lib.Math.min.name Lib.Math.min.code 2 (some .int), Cond.methodLink RX8 173 yJ7_fill_53178, Cond.methodLink RX8 179 yX5_allDebts, Cond.instanceMethod yX5_allDebts, Cond.selects RX5 yX5_allDebts yX5_allDebts, Cond.code yX5_allDebts cX5_allDebts 3 (some .int), Cond.methodLink RL 52 yX9_evening, Cond.instanceMethod yX9_evening, Cond.selects RX9 yX9_evening yX9_evening, Cond.code yX9_evening cX9_evening 3 (some .int), Cond.methodLink RX9 155 yX9_debt, Cond.instanceMethod yX9_debt, Cond.selects RX9 yX9_debt yX9_debt, Cond.code yX9_debt cX9_debt 2 (some .int), Cond.methodLink RX9 158 yX9_debts, Cond.instanceMethod yX9_debts, Cond.selects RX9 yX9_debts yX9_debts]
def wsL_law_r20 : List Cond := [Cond.code yX9_debts cX9_debts 3 (some .int), Cond.methodLink RL 53 yX8_lends, Cond.instanceMethod yX8_lends, Cond.selects RX8 yX8_lends yX8_lends, Cond.code yX8_lends cX8_lends 4 (some .int), Cond.methodLink RL 56 yX9_lends, Cond.instanceMethod yX9_lends, Cond.selects RX9 yX9_lends yX9_lends, Cond.code yX9_lends cX9_lends 4 (some .int), Cond.constantLong RX9 162 (99), Cond.methodLink RL 57 yX8_undo, Cond.instanceMethod yX8_undo, Cond.selects RX8 yX8_undo yX8_undo, Cond.code yX8_undo cX8_undo 1 (some .int), Cond.methodLink RX8 182 yX6_pop, Cond.instanceMethod yX6_pop, Cond.selects RX6 yX6_pop yX6_pop, Cond.code yX6_pop cX6_pop 2 none, Cond.methodLink RL 60 yX9_undo, Cond.instanceMethod yX9_undo, Cond.selects RX9 yX9_undo yX9_undo, Cond.code yX9_undo cX9_undo 2 (some .int), Cond.methodLink RL 61 yX8_now, Cond.instanceMethod yX8_now]
def wsL_law_r21 : List Cond := [Cond.selects RX8 yX8_now yX8_now, Cond.code yX8_now cX8_now 2 (some .int), Cond.methodLink RX8 185 yX8_dwellers, Cond.instanceMethod yX8_dwellers, Cond.selects RX8 yX8_dwellers yX8_dwellers, Cond.code yX8_dwellers cX8_dwellers 3 (some .int), Cond.methodLink RX8 188 yX8_emptyRooms, Cond.instanceMethod yX8_emptyRooms, Cond.selects RX8 yX8_emptyRooms yX8_emptyRooms, Cond.code yX8_emptyRooms cX8_emptyRooms 3 (some .int), Cond.fieldLink RX8 194 "SilentRent$House" "rooms" "I", Cond.methodLink RX8 191 yX8_lackingDwellers, Cond.instanceMethod yX8_lackingDwellers, Cond.selects RX8 yX8_lackingDwellers yX8_lackingDwellers, Cond.code yX8_lackingDwellers cX8_lackingDwellers 3 (some .int), Cond.methodLink RX8 197 yX8_spareHours, Cond.instanceMethod yX8_spareHours, Cond.selects RX8 yX8_spareHours yX8_spareHours, Cond.code yX8_spareHours cX8_spareHours 3 (some .int), Cond.methodLink RX8 232 yX2_keepsSilent, Cond.methodLink RL 64 yX9_now, Cond.instanceMethod yX9_now, Cond.selects RX9 yX9_now yX9_now, Cond.code yX9_now cX9_now 7 (some .int)]
def wsL_law_r22 : List Cond := [Cond.methodLink RL 65 yX8_housed, Cond.instanceMethod yX8_housed, Cond.selects RX8 yX8_housed yX8_housed, Cond.code yX8_housed cX8_housed 2 (some .int), Cond.fieldLink RX8 210 "SilentRent$Housing" "home" "[I", Cond.methodLink RX8 200 yX3_solve, Cond.instanceMethod yX3_solve, Cond.selects RX3 yX3_solve yX3_solve, Cond.code yX3_solve cX3_solve 4 none, Cond.fieldLink RX3 20 "SilentRent$House" "tenants" "I", Cond.fieldLink RX3 32 "SilentRent$House" "rooms" "I", Cond.methodLink RX3 26 yJ7_fill_53178, Cond.methodLink RX3 35 yX3_mostFrom, Cond.instanceMethod yX3_mostFrom, Cond.selects RX3 yX3_mostFrom yX3_mostFrom, Cond.code yX3_mostFrom cX3_mostFrom 6 (some .int), Cond.methodLink RX3 57 Lib.Math.max.name, Cond.methodLink RX3 49 yX3_canTake, Cond.instanceMethod yX3_canTake, Cond.selects RX3 yX3_canTake yX3_canTake, Cond.code yX3_canTake cX3_canTake 5 (some .boolean), Cond.methodLink RX3 63 yX2_meets, Cond.methodLink RX3 53 yX3_withRoom, Cond.instanceMethod yX3_withRoom]
def wsL_law_r23 : List Cond := [Cond.selects RX3 yX3_withRoom yX3_withRoom, Cond.code yX3_withRoom cX3_withRoom 5 (some .int), Cond.fieldLink RX3 46 "SilentRent$House" "price" "[I", Cond.methodLink RX3 39 yX3_firstOfBest, Cond.instanceMethod yX3_firstOfBest, Cond.selects RX3 yX3_firstOfBest yX3_firstOfBest, Cond.code yX3_firstOfBest cX3_firstOfBest 5 (some .int), Cond.methodLink RX8 204 yX3_howMany, Cond.instanceMethod yX3_howMany, Cond.selects RX3 yX3_howMany yX3_howMany, Cond.code yX3_howMany cX3_howMany 4 (some .int), Cond.methodLink RX8 207 yX3_prices, Cond.instanceMethod yX3_prices, Cond.selects RX3 yX3_prices yX3_prices, Cond.code yX3_prices cX3_prices 4 (some .int), Cond.methodLink RX3 42 yX2_hasRoom, Cond.methodLink RL 68 yX9_housed, Cond.instanceMethod yX9_housed, Cond.selects RX9 yX9_housed yX9_housed, Cond.code yX9_housed cX9_housed 2 (some .int), Cond.constantLong RX9 173 (-2), Cond.fieldLink RX9 167 "SilentRentModel" "best" "I", Cond.fieldLink RX9 170 "SilentRentModel" "bestPrices" "I", Cond.methodLink RX9 175 yX9_finds]
def wsL_law_r24 : List Cond := [Cond.instanceMethod yX9_finds, Cond.selects RX9 yX9_finds yX9_finds, Cond.code yX9_finds cX9_finds 11 none, Cond.methodLink RX9 164 yX9_power, Cond.static yX9_power, Cond.code yX9_power cX9_power 4 (some .int), Cond.methodLink RL 69 yX8_crowd, Cond.instanceMethod yX8_crowd, Cond.selects RX8 yX8_crowd yX8_crowd, Cond.code yX8_crowd cX8_crowd 5 (some .int), Cond.methodLink RX8 211 yJ6_bitCount_0f7a4, Cond.static yJ6_bitCount_0f7a4, Cond.initialized RJ6, Cond.code yJ6_bitCount_0f7a4 cJ6_bitCount_0f7a4 1 (some .int), Cond.constant RJ6 265 (1431655765), Cond.constant RJ6 266 (858993459), Cond.constant RJ6 267 (252645135), Cond.methodLink RX8 216 yX2_roomsMetBy, Cond.instanceMethod yX2_roomsMetBy, Cond.selects RX2 yX2_roomsMetBy yX2_roomsMetBy, Cond.code yX2_roomsMetBy cX2_roomsMetBy 4 (some .int), Cond.methodLink RX2 54 yX2_whoMeets, Cond.methodLink RL 72 yX9_crowd, Cond.instanceMethod yX9_crowd]
def wsL_law_r25 : List Cond := [Cond.selects RX9 yX9_crowd yX9_crowd, Cond.code yX9_crowd cX9_crowd 7 (some .int), Cond.methodLink RX9 178 yX9_many, Cond.static yX9_many, Cond.code yX9_many cX9_many 3 (some .int), Cond.methodLink RL 73 yX8_spare, Cond.instanceMethod yX8_spare, Cond.selects RX8 yX8_spare yX8_spare, Cond.code yX8_spare cX8_spare 2 (some .int), Cond.constant RX8 219 (-1000000), Cond.methodLink RL 76 yX9_spare, Cond.instanceMethod yX9_spare, Cond.selects RX9 yX9_spare yX9_spare, Cond.code yX9_spare cX9_spare 2 (some .int), Cond.constant RX9 184 (-1000000), Cond.methodLink RX9 181 yX9_spareOf, Cond.instanceMethod yX9_spareOf, Cond.selects RX9 yX9_spareOf yX9_spareOf, Cond.code yX9_spareOf cX9_spareOf 2 (some .int), Cond.methodLink RL 77 yX8_rest, Cond.instanceMethod yX8_rest, Cond.selects RX8 yX8_rest yX8_rest, Cond.code yX8_rest cX8_rest 3 (some .int), Cond.methodLink RX8 220 yX8_hoursForSale]
def wsL_law_r26 : List Cond := [Cond.instanceMethod yX8_hoursForSale, Cond.selects RX8 yX8_hoursForSale yX8_hoursForSale, Cond.code yX8_hoursForSale cX8_hoursForSale 4 (some .int), Cond.methodLink RX8 223 yX8_hoursBought, Cond.instanceMethod yX8_hoursBought, Cond.selects RX8 yX8_hoursBought yX8_hoursBought, Cond.code yX8_hoursBought cX8_hoursBought 4 (some .int), Cond.methodLink RL 80 yX9_rest, Cond.instanceMethod yX9_rest, Cond.selects RX9 yX9_rest yX9_rest, Cond.code yX9_rest cX9_rest 8 (some .int), Cond.methodLink RL 81 yX8_payments, Cond.instanceMethod yX8_payments, Cond.selects RX8 yX8_payments yX8_payments, Cond.code yX8_payments cX8_payments 3 (some .int), Cond.methodLink RX8 226 yX8_lackingShare, Cond.instanceMethod yX8_lackingShare, Cond.selects RX8 yX8_lackingShare yX8_lackingShare, Cond.code yX8_lackingShare cX8_lackingShare 5 (some .int), Cond.methodLink RX8 229 yX8_mostGroups, Cond.instanceMethod yX8_mostGroups, Cond.selects RX8 yX8_mostGroups yX8_mostGroups, Cond.code yX8_mostGroups cX8_mostGroups 6 (some .int), Cond.methodLink RL 84 yX9_payments]
def wsL_law_r27 : List Cond := [Cond.instanceMethod yX9_payments, Cond.selects RX9 yX9_payments yX9_payments, Cond.code yX9_payments cX9_payments 6 (some .int), Cond.methodLink RX9 185 yX9_lacksOf, Cond.instanceMethod yX9_lacksOf, Cond.selects RX9 yX9_lacksOf yX9_lacksOf, Cond.code yX9_lacksOf cX9_lacksOf 3 (some .int), Cond.methodLink RL 85 yX8_settled, Cond.instanceMethod yX8_settled, Cond.selects RX8 yX8_settled yX8_settled, Cond.code yX8_settled cX8_settled 2 (some .int), Cond.methodLink RL 88 yX9_settled, Cond.instanceMethod yX9_settled, Cond.selects RX9 yX9_settled yX9_settled, Cond.code yX9_settled cX9_settled 2 (some .int), Cond.methodLink RL 89 yX8_told, Cond.instanceMethod yX8_told, Cond.selects RX8 yX8_told yX8_told, Cond.code yX8_told cX8_told 6 (some .int), Cond.methodLink RX8 235 yX8_allKnow, Cond.instanceMethod yX8_allKnow, Cond.selects RX8 yX8_allKnow yX8_allKnow, Cond.code yX8_allKnow cX8_allKnow 5 (some .boolean), Cond.methodLink RX8 239 yX2_hearers]
def wsL_law_r28 : List Cond := [Cond.instanceMethod yX2_hearers, Cond.selects RX2 yX2_hearers yX2_hearers, Cond.code yX2_hearers cX2_hearers 4 (some .int), Cond.methodLink RL 92 yX9_told, Cond.instanceMethod yX9_told, Cond.selects RX9 yX9_told yX9_told, Cond.code yX9_told cX9_told 6 (some .int), Cond.methodLink RX9 191 yX9_know, Cond.instanceMethod yX9_know, Cond.selects RX9 yX9_know yX9_know, Cond.code yX9_know cX9_know 5 (some .int), Cond.methodLink RX9 188 yX9_hear, Cond.instanceMethod yX9_hear, Cond.selects RX9 yX9_hear yX9_hear, Cond.code yX9_hear cX9_hear 4 (some .int), Cond.methodLink RL 93 yX8_rounds, Cond.instanceMethod yX8_rounds, Cond.selects RX8 yX8_rounds yX8_rounds, Cond.code yX8_rounds cX8_rounds 4 (some .int), Cond.methodLink RL 96 yX9_rounds, Cond.instanceMethod yX9_rounds, Cond.selects RX9 yX9_rounds yX9_rounds, Cond.code yX9_rounds cX9_rounds 4 (some .int), Cond.methodLink RL 97 yX8_watch]
def wsL_law_r29 : List Cond := [Cond.instanceMethod yX8_watch, Cond.selects RX8 yX8_watch yX8_watch, Cond.code yX8_watch cX8_watch 6 (some .int), Cond.fieldLink RX8 242 "SilentRent$House" "chairs" "I", Cond.methodLink RX8 245 yX2_seenFrom, Cond.instanceMethod yX2_seenFrom, Cond.selects RX2 yX2_seenFrom yX2_seenFrom, Cond.code yX2_seenFrom cX2_seenFrom 4 (some .int), Cond.methodLink RL 100 yX9_watch, Cond.instanceMethod yX9_watch, Cond.selects RX9 yX9_watch yX9_watch, Cond.code yX9_watch cX9_watch 6 (some .int), Cond.methodLink RL 101 yX8_odds, Cond.instanceMethod yX8_odds, Cond.selects RX8 yX8_odds yX8_odds, Cond.code yX8_odds cX8_odds 9 (some .long), Cond.constantLong RX8 248 (-1), Cond.constantLong RX8 250 (10), Cond.methodLink RX8 252 yX8_commonDivisor, Cond.static yX8_commonDivisor, Cond.code yX8_commonDivisor cX8_commonDivisor 7 (some .long), Cond.methodLink RL 105 yX9_odds, Cond.instanceMethod yX9_odds, Cond.selects RX9 yX9_odds yX9_odds]
def wsL_law_r30 : List Cond := [Cond.code yX9_odds cX9_odds 13 (some .long), Cond.constantLong RX9 194 (10), Cond.methodLink RL 106 yX8_book, Cond.instanceMethod yX8_book, Cond.selects RX8 yX8_book yX8_book, Cond.code yX8_book cX8_book 3 (some .int), Cond.fieldLink RX8 256 "SilentRent$Book" "who" "[I", Cond.fieldLink RX8 259 "SilentRent$Book" "lacks" "[I", Cond.methodLink RL 109 yX9_book, Cond.instanceMethod yX9_book, Cond.selects RX9 yX9_book yX9_book, Cond.code yX9_book cX9_book 3 (some .int), Cond.methodLink RL 110 yX8_burn, Cond.instanceMethod yX8_burn, Cond.selects RX8 yX8_burn yX8_burn, Cond.code yX8_burn cX8_burn 2 (some .int), Cond.methodLink RL 113 yX9_burn, Cond.instanceMethod yX9_burn, Cond.selects RX9 yX9_burn yX9_burn, Cond.code yX9_burn cX9_burn 2 (some .int), Cond.methodLink RL 114 yX8_fits, Cond.instanceMethod yX8_fits, Cond.selects RX8 yX8_fits yX8_fits, Cond.code yX8_fits cX8_fits 2 (some .int)]
def wsL_law_r31 : List Cond := [Cond.fieldLink RX8 265 "SilentRent$Fitting" "ways" "[I", Cond.methodLink RX8 262 yX1_solve, Cond.instanceMethod yX1_solve, Cond.selects RX1 yX1_solve yX1_solve, Cond.code yX1_solve cX1_solve 5 none, Cond.fieldLink RX1 22 "SilentRent$House" "rooms" "I", Cond.fieldLink RX1 28 "SilentRent$Fitting" "rooms" "I", Cond.fieldLink RX1 29 "SilentRent$House" "tenants" "I", Cond.methodLink RX1 32 yX0_roomsThatAgree, Cond.instanceMethod yX0_roomsThatAgree, Cond.selects RX0 yX0_roomsThatAgree yX0_roomsThatAgree, Cond.code yX0_roomsThatAgree cX0_roomsThatAgree 5 (some .int), Cond.fieldLink RX0 18 "SilentRent$House" "rooms" "I", Cond.fieldLink RX0 24 "SilentRent$House" "price" "[I", Cond.methodLink RX0 31 Lib.Math.max.name, Cond.methodLink RX0 27 yX2_keepsSilent, Cond.methodLink RX0 37 yX0_agrees, Cond.instanceMethod yX0_agrees, Cond.selects RX0 yX0_agrees yX0_agrees, Cond.code yX0_agrees cX0_agrees 4 (some .boolean), Cond.fieldLink RX0 41 "SilentRent$Book" "length" "I", Cond.methodLink RX1 38 yJ6_bitCount_0f7a4, Cond.methodLink RX1 44 yX1_waysOn, Cond.instanceMethod yX1_waysOn]
def wsL_law_r32 : List Cond := [Cond.selects RX1 yX1_waysOn yX1_waysOn, Cond.code yX1_waysOn cX1_waysOn 5 (some .int), Cond.methodLink RX1 48 yX1_reachFrom, Cond.instanceMethod yX1_reachFrom, Cond.selects RX1 yX1_reachFrom yX1_reachFrom, Cond.code yX1_reachFrom cX1_reachFrom 4 none, Cond.methodLink RX8 268 yX1_firstRoom, Cond.instanceMethod yX1_firstRoom, Cond.selects RX1 yX1_firstRoom yX1_firstRoom, Cond.code yX1_firstRoom cX1_firstRoom 5 (some .int), Cond.methodLink RX1 52 yX1_firstFrom, Cond.instanceMethod yX1_firstFrom, Cond.selects RX1 yX1_firstFrom yX1_firstFrom, Cond.code yX1_firstFrom cX1_firstFrom 5 (some .int), Cond.methodLink RX1 55 yX1_goodRooms, Cond.instanceMethod yX1_goodRooms, Cond.selects RX1 yX1_goodRooms yX1_goodRooms, Cond.code yX1_goodRooms cX1_goodRooms 5 (some .int), Cond.methodLink RL 117 yX9_fits, Cond.instanceMethod yX9_fits, Cond.selects RX9 yX9_fits yX9_fits, Cond.code yX9_fits cX9_fits 2 (some .int), Cond.fieldLink RX9 196 "SilentRentModel" "ways" "I", Cond.methodLink RX9 202 yX9_fit]
def wsL_law_r33 : List Cond := [Cond.instanceMethod yX9_fit, Cond.selects RX9 yX9_fit yX9_fit, Cond.code yX9_fit cX9_fit 8 none, Cond.methodLink RX9 199 yX9_isSo, Cond.instanceMethod yX9_isSo, Cond.selects RX9 yX9_isSo yX9_isSo, Cond.code yX9_isSo cX9_isSo 6 (some .boolean), Cond.methodLink RL 118 yX8_may, Cond.instanceMethod yX8_may, Cond.selects RX8 yX8_may yX8_may, Cond.code yX8_may cX8_may 2 (some .int), Cond.methodLink RX8 271 yX1_someRooms, Cond.instanceMethod yX1_someRooms, Cond.selects RX1 yX1_someRooms yX1_someRooms, Cond.code yX1_someRooms cX1_someRooms 4 (some .int), Cond.methodLink RL 121 yX9_may, Cond.instanceMethod yX9_may, Cond.selects RX9 yX9_may yX9_may, Cond.code yX9_may cX9_may 2 (some .int), Cond.methodLink RL 122 yX8_mark, Cond.instanceMethod yX8_mark, Cond.selects RX8 yX8_mark yX8_mark, Cond.code yX8_mark cX8_mark 3 (some .int), Cond.methodLink RX8 274 yX8_markTenant]
def wsL_law_r34 : List Cond := [Cond.instanceMethod yX8_markTenant, Cond.selects RX8 yX8_markTenant yX8_markTenant, Cond.code yX8_markTenant cX8_markTenant 2 (some .int), Cond.fieldLink RX8 300 "SilentRent" "asked" "J", Cond.methodLink RX8 277 yX8_markTalker, Cond.instanceMethod yX8_markTalker, Cond.selects RX8 yX8_markTalker yX8_markTalker, Cond.code yX8_markTalker cX8_markTalker 2 (some .int), Cond.methodLink RX8 280 yX8_markMute, Cond.instanceMethod yX8_markMute, Cond.selects RX8 yX8_markMute yX8_markMute, Cond.code yX8_markMute cX8_markMute 2 (some .int), Cond.constantLong RX8 304 (100), Cond.methodLink RX8 283 yX8_markWhistler, Cond.instanceMethod yX8_markWhistler, Cond.selects RX8 yX8_markWhistler yX8_markWhistler, Cond.code yX8_markWhistler cX8_markWhistler 2 (some .int), Cond.constantLong RX8 306 (1000), Cond.methodLink RX8 286 yX8_markHired, Cond.instanceMethod yX8_markHired, Cond.selects RX8 yX8_markHired yX8_markHired, Cond.code yX8_markHired cX8_markHired 2 (some .int), Cond.constantLong RX8 308 (10000), Cond.methodLink RX8 289 yX8_markLawyer]
def wsL_law_r35 : List Cond := [Cond.instanceMethod yX8_markLawyer, Cond.selects RX8 yX8_markLawyer yX8_markLawyer, Cond.code yX8_markLawyer cX8_markLawyer 2 (some .int), Cond.constantLong RX8 310 (100000), Cond.methodLink RL 125 yX9_mark, Cond.instanceMethod yX9_mark, Cond.selects RX9 yX9_mark yX9_mark, Cond.code yX9_mark cX9_mark 4 (some .int), Cond.constantLong RX9 205 (5), Cond.fieldLink RX9 207 "SilentRentModel" "trace" "J", Cond.constantLong RX9 211 (11), Cond.constantLong RX9 213 (101), Cond.constantLong RX9 215 (1011), Cond.constantLong RX9 217 (10101), Cond.constantLong RX9 219 (100001), Cond.methodLink RL 126 yX8_keep, Cond.instanceMethod yX8_keep, Cond.selects RX8 yX8_keep yX8_keep, Cond.code yX8_keep cX8_keep 3 (some .int), Cond.fieldLink RX8 292 "SilentRent$Image" "now" "LSilentRent$Now;", Cond.fieldLink RX8 296 "SilentRent$Image" "past" "LSilentRent$Past;", Cond.methodLink RX8 293 yX5_copyFrom, Cond.methodLink RX8 297 yX6_copyFrom, Cond.instanceMethod yX6_copyFrom]
def wsL_law_r36 : List Cond := [Cond.selects RX6 yX6_copyFrom yX6_copyFrom, Cond.code yX6_copyFrom cX6_copyFrom 3 none, Cond.methodLink RL 129 yX9_keep, Cond.instanceMethod yX9_keep, Cond.selects RX9 yX9_keep yX9_keep, Cond.code yX9_keep cX9_keep 4 (some .int), Cond.methodLink RL 130 yX8_back, Cond.instanceMethod yX8_back, Cond.selects RX8 yX8_back yX8_back, Cond.code yX8_back cX8_back 3 (some .int), Cond.methodLink RL 133 yX9_back, Cond.instanceMethod yX9_back, Cond.selects RX9 yX9_back yX9_back, Cond.code yX9_back cX9_back 4 (some .int), Cond.methodLink RL 134 yX8_count, Cond.instanceMethod yX8_count, Cond.selects RX8 yX8_count yX8_count, Cond.code yX8_count cX8_count 2 (some .int), Cond.methodLink RL 137 yX9_count, Cond.instanceMethod yX9_count, Cond.selects RX9 yX9_count yX9_count, Cond.code yX9_count cX9_count 2 (some .int), Cond.methodLink RL 138 yX8_trace, Cond.instanceMethod yX8_trace]
def wsL_law_r37 : List Cond := [Cond.selects RX8 yX8_trace yX8_trace, Cond.code yX8_trace cX8_trace 1 (some .long), Cond.methodLink RL 142 yX9_trace, Cond.instanceMethod yX9_trace, Cond.selects RX9 yX9_trace yX9_trace, Cond.code yX9_trace cX9_trace 1 (some .long)]
def wsL_law : List Cond := (wsL_law_r1 ++ (wsL_law_r2 ++ (wsL_law_r3 ++ (wsL_law_r4 ++ (wsL_law_r5 ++ (wsL_law_r6 ++ (wsL_law_r7 ++ (wsL_law_r8 ++ (wsL_law_r9 ++ (wsL_law_r10 ++ (wsL_law_r11 ++ (wsL_law_r12 ++ (wsL_law_r13 ++ (wsL_law_r14 ++ (wsL_law_r15 ++ (wsL_law_r16 ++ (wsL_law_r17 ++ (wsL_law_r18 ++ (wsL_law_r19 ++ (wsL_law_r20 ++ (wsL_law_r21 ++ (wsL_law_r22 ++ (wsL_law_r23 ++ (wsL_law_r24 ++ (wsL_law_r25 ++ (wsL_law_r26 ++ (wsL_law_r27 ++ (wsL_law_r28 ++ (wsL_law_r29 ++ (wsL_law_r30 ++ (wsL_law_r31 ++ (wsL_law_r32 ++ (wsL_law_r33 ++ (wsL_law_r34 ++ (wsL_law_r35 ++ (wsL_law_r36 ++ wsL_law_r37)))))))))))))))))))))))))))))))))))) ++ wsX80 ++ wsX90 ++ wsX70 ++ wsX20 ++ wsX50 ++ wsX60 ++ wsX00 ++ wsX30 ++ wsX10 ++ wsX40 ++ ([] : List Cond)
theorem inlX0 : ∀ w ∈ wsX00, w ∈ wsL_law := fun _ h => List.mem_append_left _ (List.mem_append_left _ (List.mem_append_left _ (List.mem_append_left _ (List.mem_append_right _ h))))
theorem inlX1 : ∀ w ∈ wsX10, w ∈ wsL_law := fun _ h => List.mem_append_left _ (List.mem_append_left _ (List.mem_append_right _ h))
theorem inlX2 : ∀ w ∈ wsX20, w ∈ wsL_law := fun _ h => List.mem_append_left _ (List.mem_append_left _ (List.mem_append_left _ (List.mem_append_left _ (List.mem_append_left _ (List.mem_append_left _ (List.mem_append_left _ (List.mem_append_right _ h)))))))
theorem inlX3 : ∀ w ∈ wsX30, w ∈ wsL_law := fun _ h => List.mem_append_left _ (List.mem_append_left _ (List.mem_append_left _ (List.mem_append_right _ h)))
theorem inlX4 : ∀ w ∈ wsX40, w ∈ wsL_law := fun _ h => List.mem_append_left _ (List.mem_append_right _ h)
theorem inlX5 : ∀ w ∈ wsX50, w ∈ wsL_law := fun _ h => List.mem_append_left _ (List.mem_append_left _ (List.mem_append_left _ (List.mem_append_left _ (List.mem_append_left _ (List.mem_append_left _ (List.mem_append_right _ h))))))
theorem inlX6 : ∀ w ∈ wsX60, w ∈ wsL_law := fun _ h => List.mem_append_left _ (List.mem_append_left _ (List.mem_append_left _ (List.mem_append_left _ (List.mem_append_left _ (List.mem_append_right _ h)))))
theorem inlX7 : ∀ w ∈ wsX70, w ∈ wsL_law := fun _ h => List.mem_append_left _ (List.mem_append_left _ (List.mem_append_left _ (List.mem_append_left _ (List.mem_append_left _ (List.mem_append_left _ (List.mem_append_left _ (List.mem_append_left _ (List.mem_append_right _ h))))))))
theorem inlX8 : ∀ w ∈ wsX80, w ∈ wsL_law := fun _ h => List.mem_append_left _ (List.mem_append_left _ (List.mem_append_left _ (List.mem_append_left _ (List.mem_append_left _ (List.mem_append_left _ (List.mem_append_left _ (List.mem_append_left _ (List.mem_append_left _ (List.mem_append_left _ (List.mem_append_right _ h))))))))))
theorem inlX9 : ∀ w ∈ wsX90, w ∈ wsL_law := fun _ h => List.mem_append_left _ (List.mem_append_left _ (List.mem_append_left _ (List.mem_append_left _ (List.mem_append_left _ (List.mem_append_left _ (List.mem_append_left _ (List.mem_append_left _ (List.mem_append_left _ (List.mem_append_right _ h)))))))))
set_option maxRecDepth 20000 in
theorem ggL_law_X8_init : GoodIn wsL_law wsX8_init := goodIn_r _ [8, 9, 10, 11, 12, 13, 14, 15, 16, 17, 18, 19, 20, 21, 22, 23, 24, 25, 26, 27, 28, 29, 30, 31, 32, 33, 34, 35, 36, 37, 38, 39, 40, 41, 42, 43, 44, 45, 46, 47, 48, 49, 50, 51, 52, 53, 54, 55, 56, 57, 58, 59, 60, 61, 62, 63, 64, 65, 66, 67, 68, 69, 70, 71, 72, 73, 74, 75, 76, 77, 78, 79, 80, 81, 82, 83, 84, 85, 86, 87, 88, 89, 90, 91, 92, 93, 94, 95, 96, 97, 98, 99, 100, 101, 102, 103, 104, 105, 106, 903, 904, 905, 906, 907, 908, 870, 871, 872, 873, 874, 875, 876, 877, 878, 879, 880, 909, 910, 911, 912, 913, 914, 915, 916, 917, 918, 919, 920, 921, 922, 923, 924, 925, 926, 927, 928, 929, 930, 931, 932, 933, 934, 935, 936, 937] (by decide +kernel) (by decide +kernel)
set_option maxRecDepth 20000 in
theorem gL_law_X8_init : GoodIn wsL_law (wsX8_init) := ggL_law_X8_init
set_option maxRecDepth 20000 in
theorem ggL_law_X9_init : GoodIn wsL_law wsX9_init := goodIn_r _ [109, 110, 10, 11, 43, 111, 112, 113, 114, 115, 116, 117, 118, 119, 120, 121, 122, 123, 124, 5, 125, 126, 127, 881, 882, 883, 884, 885, 886, 887, 888, 889, 890, 891, 892, 893, 894, 895, 896, 897, 898, 899, 900, 901, 902] (by decide +kernel) (by decide +kernel)
set_option maxRecDepth 20000 in
theorem gL_law_X9_init : GoodIn wsL_law (wsX9_init) := ggL_law_X9_init
set_option maxRecDepth 20000 in
theorem ggL_law_X8_type : GoodIn wsL_law wsX8_type := goodIn_r _ [131, 15, 132, 133, 870, 871, 872, 873, 874, 875, 876, 877, 878, 879, 880, 903, 904, 905, 906, 907, 908] (by decide +kernel) (by decide +kernel)
set_option maxRecDepth 20000 in
theorem gL_law_X8_type : GoodIn wsL_law (wsV RL 13 RX8 yX8_type wsX8_type) := goodIn_app (goodIn_of _ (by decide +kernel)) ggL_law_X8_type
set_option maxRecDepth 20000 in
theorem ggL_law_X9_type : GoodIn wsL_law wsX9_type := goodIn_r _ [137, 138, 139, 111, 140, 141, 5, 142, 881, 882, 883, 884, 885, 886, 887, 888, 889, 890, 891, 892, 893, 894, 895, 896, 897, 898, 899, 900, 901, 902] (by decide +kernel) (by decide +kernel)
set_option maxRecDepth 20000 in
theorem gL_law_X9_type : GoodIn wsL_law (wsV RL 17 RX9 yX9_type wsX9_type) := goodIn_app (goodIn_of _ (by decide +kernel)) ggL_law_X9_type
set_option maxRecDepth 20000 in
theorem ggL_law_X8_clear : GoodIn wsL_law wsX8_clear := goodIn_r _ [146, 15, 132, 870, 871, 872, 873, 874, 875, 876, 877, 878, 879, 880, 903, 904, 905, 906, 907, 908] (by decide +kernel) (by decide +kernel)
set_option maxRecDepth 20000 in
theorem gL_law_X8_clear : GoodIn wsL_law (wsV RL 18 RX8 yX8_clear wsX8_clear) := goodIn_app (goodIn_of _ (by decide +kernel)) ggL_law_X8_clear
set_option maxRecDepth 20000 in
theorem ggL_law_X9_clear : GoodIn wsL_law wsX9_clear := goodIn_r _ [150, 139, 881, 882, 883, 884, 885, 886, 887, 888, 889, 890, 891, 892, 893, 894, 895, 896, 897, 898, 899, 900, 901, 902] (by decide +kernel) (by decide +kernel)
set_option maxRecDepth 20000 in
theorem gL_law_X9_clear : GoodIn wsL_law (wsV RL 22 RX9 yX9_clear wsX9_clear) := goodIn_app (goodIn_of _ (by decide +kernel)) ggL_law_X9_clear
set_option maxRecDepth 20000 in
theorem ggL_law_X8_house : GoodIn wsL_law wsX8_house := goodIn_r _ [154, 15, 20, 19, 132, 24, 28, 155, 34, 156, 30, 157, 158, 159, 160, 14, 161, 162, 163, 164, 165, 166, 167, 168, 169, 170, 171, 172, 50, 173, 174, 175, 176, 177, 178, 179, 180, 181, 182, 183, 184, 185, 186, 187, 188, 189, 190, 191, 192, 193, 194, 195, 196, 197, 198, 199, 200, 201, 202, 203, 204, 205, 206, 207, 208, 209, 210, 211, 212, 213, 214, 215, 216, 217, 218, 23, 219, 220, 65, 66, 67, 68, 69, 70, 71, 72, 870, 871, 872, 873, 874, 875, 876, 877, 878, 879, 880, 903, 904, 905, 906, 907, 908, 924, 925, 926, 927, 928, 935, 936, 937, 909, 910, 911, 912, 913, 914, 915, 916, 917, 918, 919, 920, 921, 922, 923] (by decide +kernel) (by decide +kernel)
set_option maxRecDepth 20000 in
theorem gL_law_X8_house : GoodIn wsL_law (wsV RL 23 RX8 yX8_house wsX8_house) := goodIn_app (goodIn_of _ (by decide +kernel)) ggL_law_X8_house
set_option maxRecDepth 20000 in
theorem ggL_law_X9_house : GoodIn wsL_law wsX9_house := goodIn_r _ [224, 112, 225, 226, 227, 139, 113, 228, 229, 230, 5, 231, 111, 232, 233, 234, 235, 236, 140, 141, 142, 237, 238, 239, 240, 241, 242, 243, 244, 245, 246, 247, 248, 249, 250, 251, 252, 253, 254, 255, 256, 257, 258, 259, 260, 261, 262, 263, 264, 265, 266, 267, 268, 269, 270, 122, 123, 124, 125, 114, 126, 127, 121, 881, 882, 883, 884, 885, 886, 887, 888, 889, 890, 891, 892, 893, 894, 895, 896, 897, 898, 899, 900, 901, 902] (by decide +kernel) (by decide +kernel)
set_option maxRecDepth 20000 in
theorem gL_law_X9_house : GoodIn wsL_law (wsV RL 26 RX9 yX9_house wsX9_house) := goodIn_app (goodIn_of _ (by decide +kernel)) ggL_law_X9_house
set_option maxRecDepth 20000 in
theorem ggL_law_X8_room : GoodIn wsL_law wsX8_room := goodIn_r _ [274, 19, 275, 24, 276, 277, 278, 18, 279, 280, 281, 282, 283, 23, 284, 65, 285, 286, 287, 288, 289, 290, 291, 292, 293, 54, 294, 295, 296, 297, 56, 298, 299, 300, 301, 55, 870, 871, 872, 873, 874, 875, 876, 877, 878, 879, 880, 909, 910, 911, 912, 913, 914, 915, 916, 917, 918, 919, 920, 921, 922, 923] (by decide +kernel) (by decide +kernel)
set_option maxRecDepth 20000 in
theorem gL_law_X8_room : GoodIn wsL_law (wsV RL 27 RX8 yX8_room wsX8_room) := goodIn_app (goodIn_of _ (by decide +kernel)) ggL_law_X8_room
set_option maxRecDepth 20000 in
theorem ggL_law_X9_room : GoodIn wsL_law wsX9_room := goodIn_r _ [305, 306, 113, 307, 308, 309, 5, 310, 140, 141, 142, 311, 312, 313, 314, 315, 316, 317, 318, 319, 320, 321, 322, 323, 324, 325, 326, 327, 328, 329, 330, 114, 881, 882, 883, 884, 885, 886, 887, 888, 889, 890, 891, 892, 893, 894, 895, 896, 897, 898, 899, 900, 901, 902] (by decide +kernel) (by decide +kernel)
set_option maxRecDepth 20000 in
theorem gL_law_X9_room : GoodIn wsL_law (wsV RL 31 RX9 yX9_room wsX9_room) := goodIn_app (goodIn_of _ (by decide +kernel)) ggL_law_X9_room
set_option maxRecDepth 20000 in
theorem ggL_law_X8_tenant : GoodIn wsL_law wsX8_tenant := goodIn_r _ [334, 19, 335, 336, 337, 338, 24, 339, 340, 341, 342, 343, 344, 345, 346, 18, 347, 289, 348, 349, 350, 2, 351, 352, 353, 354, 355, 356, 299, 300, 301, 55, 870, 871, 872, 873, 874, 875, 876, 877, 878, 879, 880, 909, 910, 911, 912, 913, 914, 915, 916, 917, 918, 919, 920, 921, 922, 923] (by decide +kernel) (by decide +kernel)
set_option maxRecDepth 20000 in
theorem gL_law_X8_tenant : GoodIn wsL_law (wsV RL 32 RX8 yX8_tenant wsX8_tenant) := goodIn_app (goodIn_of _ (by decide +kernel)) ggL_law_X8_tenant
set_option maxRecDepth 20000 in
theorem ggL_law_X9_tenant : GoodIn wsL_law wsX9_tenant := goodIn_r _ [360, 361, 113, 114, 362, 363, 364, 5, 365, 140, 141, 142, 366, 367, 368, 369, 315, 316, 317, 318, 881, 882, 883, 884, 885, 886, 887, 888, 889, 890, 891, 892, 893, 894, 895, 896, 897, 898, 899, 900, 901, 902] (by decide +kernel) (by decide +kernel)
set_option maxRecDepth 20000 in
theorem gL_law_X9_tenant : GoodIn wsL_law (wsV RL 35 RX9 yX9_tenant wsX9_tenant) := goodIn_app (goodIn_of _ (by decide +kernel)) ggL_law_X9_tenant
set_option maxRecDepth 20000 in
theorem ggL_law_X8_chair : GoodIn wsL_law wsX8_chair := goodIn_r _ [373, 19, 374, 375, 376, 377, 18, 378, 379, 380, 381, 382, 383, 289, 870, 871, 872, 873, 874, 875, 876, 877, 878, 879, 880, 909, 910, 911, 912, 913, 914, 915, 916, 917, 918] (by decide +kernel) (by decide +kernel)
set_option maxRecDepth 20000 in
theorem gL_law_X8_chair : GoodIn wsL_law (wsV RL 36 RX8 yX8_chair wsX8_chair) := goodIn_app (goodIn_of _ (by decide +kernel)) ggL_law_X8_chair
set_option maxRecDepth 20000 in
theorem ggL_law_X9_chair : GoodIn wsL_law wsX9_chair := goodIn_r _ [387, 113, 140, 141, 5, 142, 388, 389, 390, 391, 881, 882, 883, 884, 885, 886, 887, 888, 889, 890, 891, 892, 893, 894, 895, 896, 897, 898, 899, 900, 901, 902] (by decide +kernel) (by decide +kernel)
set_option maxRecDepth 20000 in
theorem gL_law_X9_chair : GoodIn wsL_law (wsV RL 39 RX9 yX9_chair wsX9_chair) := goodIn_app (goodIn_of _ (by decide +kernel)) ggL_law_X9_chair
set_option maxRecDepth 20000 in
theorem ggL_law_X8_moves : GoodIn wsL_law wsX8_moves := goodIn_r _ [395, 19, 24, 339, 28, 344, 345, 346, 18, 347, 289, 276, 277, 278, 279, 280, 281, 282, 283, 23, 284, 65, 396, 397, 398, 27, 399, 400, 78, 401, 402, 403, 404, 405, 406, 407, 408, 220, 409, 410, 411, 412, 66, 67, 68, 870, 871, 872, 873, 874, 875, 876, 877, 878, 879, 880, 919, 920, 921, 922, 923, 909, 910, 911, 912, 913, 914, 915, 916, 917, 918, 924, 925] (by decide +kernel) (by decide +kernel)
set_option maxRecDepth 20000 in
theorem gL_law_X8_moves : GoodIn wsL_law (wsV RL 40 RX8 yX8_moves wsX8_moves) := goodIn_app (goodIn_of _ (by decide +kernel)) ggL_law_X8_moves
set_option maxRecDepth 20000 in
theorem ggL_law_X9_moves : GoodIn wsL_law wsX9_moves := goodIn_r _ [416, 417, 113, 114, 362, 363, 364, 5, 365, 140, 141, 142, 327, 328, 329, 330, 323, 324, 325, 326, 418, 419, 420, 421, 127, 115, 881, 882, 883, 884, 885, 886, 887, 888, 889, 890, 891, 892, 893, 894, 895, 896, 897, 898, 899, 900, 901, 902] (by decide +kernel) (by decide +kernel)
set_option maxRecDepth 20000 in
theorem gL_law_X9_moves : GoodIn wsL_law (wsV RL 43 RX9 yX9_moves wsX9_moves) := goodIn_app (goodIn_of _ (by decide +kernel)) ggL_law_X9_moves
set_option maxRecDepth 20000 in
theorem ggL_law_X8_talks : GoodIn wsL_law wsX8_talks := goodIn_r _ [425, 19, 24, 340, 337, 28, 341, 344, 345, 346, 18, 347, 289, 356, 299, 300, 301, 55, 396, 397, 398, 27, 399, 400, 78, 401, 402, 403, 404, 405, 406, 407, 23, 408, 220, 65, 409, 410, 411, 412, 66, 67, 68, 870, 871, 872, 873, 874, 875, 876, 877, 878, 879, 880, 919, 920, 921, 922, 923, 909, 910, 911, 912, 913, 914, 915, 916, 917, 918, 924, 925] (by decide +kernel) (by decide +kernel)
set_option maxRecDepth 20000 in
theorem gL_law_X8_talks : GoodIn wsL_law (wsV RL 44 RX8 yX8_talks wsX8_talks) := goodIn_app (goodIn_of _ (by decide +kernel)) ggL_law_X8_talks
set_option maxRecDepth 20000 in
theorem ggL_law_X9_talks : GoodIn wsL_law wsX9_talks := goodIn_r _ [429, 430, 113, 114, 362, 363, 364, 5, 365, 140, 141, 142, 315, 316, 317, 318, 418, 419, 420, 421, 127, 115, 881, 882, 883, 884, 885, 886, 887, 888, 889, 890, 891, 892, 893, 894, 895, 896, 897, 898, 899, 900, 901, 902] (by decide +kernel) (by decide +kernel)
set_option maxRecDepth 20000 in
theorem gL_law_X9_talks : GoodIn wsL_law (wsV RL 48 RX9 yX9_talks wsX9_talks) := goodIn_app (goodIn_of _ (by decide +kernel)) ggL_law_X9_talks
set_option maxRecDepth 20000 in
theorem ggL_law_X8_evening : GoodIn wsL_law wsX8_evening := goodIn_r _ [434, 24, 435, 28, 19, 436, 339, 275, 342, 437, 438, 354, 439, 352, 353, 355, 340, 341, 396, 397, 398, 27, 399, 400, 78, 401, 402, 403, 404, 405, 406, 407, 23, 408, 220, 65, 409, 410, 411, 412, 66, 67, 68, 276, 277, 278, 18, 279, 280, 348, 349, 350, 2, 351, 356, 299, 300, 301, 55, 440, 70, 71, 72, 441, 442, 443, 444, 870, 871, 872, 873, 874, 875, 876, 877, 878, 879, 880, 919, 920, 921, 922, 923, 909, 910, 911, 912, 913, 914, 915, 916, 917, 918, 924, 925] (by decide +kernel) (by decide +kernel)
set_option maxRecDepth 20000 in
theorem gL_law_X8_evening : GoodIn wsL_law (wsV RL 49 RX8 yX8_evening wsX8_evening) := goodIn_app (goodIn_of _ (by decide +kernel)) ggL_law_X8_evening
set_option maxRecDepth 20000 in
theorem ggL_law_X9_evening : GoodIn wsL_law wsX9_evening := goodIn_r _ [448, 114, 113, 418, 419, 420, 5, 421, 127, 115, 327, 328, 329, 330, 449, 450, 451, 452, 366, 367, 368, 369, 315, 316, 317, 318, 453, 454, 455, 456, 881, 882, 883, 884, 885, 886, 887, 888, 889, 890, 891, 892, 893, 894, 895, 896, 897, 898, 899, 900, 901, 902] (by decide +kernel) (by decide +kernel)
set_option maxRecDepth 20000 in
theorem gL_law_X9_evening : GoodIn wsL_law (wsV RL 52 RX9 yX9_evening wsX9_evening) := goodIn_app (goodIn_of _ (by decide +kernel)) ggL_law_X9_evening
set_option maxRecDepth 20000 in
theorem ggL_law_X8_lends : GoodIn wsL_law wsX8_lends := goodIn_r _ [460, 19, 24, 342, 28, 344, 345, 346, 18, 347, 289, 396, 397, 398, 27, 399, 400, 78, 401, 402, 403, 404, 405, 406, 407, 23, 408, 220, 65, 409, 410, 411, 412, 66, 67, 68, 870, 871, 872, 873, 874, 875, 876, 877, 878, 879, 880, 919, 920, 921, 922, 923, 909, 910, 911, 912, 913, 914, 915, 916, 917, 918, 924, 925] (by decide +kernel) (by decide +kernel)
set_option maxRecDepth 20000 in
theorem gL_law_X8_lends : GoodIn wsL_law (wsV RL 53 RX8 yX8_lends wsX8_lends) := goodIn_app (goodIn_of _ (by decide +kernel)) ggL_law_X8_lends
set_option maxRecDepth 20000 in
theorem ggL_law_X9_lends : GoodIn wsL_law wsX9_lends := goodIn_r _ [464, 465, 114, 362, 363, 364, 5, 365, 113, 140, 141, 142, 449, 450, 451, 452, 418, 419, 420, 421, 127, 115, 881, 882, 883, 884, 885, 886, 887, 888, 889, 890, 891, 892, 893, 894, 895, 896, 897, 898, 899, 900, 901, 902] (by decide +kernel) (by decide +kernel)
set_option maxRecDepth 20000 in
theorem gL_law_X9_lends : GoodIn wsL_law (wsV RL 56 RX9 yX9_lends wsX9_lends) := goodIn_app (goodIn_of _ (by decide +kernel)) ggL_law_X9_lends
set_option maxRecDepth 20000 in
theorem ggL_law_X8_undo : GoodIn wsL_law wsX8_undo := goodIn_r _ [469, 28, 155, 24, 470, 471, 472, 27, 473, 400, 78, 405, 406, 407, 23, 408, 220, 65, 409, 410, 411, 412, 66, 67, 68, 870, 871, 872, 873, 874, 875, 876, 877, 878, 879, 880, 924, 925, 919, 920, 921, 922, 923] (by decide +kernel) (by decide +kernel)
set_option maxRecDepth 20000 in
theorem gL_law_X8_undo : GoodIn wsL_law (wsV RL 57 RX8 yX8_undo wsX8_undo) := goodIn_app (goodIn_of _ (by decide +kernel)) ggL_law_X8_undo
set_option maxRecDepth 20000 in
theorem ggL_law_X9_undo : GoodIn wsL_law wsX9_undo := goodIn_r _ [477, 127, 114, 115, 881, 882, 883, 884, 885, 886, 887, 888, 889, 890, 891, 892, 893, 894, 895, 896, 897, 898, 899, 900, 901, 902] (by decide +kernel) (by decide +kernel)
set_option maxRecDepth 20000 in
theorem gL_law_X9_undo : GoodIn wsL_law (wsV RL 60 RX9 yX9_undo wsX9_undo) := goodIn_app (goodIn_of _ (by decide +kernel)) ggL_law_X9_undo
set_option maxRecDepth 20000 in
theorem ggL_law_X8_now : GoodIn wsL_law wsX8_now := goodIn_r _ [481, 24, 435, 441, 442, 443, 23, 444, 68, 482, 483, 484, 2, 485, 19, 436, 339, 486, 487, 488, 489, 490, 281, 282, 283, 284, 65, 491, 492, 493, 494, 495, 496, 497, 498, 275, 276, 277, 278, 18, 279, 280, 499, 295, 296, 297, 56, 298, 299, 300, 301, 55, 870, 871, 872, 873, 874, 875, 876, 877, 878, 879, 880, 919, 920, 921, 922, 923, 909, 910, 911, 912, 913, 914, 915, 916, 917, 918] (by decide +kernel) (by decide +kernel)
set_option maxRecDepth 20000 in
theorem gL_law_X8_now : GoodIn wsL_law (wsV RL 61 RX8 yX8_now wsX8_now) := goodIn_app (goodIn_of _ (by decide +kernel)) ggL_law_X8_now
set_option maxRecDepth 20000 in
theorem ggL_law_X9_now : GoodIn wsL_law wsX9_now := goodIn_r _ [503, 113, 114, 327, 328, 329, 5, 330, 311, 312, 313, 314, 315, 316, 317, 318, 319, 320, 321, 322, 453, 454, 455, 456, 449, 450, 451, 452, 881, 882, 883, 884, 885, 886, 887, 888, 889, 890, 891, 892, 893, 894, 895, 896, 897, 898, 899, 900, 901, 902] (by decide +kernel) (by decide +kernel)
set_option maxRecDepth 20000 in
theorem gL_law_X9_now : GoodIn wsL_law (wsV RL 64 RX9 yX9_now wsX9_now) := goodIn_app (goodIn_of _ (by decide +kernel)) ggL_law_X9_now
set_option maxRecDepth 20000 in
theorem ggL_law_X8_housed : GoodIn wsL_law wsX8_housed := goodIn_r _ [507, 19, 436, 38, 508, 509, 510, 511, 37, 512, 90, 513, 514, 88, 515, 70, 71, 72, 516, 517, 518, 519, 520, 353, 354, 355, 521, 522, 523, 524, 525, 291, 292, 18, 293, 54, 294, 295, 296, 297, 56, 298, 299, 300, 301, 55, 526, 527, 528, 529, 530, 531, 532, 533, 534, 535, 536, 537, 538, 539, 540, 541, 542, 543, 277, 278, 279, 280, 870, 871, 872, 873, 874, 875, 876, 877, 878, 879, 880, 909, 910, 911, 912, 913, 914, 915, 916, 917, 918, 929, 930] (by decide +kernel) (by decide +kernel)
set_option maxRecDepth 20000 in
theorem gL_law_X8_housed : GoodIn wsL_law (wsV RL 65 RX8 yX8_housed wsX8_housed) := goodIn_app (goodIn_of _ (by decide +kernel)) ggL_law_X8_housed
set_option maxRecDepth 20000 in
theorem ggL_law_X9_housed : GoodIn wsL_law wsX9_housed := goodIn_r _ [547, 548, 113, 549, 550, 116, 140, 141, 5, 142, 551, 552, 553, 554, 555, 556, 557, 311, 312, 313, 314, 315, 316, 317, 318, 319, 320, 321, 322, 881, 882, 883, 884, 885, 886, 887, 888, 889, 890, 891, 892, 893, 894, 895, 896, 897, 898, 899, 900, 901, 902] (by decide +kernel) (by decide +kernel)
set_option maxRecDepth 20000 in
theorem gL_law_X9_housed : GoodIn wsL_law (wsV RL 68 RX9 yX9_housed wsX9_housed) := goodIn_app (goodIn_of _ (by decide +kernel)) ggL_law_X9_housed
set_option maxRecDepth 20000 in
theorem ggL_law_X8_crowd : GoodIn wsL_law wsX8_crowd := goodIn_r _ [561, 19, 380, 381, 382, 18, 383, 289, 562, 563, 564, 565, 566, 567, 568, 569, 570, 571, 572, 280, 573, 286, 287, 288, 290, 291, 292, 293, 54, 294, 295, 296, 297, 56, 298, 299, 300, 301, 55, 870, 871, 872, 873, 874, 875, 876, 877, 878, 879, 880, 909, 910, 911, 912, 913, 914, 915, 916, 917, 918] (by decide +kernel) (by decide +kernel)
set_option maxRecDepth 20000 in
theorem gL_law_X8_crowd : GoodIn wsL_law (wsV RL 69 RX8 yX8_crowd wsX8_crowd) := goodIn_app (goodIn_of _ (by decide +kernel)) ggL_law_X8_crowd
set_option maxRecDepth 20000 in
theorem ggL_law_X9_crowd : GoodIn wsL_law wsX9_crowd := goodIn_r _ [577, 113, 311, 312, 313, 5, 314, 315, 316, 317, 318, 319, 320, 321, 322, 578, 579, 580, 881, 882, 883, 884, 885, 886, 887, 888, 889, 890, 891, 892, 893, 894, 895, 896, 897, 898, 899, 900, 901, 902] (by decide +kernel) (by decide +kernel)
set_option maxRecDepth 20000 in
theorem gL_law_X9_crowd : GoodIn wsL_law (wsV RL 72 RX9 yX9_crowd wsX9_crowd) := goodIn_app (goodIn_of _ (by decide +kernel)) ggL_law_X9_crowd
set_option maxRecDepth 20000 in
theorem ggL_law_X8_spare : GoodIn wsL_law wsX8_spare := goodIn_r _ [584, 19, 585, 344, 345, 346, 18, 347, 289, 495, 496, 497, 2, 498, 24, 339, 275, 276, 277, 278, 279, 280, 499, 295, 296, 297, 56, 298, 299, 300, 301, 55, 870, 871, 872, 873, 874, 875, 876, 877, 878, 879, 880, 909, 910, 911, 912, 913, 914, 915, 916, 917, 918, 919, 920, 921, 922, 923] (by decide +kernel) (by decide +kernel)
set_option maxRecDepth 20000 in
theorem gL_law_X8_spare : GoodIn wsL_law (wsV RL 73 RX8 yX8_spare wsX8_spare) := goodIn_app (goodIn_of _ (by decide +kernel)) ggL_law_X8_spare
set_option maxRecDepth 20000 in
theorem ggL_law_X9_spare : GoodIn wsL_law wsX9_spare := goodIn_r _ [589, 590, 362, 363, 364, 5, 365, 113, 140, 141, 142, 591, 592, 593, 594, 327, 328, 329, 330, 114, 311, 312, 313, 314, 315, 316, 317, 318, 319, 320, 321, 322, 881, 882, 883, 884, 885, 886, 887, 888, 889, 890, 891, 892, 893, 894, 895, 896, 897, 898, 899, 900, 901, 902] (by decide +kernel) (by decide +kernel)
set_option maxRecDepth 20000 in
theorem gL_law_X9_spare : GoodIn wsL_law (wsV RL 76 RX9 yX9_spare wsX9_spare) := goodIn_app (goodIn_of _ (by decide +kernel)) ggL_law_X9_spare
set_option maxRecDepth 20000 in
theorem ggL_law_X8_rest : GoodIn wsL_law wsX8_rest := goodIn_r _ [598, 599, 600, 601, 2, 602, 19, 436, 338, 352, 353, 354, 355, 495, 496, 497, 498, 24, 339, 275, 276, 277, 278, 18, 279, 280, 499, 295, 296, 297, 56, 298, 299, 300, 301, 55, 603, 604, 605, 606, 870, 871, 872, 873, 874, 875, 876, 877, 878, 879, 880, 909, 910, 911, 912, 913, 914, 915, 916, 917, 918, 919, 920, 921, 922, 923] (by decide +kernel) (by decide +kernel)
set_option maxRecDepth 20000 in
theorem gL_law_X8_rest : GoodIn wsL_law (wsV RL 77 RX8 yX8_rest wsX8_rest) := goodIn_app (goodIn_of _ (by decide +kernel)) ggL_law_X8_rest
set_option maxRecDepth 20000 in
theorem ggL_law_X9_rest : GoodIn wsL_law wsX9_rest := goodIn_r _ [610, 113, 140, 141, 5, 142, 591, 592, 593, 594, 327, 328, 329, 330, 114, 311, 312, 313, 314, 315, 316, 317, 318, 319, 320, 321, 322, 881, 882, 883, 884, 885, 886, 887, 888, 889, 890, 891, 892, 893, 894, 895, 896, 897, 898, 899, 900, 901, 902] (by decide +kernel) (by decide +kernel)
set_option maxRecDepth 20000 in
theorem gL_law_X9_rest : GoodIn wsL_law (wsV RL 80 RX9 yX9_rest wsX9_rest) := goodIn_app (goodIn_of _ (by decide +kernel)) ggL_law_X9_rest
set_option maxRecDepth 20000 in
theorem ggL_law_X8_payments : GoodIn wsL_law wsX8_payments := goodIn_r _ [614, 19, 436, 615, 616, 617, 2, 618, 24, 342, 441, 442, 443, 23, 444, 68, 562, 563, 564, 565, 566, 567, 568, 619, 620, 621, 622, 44, 352, 353, 354, 355, 870, 871, 872, 873, 874, 875, 876, 877, 878, 879, 880, 909, 910, 911, 912, 913, 914, 915, 916, 917, 918, 919, 920, 921, 922, 923] (by decide +kernel) (by decide +kernel)
set_option maxRecDepth 20000 in
theorem gL_law_X8_payments : GoodIn wsL_law (wsV RL 81 RX8 yX8_payments wsX8_payments) := goodIn_app (goodIn_of _ (by decide +kernel)) ggL_law_X8_payments
set_option maxRecDepth 20000 in
theorem ggL_law_X9_payments : GoodIn wsL_law wsX9_payments := goodIn_r _ [626, 113, 117, 627, 628, 629, 5, 630, 453, 454, 455, 456, 449, 450, 451, 452, 114, 578, 579, 580, 881, 882, 883, 884, 885, 886, 887, 888, 889, 890, 891, 892, 893, 894, 895, 896, 897, 898, 899, 900, 901, 902] (by decide +kernel) (by decide +kernel)
set_option maxRecDepth 20000 in
theorem gL_law_X9_payments : GoodIn wsL_law (wsV RL 84 RX9 yX9_payments wsX9_payments) := goodIn_app (goodIn_of _ (by decide +kernel)) ggL_law_X9_payments
set_option maxRecDepth 20000 in
theorem ggL_law_X8_settled : GoodIn wsL_law wsX8_settled := goodIn_r _ [634, 19, 585, 344, 345, 346, 18, 347, 289, 615, 616, 617, 2, 618, 24, 436, 342, 441, 442, 443, 23, 444, 68, 870, 871, 872, 873, 874, 875, 876, 877, 878, 879, 880, 909, 910, 911, 912, 913, 914, 915, 916, 917, 918, 919, 920, 921, 922, 923] (by decide +kernel) (by decide +kernel)
set_option maxRecDepth 20000 in
theorem gL_law_X8_settled : GoodIn wsL_law (wsV RL 85 RX8 yX8_settled wsX8_settled) := goodIn_app (goodIn_of _ (by decide +kernel)) ggL_law_X8_settled
set_option maxRecDepth 20000 in
theorem ggL_law_X9_settled : GoodIn wsL_law wsX9_settled := goodIn_r _ [638, 590, 362, 363, 364, 5, 365, 113, 140, 141, 142, 627, 628, 629, 630, 453, 454, 455, 456, 449, 450, 451, 452, 114, 881, 882, 883, 884, 885, 886, 887, 888, 889, 890, 891, 892, 893, 894, 895, 896, 897, 898, 899, 900, 901, 902] (by decide +kernel) (by decide +kernel)
set_option maxRecDepth 20000 in
theorem gL_law_X9_settled : GoodIn wsL_law (wsV RL 88 RX9 yX9_settled wsX9_settled) := goodIn_app (goodIn_of _ (by decide +kernel)) ggL_law_X9_settled
set_option maxRecDepth 20000 in
theorem ggL_law_X8_told : GoodIn wsL_law wsX8_told := goodIn_r _ [642, 19, 344, 345, 346, 18, 347, 289, 380, 381, 382, 383, 562, 563, 564, 565, 566, 567, 568, 643, 644, 645, 2, 646, 436, 647, 648, 649, 650, 59, 870, 871, 872, 873, 874, 875, 876, 877, 878, 879, 880, 909, 910, 911, 912, 913, 914, 915, 916, 917, 918] (by decide +kernel) (by decide +kernel)
set_option maxRecDepth 20000 in
theorem gL_law_X8_told : GoodIn wsL_law (wsV RL 89 RX8 yX8_told wsX8_told) := goodIn_app (goodIn_of _ (by decide +kernel)) ggL_law_X8_told
set_option maxRecDepth 20000 in
theorem ggL_law_X9_told : GoodIn wsL_law wsX9_told := goodIn_r _ [654, 113, 362, 363, 364, 5, 365, 140, 141, 142, 578, 579, 580, 655, 656, 657, 658, 659, 660, 661, 662, 881, 882, 883, 884, 885, 886, 887, 888, 889, 890, 891, 892, 893, 894, 895, 896, 897, 898, 899, 900, 901, 902] (by decide +kernel) (by decide +kernel)
set_option maxRecDepth 20000 in
theorem gL_law_X9_told : GoodIn wsL_law (wsV RL 92 RX9 yX9_told wsX9_told) := goodIn_app (goodIn_of _ (by decide +kernel)) ggL_law_X9_told
set_option maxRecDepth 20000 in
theorem ggL_law_X8_rounds : GoodIn wsL_law wsX8_rounds := goodIn_r _ [666, 19, 436, 344, 345, 346, 18, 347, 289, 380, 381, 382, 383, 647, 648, 649, 650, 59, 870, 871, 872, 873, 874, 875, 876, 877, 878, 879, 880, 909, 910, 911, 912, 913, 914, 915, 916, 917, 918] (by decide +kernel) (by decide +kernel)
set_option maxRecDepth 20000 in
theorem gL_law_X8_rounds : GoodIn wsL_law (wsV RL 93 RX8 yX8_rounds wsX8_rounds) := goodIn_app (goodIn_of _ (by decide +kernel)) ggL_law_X8_rounds
set_option maxRecDepth 20000 in
theorem ggL_law_X9_rounds : GoodIn wsL_law wsX9_rounds := goodIn_r _ [670, 113, 362, 363, 364, 5, 365, 140, 141, 142, 659, 660, 661, 662, 881, 882, 883, 884, 885, 886, 887, 888, 889, 890, 891, 892, 893, 894, 895, 896, 897, 898, 899, 900, 901, 902] (by decide +kernel) (by decide +kernel)
set_option maxRecDepth 20000 in
theorem gL_law_X9_rounds : GoodIn wsL_law (wsV RL 96 RX9 yX9_rounds wsX9_rounds) := goodIn_app (goodIn_of _ (by decide +kernel)) ggL_law_X9_rounds
set_option maxRecDepth 20000 in
theorem ggL_law_X8_watch : GoodIn wsL_law wsX8_watch := goodIn_r _ [674, 19, 675, 380, 381, 382, 18, 383, 289, 562, 563, 564, 565, 566, 567, 568, 676, 677, 678, 679, 379, 60, 870, 871, 872, 873, 874, 875, 876, 877, 878, 879, 880, 909, 910, 911, 912, 913, 914, 915, 916, 917, 918] (by decide +kernel) (by decide +kernel)
set_option maxRecDepth 20000 in
theorem gL_law_X8_watch : GoodIn wsL_law (wsV RL 97 RX8 yX8_watch wsX8_watch) := goodIn_app (goodIn_of _ (by decide +kernel)) ggL_law_X8_watch
set_option maxRecDepth 20000 in
theorem ggL_law_X9_watch : GoodIn wsL_law wsX9_watch := goodIn_r _ [683, 113, 140, 141, 5, 142, 388, 389, 390, 391, 578, 579, 580, 881, 882, 883, 884, 885, 886, 887, 888, 889, 890, 891, 892, 893, 894, 895, 896, 897, 898, 899, 900, 901, 902] (by decide +kernel) (by decide +kernel)
set_option maxRecDepth 20000 in
theorem gL_law_X9_watch : GoodIn wsL_law (wsV RL 100 RX9 yX9_watch wsX9_watch) := goodIn_app (goodIn_of _ (by decide +kernel)) ggL_law_X9_watch
set_option maxRecDepth 20000 in
theorem ggL_law_X8_odds : GoodIn wsL_law wsX8_odds := goodIn_r _ [687, 688, 19, 436, 24, 339, 689, 495, 496, 497, 2, 498, 275, 276, 277, 278, 18, 279, 280, 499, 295, 296, 297, 56, 298, 299, 300, 301, 55, 690, 691, 692, 870, 871, 872, 873, 874, 875, 876, 877, 878, 879, 880, 909, 910, 911, 912, 913, 914, 915, 916, 917, 918, 919, 920, 921, 922, 923] (by decide +kernel) (by decide +kernel)
set_option maxRecDepth 20000 in
theorem gL_law_X8_odds : GoodIn wsL_law (wsV RL 101 RX8 yX8_odds wsX8_odds) := goodIn_app (goodIn_of _ (by decide +kernel)) ggL_law_X8_odds
set_option maxRecDepth 20000 in
theorem ggL_law_X9_odds : GoodIn wsL_law wsX9_odds := goodIn_r _ [696, 697, 417, 113, 140, 141, 5, 142, 327, 328, 329, 330, 114, 311, 312, 313, 314, 315, 316, 317, 318, 319, 320, 321, 322, 881, 882, 883, 884, 885, 886, 887, 888, 889, 890, 891, 892, 893, 894, 895, 896, 897, 898, 899, 900, 901, 902] (by decide +kernel) (by decide +kernel)
set_option maxRecDepth 20000 in
theorem gL_law_X9_odds : GoodIn wsL_law (wsV RL 105 RX9 yX9_odds wsX9_odds) := goodIn_app (goodIn_of _ (by decide +kernel)) ggL_law_X9_odds
set_option maxRecDepth 20000 in
theorem ggL_law_X8_book : GoodIn wsL_law wsX8_book := goodIn_r _ [701, 19, 34, 156, 702, 703, 344, 345, 346, 18, 347, 289, 870, 871, 872, 873, 874, 875, 876, 877, 878, 879, 880, 926, 927, 928, 909, 910, 911, 912, 913, 914, 915, 916, 917, 918] (by decide +kernel) (by decide +kernel)
set_option maxRecDepth 20000 in
theorem gL_law_X8_book : GoodIn wsL_law (wsV RL 106 RX8 yX8_book wsX8_book) := goodIn_app (goodIn_of _ (by decide +kernel)) ggL_law_X8_book
set_option maxRecDepth 20000 in
theorem ggL_law_X9_book : GoodIn wsL_law wsX9_book := goodIn_r _ [707, 430, 126, 118, 119, 362, 363, 364, 5, 365, 113, 140, 141, 142, 881, 882, 883, 884, 885, 886, 887, 888, 889, 890, 891, 892, 893, 894, 895, 896, 897, 898, 899, 900, 901, 902] (by decide +kernel) (by decide +kernel)
set_option maxRecDepth 20000 in
theorem gL_law_X9_book : GoodIn wsL_law (wsV RL 109 RX9 yX9_book wsX9_book) := goodIn_app (goodIn_of _ (by decide +kernel)) ggL_law_X9_book
set_option maxRecDepth 20000 in
theorem ggL_law_X8_burn : GoodIn wsL_law wsX8_burn := goodIn_r _ [711, 34, 156, 870, 871, 872, 873, 874, 875, 876, 877, 878, 879, 880, 926, 927, 928] (by decide +kernel) (by decide +kernel)
set_option maxRecDepth 20000 in
theorem gL_law_X8_burn : GoodIn wsL_law (wsV RL 110 RX8 yX8_burn wsX8_burn) := goodIn_app (goodIn_of _ (by decide +kernel)) ggL_law_X8_burn
set_option maxRecDepth 20000 in
theorem ggL_law_X9_burn : GoodIn wsL_law wsX9_burn := goodIn_r _ [715, 126, 881, 882, 883, 884, 885, 886, 887, 888, 889, 890, 891, 892, 893, 894, 895, 896, 897, 898, 899, 900, 901, 902] (by decide +kernel) (by decide +kernel)
set_option maxRecDepth 20000 in
theorem gL_law_X9_burn : GoodIn wsL_law (wsV RL 113 RX9 yX9_burn wsX9_burn) := goodIn_app (goodIn_of _ (by decide +kernel)) ggL_law_X9_burn
set_option maxRecDepth 20000 in
theorem ggL_law_X8_fits : GoodIn wsL_law wsX8_fits := goodIn_r _ [719, 19, 436, 42, 34, 720, 721, 722, 723, 41, 724, 725, 726, 727, 97, 94, 96, 728, 729, 730, 33, 731, 732, 733, 734, 353, 354, 355, 735, 295, 296, 18, 297, 56, 298, 299, 300, 301, 55, 736, 737, 738, 739, 740, 83, 84, 741, 563, 564, 565, 566, 567, 568, 742, 743, 744, 745, 746, 747, 748, 749, 750, 751, 752, 753, 754, 755, 756, 757, 758, 759, 760, 761, 870, 871, 872, 873, 874, 875, 876, 877, 878, 879, 880, 909, 910, 911, 912, 913, 914, 915, 916, 917, 918, 931, 932, 933, 934, 926, 927, 928] (by decide +kernel) (by decide +kernel)
set_option maxRecDepth 20000 in
theorem gL_law_X8_fits : GoodIn wsL_law (wsV RL 114 RX8 yX8_fits wsX8_fits) := goodIn_app (goodIn_of _ (by decide +kernel)) ggL_law_X8_fits
set_option maxRecDepth 20000 in
theorem ggL_law_X9_fits : GoodIn wsL_law wsX9_fits := goodIn_r _ [765, 417, 113, 766, 116, 140, 141, 5, 142, 767, 768, 769, 770, 120, 555, 556, 557, 771, 772, 773, 774, 126, 118, 119, 311, 312, 313, 314, 315, 316, 317, 318, 319, 320, 321, 322, 881, 882, 883, 884, 885, 886, 887, 888, 889, 890, 891, 892, 893, 894, 895, 896, 897, 898, 899, 900, 901, 902] (by decide +kernel) (by decide +kernel)
set_option maxRecDepth 20000 in
theorem gL_law_X9_fits : GoodIn wsL_law (wsV RL 117 RX9 yX9_fits wsX9_fits) := goodIn_app (goodIn_of _ (by decide +kernel)) ggL_law_X9_fits
set_option maxRecDepth 20000 in
theorem ggL_law_X8_may : GoodIn wsL_law wsX8_may := goodIn_r _ [778, 19, 42, 34, 344, 345, 346, 18, 347, 289, 721, 722, 723, 41, 724, 725, 726, 727, 97, 94, 96, 728, 729, 730, 33, 731, 732, 733, 734, 353, 354, 355, 735, 295, 296, 297, 56, 298, 299, 300, 301, 55, 736, 737, 738, 739, 740, 83, 84, 741, 563, 564, 565, 566, 567, 568, 742, 743, 744, 745, 746, 747, 748, 749, 779, 780, 781, 782, 758, 759, 760, 761, 870, 871, 872, 873, 874, 875, 876, 877, 878, 879, 880, 909, 910, 911, 912, 913, 914, 915, 916, 917, 918, 931, 932, 933, 934, 926, 927, 928] (by decide +kernel) (by decide +kernel)
set_option maxRecDepth 20000 in
theorem gL_law_X8_may : GoodIn wsL_law (wsV RL 118 RX8 yX8_may wsX8_may) := goodIn_app (goodIn_of _ (by decide +kernel)) ggL_law_X8_may
set_option maxRecDepth 20000 in
theorem ggL_law_X9_may : GoodIn wsL_law wsX9_may := goodIn_r _ [786, 120, 362, 363, 364, 5, 365, 113, 140, 141, 142, 767, 768, 769, 770, 766, 116, 555, 556, 557, 771, 772, 773, 774, 126, 118, 119, 311, 312, 313, 314, 315, 316, 317, 318, 319, 320, 321, 322, 881, 882, 883, 884, 885, 886, 887, 888, 889, 890, 891, 892, 893, 894, 895, 896, 897, 898, 899, 900, 901, 902] (by decide +kernel) (by decide +kernel)
set_option maxRecDepth 20000 in
theorem gL_law_X9_may : GoodIn wsL_law (wsV RL 121 RX9 yX9_may wsX9_may) := goodIn_app (goodIn_of _ (by decide +kernel)) ggL_law_X9_may
set_option maxRecDepth 20000 in
theorem ggL_law_X8_mark : GoodIn wsL_law wsX8_mark := goodIn_r _ [790, 19, 585, 344, 345, 346, 18, 347, 289, 791, 792, 793, 2, 794, 795, 24, 342, 796, 797, 798, 799, 689, 336, 800, 801, 802, 803, 804, 337, 805, 806, 807, 808, 809, 810, 811, 812, 813, 814, 338, 815, 816, 817, 818, 819, 435, 870, 871, 872, 873, 874, 875, 876, 877, 878, 879, 880, 909, 910, 911, 912, 913, 914, 915, 916, 917, 918, 919, 920, 921, 922, 923] (by decide +kernel) (by decide +kernel)
set_option maxRecDepth 20000 in
theorem gL_law_X8_mark : GoodIn wsL_law (wsV RL 122 RX8 yX8_mark wsX8_mark) := goodIn_app (goodIn_of _ (by decide +kernel)) ggL_law_X8_mark
set_option maxRecDepth 20000 in
theorem ggL_law_X9_mark : GoodIn wsL_law wsX9_mark := goodIn_r _ [823, 824, 590, 825, 826, 827, 828, 829, 830, 113, 114, 140, 141, 5, 142, 362, 363, 364, 365, 449, 450, 451, 452, 319, 320, 321, 322, 881, 882, 883, 884, 885, 886, 887, 888, 889, 890, 891, 892, 893, 894, 895, 896, 897, 898, 899, 900, 901, 902] (by decide +kernel) (by decide +kernel)
set_option maxRecDepth 20000 in
theorem gL_law_X9_mark : GoodIn wsL_law (wsV RL 125 RX9 yX9_mark wsX9_mark) := goodIn_app (goodIn_of _ (by decide +kernel)) ggL_law_X9_mark
set_option maxRecDepth 20000 in
theorem ggL_law_X8_keep : GoodIn wsL_law wsX8_keep := goodIn_r _ [834, 30, 157, 835, 24, 836, 28, 435, 837, 406, 407, 23, 408, 220, 65, 409, 410, 411, 412, 66, 67, 68, 838, 839, 840, 27, 841, 400, 78, 405, 870, 871, 872, 873, 874, 875, 876, 877, 878, 879, 880, 935, 936, 937, 919, 920, 921, 922, 923, 924, 925] (by decide +kernel) (by decide +kernel)
set_option maxRecDepth 20000 in
theorem gL_law_X8_keep : GoodIn wsL_law (wsV RL 126 RX8 yX8_keep wsX8_keep) := goodIn_app (goodIn_of _ (by decide +kernel)) ggL_law_X8_keep
set_option maxRecDepth 20000 in
theorem ggL_law_X9_keep : GoodIn wsL_law wsX9_keep := goodIn_r _ [845, 121, 127, 114, 115, 140, 141, 5, 142, 881, 882, 883, 884, 885, 886, 887, 888, 889, 890, 891, 892, 893, 894, 895, 896, 897, 898, 899, 900, 901, 902] (by decide +kernel) (by decide +kernel)
set_option maxRecDepth 20000 in
theorem gL_law_X9_keep : GoodIn wsL_law (wsV RL 129 RX9 yX9_keep wsX9_keep) := goodIn_app (goodIn_of _ (by decide +kernel)) ggL_law_X9_keep
set_option maxRecDepth 20000 in
theorem ggL_law_X8_back : GoodIn wsL_law wsX8_back := goodIn_r _ [849, 30, 157, 24, 835, 28, 836, 435, 837, 406, 407, 23, 408, 220, 65, 409, 410, 411, 412, 66, 67, 68, 838, 839, 840, 27, 841, 400, 78, 405, 870, 871, 872, 873, 874, 875, 876, 877, 878, 879, 880, 935, 936, 937, 919, 920, 921, 922, 923, 924, 925] (by decide +kernel) (by decide +kernel)
set_option maxRecDepth 20000 in
theorem gL_law_X8_back : GoodIn wsL_law (wsV RL 130 RX8 yX8_back wsX8_back) := goodIn_app (goodIn_of _ (by decide +kernel)) ggL_law_X8_back
set_option maxRecDepth 20000 in
theorem ggL_law_X9_back : GoodIn wsL_law wsX9_back := goodIn_r _ [853, 121, 127, 114, 115, 140, 141, 5, 142, 881, 882, 883, 884, 885, 886, 887, 888, 889, 890, 891, 892, 893, 894, 895, 896, 897, 898, 899, 900, 901, 902] (by decide +kernel) (by decide +kernel)
set_option maxRecDepth 20000 in
theorem gL_law_X9_back : GoodIn wsL_law (wsV RL 133 RX9 yX9_back wsX9_back) := goodIn_app (goodIn_of _ (by decide +kernel)) ggL_law_X9_back
set_option maxRecDepth 20000 in
theorem ggL_law_X8_count : GoodIn wsL_law wsX8_count := goodIn_r _ [857, 19, 490, 436, 675, 34, 156, 28, 155, 15, 132, 870, 871, 872, 873, 874, 875, 876, 877, 878, 879, 880, 909, 910, 911, 912, 913, 914, 915, 916, 917, 918, 926, 927, 928, 924, 925, 903, 904, 905, 906, 907, 908] (by decide +kernel) (by decide +kernel)
set_option maxRecDepth 20000 in
theorem gL_law_X8_count : GoodIn wsL_law (wsV RL 134 RX8 yX8_count wsX8_count) := goodIn_app (goodIn_of _ (by decide +kernel)) ggL_law_X8_count
set_option maxRecDepth 20000 in
theorem ggL_law_X9_count : GoodIn wsL_law wsX9_count := goodIn_r _ [861, 113, 126, 127, 139, 881, 882, 883, 884, 885, 886, 887, 888, 889, 890, 891, 892, 893, 894, 895, 896, 897, 898, 899, 900, 901, 902] (by decide +kernel) (by decide +kernel)
set_option maxRecDepth 20000 in
theorem gL_law_X9_count : GoodIn wsL_law (wsV RL 137 RX9 yX9_count wsX9_count) := goodIn_app (goodIn_of _ (by decide +kernel)) ggL_law_X9_count
set_option maxRecDepth 20000 in
theorem ggL_law_X8_trace : GoodIn wsL_law wsX8_trace := goodIn_r _ [865, 795, 870, 871, 872, 873, 874, 875, 876, 877, 878, 879, 880] (by decide +kernel) (by decide +kernel)
set_option maxRecDepth 20000 in
theorem gL_law_X8_trace : GoodIn wsL_law (wsV RL 138 RX8 yX8_trace wsX8_trace) := goodIn_app (goodIn_of _ (by decide +kernel)) ggL_law_X8_trace
set_option maxRecDepth 20000 in
theorem ggL_law_X9_trace : GoodIn wsL_law wsX9_trace := goodIn_r _ [869, 825, 881, 882, 883, 884, 885, 886, 887, 888, 889, 890, 891, 892, 893, 894, 895, 896, 897, 898, 899, 900, 901, 902] (by decide +kernel) (by decide +kernel)
set_option maxRecDepth 20000 in
theorem gL_law_X9_trace : GoodIn wsL_law (wsV RL 142 RX9 yX9_trace wsX9_trace) := goodIn_app (goodIn_of _ (by decide +kernel)) ggL_law_X9_trace
theorem dL_law_0 : decode cL_law 0 = .ok (.new 7, 3) := by decide +kernel
theorem dL_law_3 : decode cL_law 3 = .ok (.dup, 1) := by decide +kernel
theorem dL_law_4 : decode cL_law 4 = .ok (.invokespecial 9, 3) := by decide +kernel
theorem dL_law_7 : decode cL_law 7 = .ok (.astore_n 1, 1) := by decide +kernel
theorem dL_law_8 : decode cL_law 8 = .ok (.new 10, 3) := by decide +kernel
theorem dL_law_11 : decode cL_law 11 = .ok (.dup, 1) := by decide +kernel
theorem dL_law_12 : decode cL_law 12 = .ok (.invokespecial 12, 3) := by decide +kernel
theorem dL_law_15 : decode cL_law 15 = .ok (.astore_n 2, 1) := by decide +kernel
theorem dL_law_16 : decode cL_law 16 = .ok (.iconst 0, 1) := by decide +kernel
theorem dL_law_17 : decode cL_law 17 = .ok (.istore_n 3, 1) := by decide +kernel
theorem dL_law_18 : decode cL_law 18 = .ok (.iload_n 3, 1) := by decide +kernel
theorem dL_law_19 : decode cL_law 19 = .ok (.aload_n 0, 1) := by decide +kernel
theorem dL_law_20 : decode cL_law 20 = .ok (.arraylength, 1) := by decide +kernel
theorem dL_law_21 : decode cL_law 21 = .ok (.iconst 4, 1) := by decide +kernel
theorem dL_law_22 : decode cL_law 22 = .ok (.isub, 1) := by decide +kernel
theorem dL_law_23 : decode cL_law 23 = .ok (.if_icmp .gt 890, 3) := by decide +kernel
theorem dL_law_26 : decode cL_law 26 = .ok (.aload_n 0, 1) := by decide +kernel
theorem dL_law_27 : decode cL_law 27 = .ok (.iload_n 3, 1) := by decide +kernel
theorem dL_law_28 : decode cL_law 28 = .ok (.iaload, 1) := by decide +kernel
theorem dL_law_29 : decode cL_law 29 = .ok (.bipush 31, 2) := by decide +kernel
theorem dL_law_31 : decode cL_law 31 = .ok (.iand, 1) := by decide +kernel
theorem dL_law_32 : decode cL_law 32 = .ok (.tableswitch 875 0 30 #[140, 163, 176, 189, 222, 255, 278, 311, 354, 367, 410, 423, 446, 469, 482, 505, 528, 541, 564, 587, 610, 633, 667, 700, 713, 736, 759, 792, 815, 838, 861], 140) := by decide +kernel
theorem dL_law_172 : decode cL_law 172 = .ok (.aload_n 1, 1) := by decide +kernel
theorem dL_law_173 : decode cL_law 173 = .ok (.aload_n 0, 1) := by decide +kernel
theorem dL_law_174 : decode cL_law 174 = .ok (.iload_n 3, 1) := by decide +kernel
theorem dL_law_175 : decode cL_law 175 = .ok (.iconst 1, 1) := by decide +kernel
theorem dL_law_176 : decode cL_law 176 = .ok (.iadd, 1) := by decide +kernel
theorem dL_law_177 : decode cL_law 177 = .ok (.iaload, 1) := by decide +kernel
theorem dL_law_178 : decode cL_law 178 = .ok (.invokevirtual 13, 3) := by decide +kernel
theorem dL_law_181 : decode cL_law 181 = .ok (.aload_n 2, 1) := by decide +kernel
theorem dL_law_182 : decode cL_law 182 = .ok (.aload_n 0, 1) := by decide +kernel
theorem dL_law_183 : decode cL_law 183 = .ok (.iload_n 3, 1) := by decide +kernel
theorem dL_law_184 : decode cL_law 184 = .ok (.iconst 1, 1) := by decide +kernel
theorem dL_law_185 : decode cL_law 185 = .ok (.iadd, 1) := by decide +kernel
theorem dL_law_186 : decode cL_law 186 = .ok (.iaload, 1) := by decide +kernel
theorem dL_law_187 : decode cL_law 187 = .ok (.invokevirtual 17, 3) := by decide +kernel
theorem dL_law_190 : decode cL_law 190 = .ok (.if_icmp .eq 717, 3) := by decide +kernel
theorem dL_law_193 : decode cL_law 193 = .ok (.iconst 0, 1) := by decide +kernel
theorem dL_law_194 : decode cL_law 194 = .ok (.ireturn, 1) := by decide +kernel
theorem dL_law_195 : decode cL_law 195 = .ok (.aload_n 1, 1) := by decide +kernel
theorem dL_law_196 : decode cL_law 196 = .ok (.invokevirtual 18, 3) := by decide +kernel
theorem dL_law_199 : decode cL_law 199 = .ok (.aload_n 2, 1) := by decide +kernel
theorem dL_law_200 : decode cL_law 200 = .ok (.invokevirtual 22, 3) := by decide +kernel
theorem dL_law_203 : decode cL_law 203 = .ok (.if_icmp .eq 704, 3) := by decide +kernel
theorem dL_law_206 : decode cL_law 206 = .ok (.iconst 0, 1) := by decide +kernel
theorem dL_law_207 : decode cL_law 207 = .ok (.ireturn, 1) := by decide +kernel
theorem dL_law_208 : decode cL_law 208 = .ok (.aload_n 1, 1) := by decide +kernel
theorem dL_law_209 : decode cL_law 209 = .ok (.invokevirtual 23, 3) := by decide +kernel
theorem dL_law_212 : decode cL_law 212 = .ok (.aload_n 2, 1) := by decide +kernel
theorem dL_law_213 : decode cL_law 213 = .ok (.invokevirtual 26, 3) := by decide +kernel
theorem dL_law_216 : decode cL_law 216 = .ok (.if_icmp .eq 691, 3) := by decide +kernel
theorem dL_law_219 : decode cL_law 219 = .ok (.iconst 0, 1) := by decide +kernel
theorem dL_law_220 : decode cL_law 220 = .ok (.ireturn, 1) := by decide +kernel
theorem dL_law_221 : decode cL_law 221 = .ok (.aload_n 1, 1) := by decide +kernel
theorem dL_law_222 : decode cL_law 222 = .ok (.aload_n 0, 1) := by decide +kernel
theorem dL_law_223 : decode cL_law 223 = .ok (.iload_n 3, 1) := by decide +kernel
theorem dL_law_224 : decode cL_law 224 = .ok (.iconst 1, 1) := by decide +kernel
theorem dL_law_225 : decode cL_law 225 = .ok (.iadd, 1) := by decide +kernel
theorem dL_law_226 : decode cL_law 226 = .ok (.iaload, 1) := by decide +kernel
theorem dL_law_227 : decode cL_law 227 = .ok (.aload_n 0, 1) := by decide +kernel
theorem dL_law_228 : decode cL_law 228 = .ok (.iload_n 3, 1) := by decide +kernel
theorem dL_law_229 : decode cL_law 229 = .ok (.iconst 2, 1) := by decide +kernel
theorem dL_law_230 : decode cL_law 230 = .ok (.iadd, 1) := by decide +kernel
theorem dL_law_231 : decode cL_law 231 = .ok (.iaload, 1) := by decide +kernel
theorem dL_law_232 : decode cL_law 232 = .ok (.invokevirtual 27, 3) := by decide +kernel
theorem dL_law_235 : decode cL_law 235 = .ok (.aload_n 2, 1) := by decide +kernel
theorem dL_law_236 : decode cL_law 236 = .ok (.aload_n 0, 1) := by decide +kernel
theorem dL_law_237 : decode cL_law 237 = .ok (.iload_n 3, 1) := by decide +kernel
theorem dL_law_238 : decode cL_law 238 = .ok (.iconst 1, 1) := by decide +kernel
theorem dL_law_239 : decode cL_law 239 = .ok (.iadd, 1) := by decide +kernel
theorem dL_law_240 : decode cL_law 240 = .ok (.iaload, 1) := by decide +kernel
theorem dL_law_241 : decode cL_law 241 = .ok (.aload_n 0, 1) := by decide +kernel
theorem dL_law_242 : decode cL_law 242 = .ok (.iload_n 3, 1) := by decide +kernel
theorem dL_law_243 : decode cL_law 243 = .ok (.iconst 2, 1) := by decide +kernel
theorem dL_law_244 : decode cL_law 244 = .ok (.iadd, 1) := by decide +kernel
theorem dL_law_245 : decode cL_law 245 = .ok (.iaload, 1) := by decide +kernel
theorem dL_law_246 : decode cL_law 246 = .ok (.invokevirtual 31, 3) := by decide +kernel
theorem dL_law_249 : decode cL_law 249 = .ok (.if_icmp .eq 658, 3) := by decide +kernel
theorem dL_law_252 : decode cL_law 252 = .ok (.iconst 0, 1) := by decide +kernel
theorem dL_law_253 : decode cL_law 253 = .ok (.ireturn, 1) := by decide +kernel
theorem dL_law_254 : decode cL_law 254 = .ok (.aload_n 1, 1) := by decide +kernel
theorem dL_law_255 : decode cL_law 255 = .ok (.aload_n 0, 1) := by decide +kernel
theorem dL_law_256 : decode cL_law 256 = .ok (.iload_n 3, 1) := by decide +kernel
theorem dL_law_257 : decode cL_law 257 = .ok (.iconst 1, 1) := by decide +kernel
theorem dL_law_258 : decode cL_law 258 = .ok (.iadd, 1) := by decide +kernel
theorem dL_law_259 : decode cL_law 259 = .ok (.iaload, 1) := by decide +kernel
theorem dL_law_260 : decode cL_law 260 = .ok (.aload_n 0, 1) := by decide +kernel
theorem dL_law_261 : decode cL_law 261 = .ok (.iload_n 3, 1) := by decide +kernel
theorem dL_law_262 : decode cL_law 262 = .ok (.iconst 2, 1) := by decide +kernel
theorem dL_law_263 : decode cL_law 263 = .ok (.iadd, 1) := by decide +kernel
theorem dL_law_264 : decode cL_law 264 = .ok (.iaload, 1) := by decide +kernel
theorem dL_law_265 : decode cL_law 265 = .ok (.invokevirtual 32, 3) := by decide +kernel
theorem dL_law_268 : decode cL_law 268 = .ok (.aload_n 2, 1) := by decide +kernel
theorem dL_law_269 : decode cL_law 269 = .ok (.aload_n 0, 1) := by decide +kernel
theorem dL_law_270 : decode cL_law 270 = .ok (.iload_n 3, 1) := by decide +kernel
theorem dL_law_271 : decode cL_law 271 = .ok (.iconst 1, 1) := by decide +kernel
theorem dL_law_272 : decode cL_law 272 = .ok (.iadd, 1) := by decide +kernel
theorem dL_law_273 : decode cL_law 273 = .ok (.iaload, 1) := by decide +kernel
theorem dL_law_274 : decode cL_law 274 = .ok (.aload_n 0, 1) := by decide +kernel
theorem dL_law_275 : decode cL_law 275 = .ok (.iload_n 3, 1) := by decide +kernel
theorem dL_law_276 : decode cL_law 276 = .ok (.iconst 2, 1) := by decide +kernel
theorem dL_law_277 : decode cL_law 277 = .ok (.iadd, 1) := by decide +kernel
theorem dL_law_278 : decode cL_law 278 = .ok (.iaload, 1) := by decide +kernel
theorem dL_law_279 : decode cL_law 279 = .ok (.invokevirtual 35, 3) := by decide +kernel
theorem dL_law_282 : decode cL_law 282 = .ok (.if_icmp .eq 625, 3) := by decide +kernel
theorem dL_law_285 : decode cL_law 285 = .ok (.iconst 0, 1) := by decide +kernel
theorem dL_law_286 : decode cL_law 286 = .ok (.ireturn, 1) := by decide +kernel
theorem dL_law_287 : decode cL_law 287 = .ok (.aload_n 1, 1) := by decide +kernel
theorem dL_law_288 : decode cL_law 288 = .ok (.aload_n 0, 1) := by decide +kernel
theorem dL_law_289 : decode cL_law 289 = .ok (.iload_n 3, 1) := by decide +kernel
theorem dL_law_290 : decode cL_law 290 = .ok (.iconst 1, 1) := by decide +kernel
theorem dL_law_291 : decode cL_law 291 = .ok (.iadd, 1) := by decide +kernel
theorem dL_law_292 : decode cL_law 292 = .ok (.iaload, 1) := by decide +kernel
theorem dL_law_293 : decode cL_law 293 = .ok (.invokevirtual 36, 3) := by decide +kernel
theorem dL_law_296 : decode cL_law 296 = .ok (.aload_n 2, 1) := by decide +kernel
theorem dL_law_297 : decode cL_law 297 = .ok (.aload_n 0, 1) := by decide +kernel
theorem dL_law_298 : decode cL_law 298 = .ok (.iload_n 3, 1) := by decide +kernel
theorem dL_law_299 : decode cL_law 299 = .ok (.iconst 1, 1) := by decide +kernel
theorem dL_law_300 : decode cL_law 300 = .ok (.iadd, 1) := by decide +kernel
theorem dL_law_301 : decode cL_law 301 = .ok (.iaload, 1) := by decide +kernel
theorem dL_law_302 : decode cL_law 302 = .ok (.invokevirtual 39, 3) := by decide +kernel
theorem dL_law_305 : decode cL_law 305 = .ok (.if_icmp .eq 602, 3) := by decide +kernel
theorem dL_law_308 : decode cL_law 308 = .ok (.iconst 0, 1) := by decide +kernel
theorem dL_law_309 : decode cL_law 309 = .ok (.ireturn, 1) := by decide +kernel
theorem dL_law_310 : decode cL_law 310 = .ok (.aload_n 1, 1) := by decide +kernel
theorem dL_law_311 : decode cL_law 311 = .ok (.aload_n 0, 1) := by decide +kernel
theorem dL_law_312 : decode cL_law 312 = .ok (.iload_n 3, 1) := by decide +kernel
theorem dL_law_313 : decode cL_law 313 = .ok (.iconst 1, 1) := by decide +kernel
theorem dL_law_314 : decode cL_law 314 = .ok (.iadd, 1) := by decide +kernel
theorem dL_law_315 : decode cL_law 315 = .ok (.iaload, 1) := by decide +kernel
theorem dL_law_316 : decode cL_law 316 = .ok (.aload_n 0, 1) := by decide +kernel
theorem dL_law_317 : decode cL_law 317 = .ok (.iload_n 3, 1) := by decide +kernel
theorem dL_law_318 : decode cL_law 318 = .ok (.iconst 2, 1) := by decide +kernel
theorem dL_law_319 : decode cL_law 319 = .ok (.iadd, 1) := by decide +kernel
theorem dL_law_320 : decode cL_law 320 = .ok (.iaload, 1) := by decide +kernel
theorem dL_law_321 : decode cL_law 321 = .ok (.invokevirtual 40, 3) := by decide +kernel
theorem dL_law_324 : decode cL_law 324 = .ok (.aload_n 2, 1) := by decide +kernel
theorem dL_law_325 : decode cL_law 325 = .ok (.aload_n 0, 1) := by decide +kernel
theorem dL_law_326 : decode cL_law 326 = .ok (.iload_n 3, 1) := by decide +kernel
theorem dL_law_327 : decode cL_law 327 = .ok (.iconst 1, 1) := by decide +kernel
theorem dL_law_328 : decode cL_law 328 = .ok (.iadd, 1) := by decide +kernel
theorem dL_law_329 : decode cL_law 329 = .ok (.iaload, 1) := by decide +kernel
theorem dL_law_330 : decode cL_law 330 = .ok (.aload_n 0, 1) := by decide +kernel
theorem dL_law_331 : decode cL_law 331 = .ok (.iload_n 3, 1) := by decide +kernel
theorem dL_law_332 : decode cL_law 332 = .ok (.iconst 2, 1) := by decide +kernel
theorem dL_law_333 : decode cL_law 333 = .ok (.iadd, 1) := by decide +kernel
theorem dL_law_334 : decode cL_law 334 = .ok (.iaload, 1) := by decide +kernel
theorem dL_law_335 : decode cL_law 335 = .ok (.invokevirtual 43, 3) := by decide +kernel
theorem dL_law_338 : decode cL_law 338 = .ok (.if_icmp .eq 569, 3) := by decide +kernel
theorem dL_law_341 : decode cL_law 341 = .ok (.iconst 0, 1) := by decide +kernel
theorem dL_law_342 : decode cL_law 342 = .ok (.ireturn, 1) := by decide +kernel
theorem dL_law_343 : decode cL_law 343 = .ok (.aload_n 1, 1) := by decide +kernel
theorem dL_law_344 : decode cL_law 344 = .ok (.aload_n 0, 1) := by decide +kernel
theorem dL_law_345 : decode cL_law 345 = .ok (.iload_n 3, 1) := by decide +kernel
theorem dL_law_346 : decode cL_law 346 = .ok (.iconst 1, 1) := by decide +kernel
theorem dL_law_347 : decode cL_law 347 = .ok (.iadd, 1) := by decide +kernel
theorem dL_law_348 : decode cL_law 348 = .ok (.iaload, 1) := by decide +kernel
theorem dL_law_349 : decode cL_law 349 = .ok (.aload_n 0, 1) := by decide +kernel
theorem dL_law_350 : decode cL_law 350 = .ok (.iload_n 3, 1) := by decide +kernel
theorem dL_law_351 : decode cL_law 351 = .ok (.iconst 2, 1) := by decide +kernel
theorem dL_law_352 : decode cL_law 352 = .ok (.iadd, 1) := by decide +kernel
theorem dL_law_353 : decode cL_law 353 = .ok (.iaload, 1) := by decide +kernel
theorem dL_law_354 : decode cL_law 354 = .ok (.aload_n 0, 1) := by decide +kernel
theorem dL_law_355 : decode cL_law 355 = .ok (.iload_n 3, 1) := by decide +kernel
theorem dL_law_356 : decode cL_law 356 = .ok (.iconst 3, 1) := by decide +kernel
theorem dL_law_357 : decode cL_law 357 = .ok (.iadd, 1) := by decide +kernel
theorem dL_law_358 : decode cL_law 358 = .ok (.iaload, 1) := by decide +kernel
theorem dL_law_359 : decode cL_law 359 = .ok (.invokevirtual 44, 3) := by decide +kernel
theorem dL_law_362 : decode cL_law 362 = .ok (.aload_n 2, 1) := by decide +kernel
theorem dL_law_363 : decode cL_law 363 = .ok (.aload_n 0, 1) := by decide +kernel
theorem dL_law_364 : decode cL_law 364 = .ok (.iload_n 3, 1) := by decide +kernel
theorem dL_law_365 : decode cL_law 365 = .ok (.iconst 1, 1) := by decide +kernel
theorem dL_law_366 : decode cL_law 366 = .ok (.iadd, 1) := by decide +kernel
theorem dL_law_367 : decode cL_law 367 = .ok (.iaload, 1) := by decide +kernel
theorem dL_law_368 : decode cL_law 368 = .ok (.aload_n 0, 1) := by decide +kernel
theorem dL_law_369 : decode cL_law 369 = .ok (.iload_n 3, 1) := by decide +kernel
theorem dL_law_370 : decode cL_law 370 = .ok (.iconst 2, 1) := by decide +kernel
theorem dL_law_371 : decode cL_law 371 = .ok (.iadd, 1) := by decide +kernel
theorem dL_law_372 : decode cL_law 372 = .ok (.iaload, 1) := by decide +kernel
theorem dL_law_373 : decode cL_law 373 = .ok (.aload_n 0, 1) := by decide +kernel
theorem dL_law_374 : decode cL_law 374 = .ok (.iload_n 3, 1) := by decide +kernel
theorem dL_law_375 : decode cL_law 375 = .ok (.iconst 3, 1) := by decide +kernel
theorem dL_law_376 : decode cL_law 376 = .ok (.iadd, 1) := by decide +kernel
theorem dL_law_377 : decode cL_law 377 = .ok (.iaload, 1) := by decide +kernel
theorem dL_law_378 : decode cL_law 378 = .ok (.invokevirtual 48, 3) := by decide +kernel
theorem dL_law_381 : decode cL_law 381 = .ok (.if_icmp .eq 526, 3) := by decide +kernel
theorem dL_law_384 : decode cL_law 384 = .ok (.iconst 0, 1) := by decide +kernel
theorem dL_law_385 : decode cL_law 385 = .ok (.ireturn, 1) := by decide +kernel
theorem dL_law_386 : decode cL_law 386 = .ok (.aload_n 1, 1) := by decide +kernel
theorem dL_law_387 : decode cL_law 387 = .ok (.invokevirtual 49, 3) := by decide +kernel
theorem dL_law_390 : decode cL_law 390 = .ok (.aload_n 2, 1) := by decide +kernel
theorem dL_law_391 : decode cL_law 391 = .ok (.invokevirtual 52, 3) := by decide +kernel
theorem dL_law_394 : decode cL_law 394 = .ok (.if_icmp .eq 513, 3) := by decide +kernel
theorem dL_law_397 : decode cL_law 397 = .ok (.iconst 0, 1) := by decide +kernel
theorem dL_law_398 : decode cL_law 398 = .ok (.ireturn, 1) := by decide +kernel
theorem dL_law_399 : decode cL_law 399 = .ok (.aload_n 1, 1) := by decide +kernel
theorem dL_law_400 : decode cL_law 400 = .ok (.aload_n 0, 1) := by decide +kernel
theorem dL_law_401 : decode cL_law 401 = .ok (.iload_n 3, 1) := by decide +kernel
theorem dL_law_402 : decode cL_law 402 = .ok (.iconst 1, 1) := by decide +kernel
theorem dL_law_403 : decode cL_law 403 = .ok (.iadd, 1) := by decide +kernel
theorem dL_law_404 : decode cL_law 404 = .ok (.iaload, 1) := by decide +kernel
theorem dL_law_405 : decode cL_law 405 = .ok (.aload_n 0, 1) := by decide +kernel
theorem dL_law_406 : decode cL_law 406 = .ok (.iload_n 3, 1) := by decide +kernel
theorem dL_law_407 : decode cL_law 407 = .ok (.iconst 2, 1) := by decide +kernel
theorem dL_law_408 : decode cL_law 408 = .ok (.iadd, 1) := by decide +kernel
theorem dL_law_409 : decode cL_law 409 = .ok (.iaload, 1) := by decide +kernel
theorem dL_law_410 : decode cL_law 410 = .ok (.aload_n 0, 1) := by decide +kernel
theorem dL_law_411 : decode cL_law 411 = .ok (.iload_n 3, 1) := by decide +kernel
theorem dL_law_412 : decode cL_law 412 = .ok (.iconst 3, 1) := by decide +kernel
theorem dL_law_413 : decode cL_law 413 = .ok (.iadd, 1) := by decide +kernel
theorem dL_law_414 : decode cL_law 414 = .ok (.iaload, 1) := by decide +kernel
theorem dL_law_415 : decode cL_law 415 = .ok (.invokevirtual 53, 3) := by decide +kernel
theorem dL_law_418 : decode cL_law 418 = .ok (.aload_n 2, 1) := by decide +kernel
theorem dL_law_419 : decode cL_law 419 = .ok (.aload_n 0, 1) := by decide +kernel
theorem dL_law_420 : decode cL_law 420 = .ok (.iload_n 3, 1) := by decide +kernel
theorem dL_law_421 : decode cL_law 421 = .ok (.iconst 1, 1) := by decide +kernel
theorem dL_law_422 : decode cL_law 422 = .ok (.iadd, 1) := by decide +kernel
theorem dL_law_423 : decode cL_law 423 = .ok (.iaload, 1) := by decide +kernel
theorem dL_law_424 : decode cL_law 424 = .ok (.aload_n 0, 1) := by decide +kernel
theorem dL_law_425 : decode cL_law 425 = .ok (.iload_n 3, 1) := by decide +kernel
theorem dL_law_426 : decode cL_law 426 = .ok (.iconst 2, 1) := by decide +kernel
theorem dL_law_427 : decode cL_law 427 = .ok (.iadd, 1) := by decide +kernel
theorem dL_law_428 : decode cL_law 428 = .ok (.iaload, 1) := by decide +kernel
theorem dL_law_429 : decode cL_law 429 = .ok (.aload_n 0, 1) := by decide +kernel
theorem dL_law_430 : decode cL_law 430 = .ok (.iload_n 3, 1) := by decide +kernel
theorem dL_law_431 : decode cL_law 431 = .ok (.iconst 3, 1) := by decide +kernel
theorem dL_law_432 : decode cL_law 432 = .ok (.iadd, 1) := by decide +kernel
theorem dL_law_433 : decode cL_law 433 = .ok (.iaload, 1) := by decide +kernel
theorem dL_law_434 : decode cL_law 434 = .ok (.invokevirtual 56, 3) := by decide +kernel
theorem dL_law_437 : decode cL_law 437 = .ok (.if_icmp .eq 470, 3) := by decide +kernel
theorem dL_law_440 : decode cL_law 440 = .ok (.iconst 0, 1) := by decide +kernel
theorem dL_law_441 : decode cL_law 441 = .ok (.ireturn, 1) := by decide +kernel
theorem dL_law_442 : decode cL_law 442 = .ok (.aload_n 1, 1) := by decide +kernel
theorem dL_law_443 : decode cL_law 443 = .ok (.invokevirtual 57, 3) := by decide +kernel
theorem dL_law_446 : decode cL_law 446 = .ok (.aload_n 2, 1) := by decide +kernel
theorem dL_law_447 : decode cL_law 447 = .ok (.invokevirtual 60, 3) := by decide +kernel
theorem dL_law_450 : decode cL_law 450 = .ok (.if_icmp .eq 457, 3) := by decide +kernel
theorem dL_law_453 : decode cL_law 453 = .ok (.iconst 0, 1) := by decide +kernel
theorem dL_law_454 : decode cL_law 454 = .ok (.ireturn, 1) := by decide +kernel
theorem dL_law_455 : decode cL_law 455 = .ok (.aload_n 1, 1) := by decide +kernel
theorem dL_law_456 : decode cL_law 456 = .ok (.aload_n 0, 1) := by decide +kernel
theorem dL_law_457 : decode cL_law 457 = .ok (.iload_n 3, 1) := by decide +kernel
theorem dL_law_458 : decode cL_law 458 = .ok (.iconst 1, 1) := by decide +kernel
theorem dL_law_459 : decode cL_law 459 = .ok (.iadd, 1) := by decide +kernel
theorem dL_law_460 : decode cL_law 460 = .ok (.iaload, 1) := by decide +kernel
theorem dL_law_461 : decode cL_law 461 = .ok (.invokevirtual 61, 3) := by decide +kernel
theorem dL_law_464 : decode cL_law 464 = .ok (.aload_n 2, 1) := by decide +kernel
theorem dL_law_465 : decode cL_law 465 = .ok (.aload_n 0, 1) := by decide +kernel
theorem dL_law_466 : decode cL_law 466 = .ok (.iload_n 3, 1) := by decide +kernel
theorem dL_law_467 : decode cL_law 467 = .ok (.iconst 1, 1) := by decide +kernel
theorem dL_law_468 : decode cL_law 468 = .ok (.iadd, 1) := by decide +kernel
theorem dL_law_469 : decode cL_law 469 = .ok (.iaload, 1) := by decide +kernel
theorem dL_law_470 : decode cL_law 470 = .ok (.invokevirtual 64, 3) := by decide +kernel
theorem dL_law_473 : decode cL_law 473 = .ok (.if_icmp .eq 434, 3) := by decide +kernel
theorem dL_law_476 : decode cL_law 476 = .ok (.iconst 0, 1) := by decide +kernel
theorem dL_law_477 : decode cL_law 477 = .ok (.ireturn, 1) := by decide +kernel
theorem dL_law_478 : decode cL_law 478 = .ok (.aload_n 1, 1) := by decide +kernel
theorem dL_law_479 : decode cL_law 479 = .ok (.aload_n 0, 1) := by decide +kernel
theorem dL_law_480 : decode cL_law 480 = .ok (.iload_n 3, 1) := by decide +kernel
theorem dL_law_481 : decode cL_law 481 = .ok (.iconst 1, 1) := by decide +kernel
theorem dL_law_482 : decode cL_law 482 = .ok (.iadd, 1) := by decide +kernel
theorem dL_law_483 : decode cL_law 483 = .ok (.iaload, 1) := by decide +kernel
theorem dL_law_484 : decode cL_law 484 = .ok (.invokevirtual 65, 3) := by decide +kernel
theorem dL_law_487 : decode cL_law 487 = .ok (.aload_n 2, 1) := by decide +kernel
theorem dL_law_488 : decode cL_law 488 = .ok (.aload_n 0, 1) := by decide +kernel
theorem dL_law_489 : decode cL_law 489 = .ok (.iload_n 3, 1) := by decide +kernel
theorem dL_law_490 : decode cL_law 490 = .ok (.iconst 1, 1) := by decide +kernel
theorem dL_law_491 : decode cL_law 491 = .ok (.iadd, 1) := by decide +kernel
theorem dL_law_492 : decode cL_law 492 = .ok (.iaload, 1) := by decide +kernel
theorem dL_law_493 : decode cL_law 493 = .ok (.invokevirtual 68, 3) := by decide +kernel
theorem dL_law_496 : decode cL_law 496 = .ok (.if_icmp .eq 411, 3) := by decide +kernel
theorem dL_law_499 : decode cL_law 499 = .ok (.iconst 0, 1) := by decide +kernel
theorem dL_law_500 : decode cL_law 500 = .ok (.ireturn, 1) := by decide +kernel
theorem dL_law_501 : decode cL_law 501 = .ok (.aload_n 1, 1) := by decide +kernel
theorem dL_law_502 : decode cL_law 502 = .ok (.invokevirtual 69, 3) := by decide +kernel
theorem dL_law_505 : decode cL_law 505 = .ok (.aload_n 2, 1) := by decide +kernel
theorem dL_law_506 : decode cL_law 506 = .ok (.invokevirtual 72, 3) := by decide +kernel
theorem dL_law_509 : decode cL_law 509 = .ok (.if_icmp .eq 398, 3) := by decide +kernel
theorem dL_law_512 : decode cL_law 512 = .ok (.iconst 0, 1) := by decide +kernel
theorem dL_law_513 : decode cL_law 513 = .ok (.ireturn, 1) := by decide +kernel
theorem dL_law_514 : decode cL_law 514 = .ok (.aload_n 1, 1) := by decide +kernel
theorem dL_law_515 : decode cL_law 515 = .ok (.aload_n 0, 1) := by decide +kernel
theorem dL_law_516 : decode cL_law 516 = .ok (.iload_n 3, 1) := by decide +kernel
theorem dL_law_517 : decode cL_law 517 = .ok (.iconst 1, 1) := by decide +kernel
theorem dL_law_518 : decode cL_law 518 = .ok (.iadd, 1) := by decide +kernel
theorem dL_law_519 : decode cL_law 519 = .ok (.iaload, 1) := by decide +kernel
theorem dL_law_520 : decode cL_law 520 = .ok (.invokevirtual 73, 3) := by decide +kernel
theorem dL_law_523 : decode cL_law 523 = .ok (.aload_n 2, 1) := by decide +kernel
theorem dL_law_524 : decode cL_law 524 = .ok (.aload_n 0, 1) := by decide +kernel
theorem dL_law_525 : decode cL_law 525 = .ok (.iload_n 3, 1) := by decide +kernel
theorem dL_law_526 : decode cL_law 526 = .ok (.iconst 1, 1) := by decide +kernel
theorem dL_law_527 : decode cL_law 527 = .ok (.iadd, 1) := by decide +kernel
theorem dL_law_528 : decode cL_law 528 = .ok (.iaload, 1) := by decide +kernel
theorem dL_law_529 : decode cL_law 529 = .ok (.invokevirtual 76, 3) := by decide +kernel
theorem dL_law_532 : decode cL_law 532 = .ok (.if_icmp .eq 375, 3) := by decide +kernel
theorem dL_law_535 : decode cL_law 535 = .ok (.iconst 0, 1) := by decide +kernel
theorem dL_law_536 : decode cL_law 536 = .ok (.ireturn, 1) := by decide +kernel
theorem dL_law_537 : decode cL_law 537 = .ok (.aload_n 1, 1) := by decide +kernel
theorem dL_law_538 : decode cL_law 538 = .ok (.aload_n 0, 1) := by decide +kernel
theorem dL_law_539 : decode cL_law 539 = .ok (.iload_n 3, 1) := by decide +kernel
theorem dL_law_540 : decode cL_law 540 = .ok (.iconst 1, 1) := by decide +kernel
theorem dL_law_541 : decode cL_law 541 = .ok (.iadd, 1) := by decide +kernel
theorem dL_law_542 : decode cL_law 542 = .ok (.iaload, 1) := by decide +kernel
theorem dL_law_543 : decode cL_law 543 = .ok (.invokevirtual 77, 3) := by decide +kernel
theorem dL_law_546 : decode cL_law 546 = .ok (.aload_n 2, 1) := by decide +kernel
theorem dL_law_547 : decode cL_law 547 = .ok (.aload_n 0, 1) := by decide +kernel
theorem dL_law_548 : decode cL_law 548 = .ok (.iload_n 3, 1) := by decide +kernel
theorem dL_law_549 : decode cL_law 549 = .ok (.iconst 1, 1) := by decide +kernel
theorem dL_law_550 : decode cL_law 550 = .ok (.iadd, 1) := by decide +kernel
theorem dL_law_551 : decode cL_law 551 = .ok (.iaload, 1) := by decide +kernel
theorem dL_law_552 : decode cL_law 552 = .ok (.invokevirtual 80, 3) := by decide +kernel
theorem dL_law_555 : decode cL_law 555 = .ok (.if_icmp .eq 352, 3) := by decide +kernel
theorem dL_law_558 : decode cL_law 558 = .ok (.iconst 0, 1) := by decide +kernel
theorem dL_law_559 : decode cL_law 559 = .ok (.ireturn, 1) := by decide +kernel
theorem dL_law_560 : decode cL_law 560 = .ok (.aload_n 1, 1) := by decide +kernel
theorem dL_law_561 : decode cL_law 561 = .ok (.invokevirtual 81, 3) := by decide +kernel
theorem dL_law_564 : decode cL_law 564 = .ok (.aload_n 2, 1) := by decide +kernel
theorem dL_law_565 : decode cL_law 565 = .ok (.invokevirtual 84, 3) := by decide +kernel
theorem dL_law_568 : decode cL_law 568 = .ok (.if_icmp .eq 339, 3) := by decide +kernel
theorem dL_law_571 : decode cL_law 571 = .ok (.iconst 0, 1) := by decide +kernel
theorem dL_law_572 : decode cL_law 572 = .ok (.ireturn, 1) := by decide +kernel
theorem dL_law_573 : decode cL_law 573 = .ok (.aload_n 1, 1) := by decide +kernel
theorem dL_law_574 : decode cL_law 574 = .ok (.aload_n 0, 1) := by decide +kernel
theorem dL_law_575 : decode cL_law 575 = .ok (.iload_n 3, 1) := by decide +kernel
theorem dL_law_576 : decode cL_law 576 = .ok (.iconst 1, 1) := by decide +kernel
theorem dL_law_577 : decode cL_law 577 = .ok (.iadd, 1) := by decide +kernel
theorem dL_law_578 : decode cL_law 578 = .ok (.iaload, 1) := by decide +kernel
theorem dL_law_579 : decode cL_law 579 = .ok (.invokevirtual 85, 3) := by decide +kernel
theorem dL_law_582 : decode cL_law 582 = .ok (.aload_n 2, 1) := by decide +kernel
theorem dL_law_583 : decode cL_law 583 = .ok (.aload_n 0, 1) := by decide +kernel
theorem dL_law_584 : decode cL_law 584 = .ok (.iload_n 3, 1) := by decide +kernel
theorem dL_law_585 : decode cL_law 585 = .ok (.iconst 1, 1) := by decide +kernel
theorem dL_law_586 : decode cL_law 586 = .ok (.iadd, 1) := by decide +kernel
theorem dL_law_587 : decode cL_law 587 = .ok (.iaload, 1) := by decide +kernel
theorem dL_law_588 : decode cL_law 588 = .ok (.invokevirtual 88, 3) := by decide +kernel
theorem dL_law_591 : decode cL_law 591 = .ok (.if_icmp .eq 316, 3) := by decide +kernel
theorem dL_law_594 : decode cL_law 594 = .ok (.iconst 0, 1) := by decide +kernel
theorem dL_law_595 : decode cL_law 595 = .ok (.ireturn, 1) := by decide +kernel
theorem dL_law_596 : decode cL_law 596 = .ok (.aload_n 1, 1) := by decide +kernel
theorem dL_law_597 : decode cL_law 597 = .ok (.aload_n 0, 1) := by decide +kernel
theorem dL_law_598 : decode cL_law 598 = .ok (.iload_n 3, 1) := by decide +kernel
theorem dL_law_599 : decode cL_law 599 = .ok (.iconst 1, 1) := by decide +kernel
theorem dL_law_600 : decode cL_law 600 = .ok (.iadd, 1) := by decide +kernel
theorem dL_law_601 : decode cL_law 601 = .ok (.iaload, 1) := by decide +kernel
theorem dL_law_602 : decode cL_law 602 = .ok (.invokevirtual 89, 3) := by decide +kernel
theorem dL_law_605 : decode cL_law 605 = .ok (.aload_n 2, 1) := by decide +kernel
theorem dL_law_606 : decode cL_law 606 = .ok (.aload_n 0, 1) := by decide +kernel
theorem dL_law_607 : decode cL_law 607 = .ok (.iload_n 3, 1) := by decide +kernel
theorem dL_law_608 : decode cL_law 608 = .ok (.iconst 1, 1) := by decide +kernel
theorem dL_law_609 : decode cL_law 609 = .ok (.iadd, 1) := by decide +kernel
theorem dL_law_610 : decode cL_law 610 = .ok (.iaload, 1) := by decide +kernel
theorem dL_law_611 : decode cL_law 611 = .ok (.invokevirtual 92, 3) := by decide +kernel
theorem dL_law_614 : decode cL_law 614 = .ok (.if_icmp .eq 293, 3) := by decide +kernel
theorem dL_law_617 : decode cL_law 617 = .ok (.iconst 0, 1) := by decide +kernel
theorem dL_law_618 : decode cL_law 618 = .ok (.ireturn, 1) := by decide +kernel
theorem dL_law_619 : decode cL_law 619 = .ok (.aload_n 1, 1) := by decide +kernel
theorem dL_law_620 : decode cL_law 620 = .ok (.aload_n 0, 1) := by decide +kernel
theorem dL_law_621 : decode cL_law 621 = .ok (.iload_n 3, 1) := by decide +kernel
theorem dL_law_622 : decode cL_law 622 = .ok (.iconst 1, 1) := by decide +kernel
theorem dL_law_623 : decode cL_law 623 = .ok (.iadd, 1) := by decide +kernel
theorem dL_law_624 : decode cL_law 624 = .ok (.iaload, 1) := by decide +kernel
theorem dL_law_625 : decode cL_law 625 = .ok (.invokevirtual 93, 3) := by decide +kernel
theorem dL_law_628 : decode cL_law 628 = .ok (.aload_n 2, 1) := by decide +kernel
theorem dL_law_629 : decode cL_law 629 = .ok (.aload_n 0, 1) := by decide +kernel
theorem dL_law_630 : decode cL_law 630 = .ok (.iload_n 3, 1) := by decide +kernel
theorem dL_law_631 : decode cL_law 631 = .ok (.iconst 1, 1) := by decide +kernel
theorem dL_law_632 : decode cL_law 632 = .ok (.iadd, 1) := by decide +kernel
theorem dL_law_633 : decode cL_law 633 = .ok (.iaload, 1) := by decide +kernel
theorem dL_law_634 : decode cL_law 634 = .ok (.invokevirtual 96, 3) := by decide +kernel
theorem dL_law_637 : decode cL_law 637 = .ok (.if_icmp .eq 270, 3) := by decide +kernel
theorem dL_law_640 : decode cL_law 640 = .ok (.iconst 0, 1) := by decide +kernel
theorem dL_law_641 : decode cL_law 641 = .ok (.ireturn, 1) := by decide +kernel
theorem dL_law_642 : decode cL_law 642 = .ok (.aload_n 1, 1) := by decide +kernel
theorem dL_law_643 : decode cL_law 643 = .ok (.aload_n 0, 1) := by decide +kernel
theorem dL_law_644 : decode cL_law 644 = .ok (.iload_n 3, 1) := by decide +kernel
theorem dL_law_645 : decode cL_law 645 = .ok (.iconst 1, 1) := by decide +kernel
theorem dL_law_646 : decode cL_law 646 = .ok (.iadd, 1) := by decide +kernel
theorem dL_law_647 : decode cL_law 647 = .ok (.iaload, 1) := by decide +kernel
theorem dL_law_648 : decode cL_law 648 = .ok (.invokevirtual 97, 3) := by decide +kernel
theorem dL_law_651 : decode cL_law 651 = .ok (.aload_n 2, 1) := by decide +kernel
theorem dL_law_652 : decode cL_law 652 = .ok (.aload_n 0, 1) := by decide +kernel
theorem dL_law_653 : decode cL_law 653 = .ok (.iload_n 3, 1) := by decide +kernel
theorem dL_law_654 : decode cL_law 654 = .ok (.iconst 1, 1) := by decide +kernel
theorem dL_law_655 : decode cL_law 655 = .ok (.iadd, 1) := by decide +kernel
theorem dL_law_656 : decode cL_law 656 = .ok (.iaload, 1) := by decide +kernel
theorem dL_law_657 : decode cL_law 657 = .ok (.invokevirtual 100, 3) := by decide +kernel
theorem dL_law_660 : decode cL_law 660 = .ok (.if_icmp .eq 247, 3) := by decide +kernel
theorem dL_law_663 : decode cL_law 663 = .ok (.iconst 0, 1) := by decide +kernel
theorem dL_law_664 : decode cL_law 664 = .ok (.ireturn, 1) := by decide +kernel
theorem dL_law_665 : decode cL_law 665 = .ok (.aload_n 1, 1) := by decide +kernel
theorem dL_law_666 : decode cL_law 666 = .ok (.aload_n 0, 1) := by decide +kernel
theorem dL_law_667 : decode cL_law 667 = .ok (.iload_n 3, 1) := by decide +kernel
theorem dL_law_668 : decode cL_law 668 = .ok (.iconst 1, 1) := by decide +kernel
theorem dL_law_669 : decode cL_law 669 = .ok (.iadd, 1) := by decide +kernel
theorem dL_law_670 : decode cL_law 670 = .ok (.iaload, 1) := by decide +kernel
theorem dL_law_671 : decode cL_law 671 = .ok (.aload_n 0, 1) := by decide +kernel
theorem dL_law_672 : decode cL_law 672 = .ok (.iload_n 3, 1) := by decide +kernel
theorem dL_law_673 : decode cL_law 673 = .ok (.iconst 2, 1) := by decide +kernel
theorem dL_law_674 : decode cL_law 674 = .ok (.iadd, 1) := by decide +kernel
theorem dL_law_675 : decode cL_law 675 = .ok (.iaload, 1) := by decide +kernel
theorem dL_law_676 : decode cL_law 676 = .ok (.invokevirtual 101, 3) := by decide +kernel
theorem dL_law_679 : decode cL_law 679 = .ok (.aload_n 2, 1) := by decide +kernel
theorem dL_law_680 : decode cL_law 680 = .ok (.aload_n 0, 1) := by decide +kernel
theorem dL_law_681 : decode cL_law 681 = .ok (.iload_n 3, 1) := by decide +kernel
theorem dL_law_682 : decode cL_law 682 = .ok (.iconst 1, 1) := by decide +kernel
theorem dL_law_683 : decode cL_law 683 = .ok (.iadd, 1) := by decide +kernel
theorem dL_law_684 : decode cL_law 684 = .ok (.iaload, 1) := by decide +kernel
theorem dL_law_685 : decode cL_law 685 = .ok (.aload_n 0, 1) := by decide +kernel
theorem dL_law_686 : decode cL_law 686 = .ok (.iload_n 3, 1) := by decide +kernel
theorem dL_law_687 : decode cL_law 687 = .ok (.iconst 2, 1) := by decide +kernel
theorem dL_law_688 : decode cL_law 688 = .ok (.iadd, 1) := by decide +kernel
theorem dL_law_689 : decode cL_law 689 = .ok (.iaload, 1) := by decide +kernel
theorem dL_law_690 : decode cL_law 690 = .ok (.invokevirtual 105, 3) := by decide +kernel
theorem dL_law_693 : decode cL_law 693 = .ok (.lcmp, 1) := by decide +kernel
theorem dL_law_694 : decode cL_law 694 = .ok (.ifCond .eq 213, 3) := by decide +kernel
theorem dL_law_697 : decode cL_law 697 = .ok (.iconst 0, 1) := by decide +kernel
theorem dL_law_698 : decode cL_law 698 = .ok (.ireturn, 1) := by decide +kernel
theorem dL_law_699 : decode cL_law 699 = .ok (.aload_n 1, 1) := by decide +kernel
theorem dL_law_700 : decode cL_law 700 = .ok (.aload_n 0, 1) := by decide +kernel
theorem dL_law_701 : decode cL_law 701 = .ok (.iload_n 3, 1) := by decide +kernel
theorem dL_law_702 : decode cL_law 702 = .ok (.iconst 1, 1) := by decide +kernel
theorem dL_law_703 : decode cL_law 703 = .ok (.iadd, 1) := by decide +kernel
theorem dL_law_704 : decode cL_law 704 = .ok (.iaload, 1) := by decide +kernel
theorem dL_law_705 : decode cL_law 705 = .ok (.aload_n 0, 1) := by decide +kernel
theorem dL_law_706 : decode cL_law 706 = .ok (.iload_n 3, 1) := by decide +kernel
theorem dL_law_707 : decode cL_law 707 = .ok (.iconst 2, 1) := by decide +kernel
theorem dL_law_708 : decode cL_law 708 = .ok (.iadd, 1) := by decide +kernel
theorem dL_law_709 : decode cL_law 709 = .ok (.iaload, 1) := by decide +kernel
theorem dL_law_710 : decode cL_law 710 = .ok (.invokevirtual 106, 3) := by decide +kernel
theorem dL_law_713 : decode cL_law 713 = .ok (.aload_n 2, 1) := by decide +kernel
theorem dL_law_714 : decode cL_law 714 = .ok (.aload_n 0, 1) := by decide +kernel
theorem dL_law_715 : decode cL_law 715 = .ok (.iload_n 3, 1) := by decide +kernel
theorem dL_law_716 : decode cL_law 716 = .ok (.iconst 1, 1) := by decide +kernel
theorem dL_law_717 : decode cL_law 717 = .ok (.iadd, 1) := by decide +kernel
theorem dL_law_718 : decode cL_law 718 = .ok (.iaload, 1) := by decide +kernel
theorem dL_law_719 : decode cL_law 719 = .ok (.aload_n 0, 1) := by decide +kernel
theorem dL_law_720 : decode cL_law 720 = .ok (.iload_n 3, 1) := by decide +kernel
theorem dL_law_721 : decode cL_law 721 = .ok (.iconst 2, 1) := by decide +kernel
theorem dL_law_722 : decode cL_law 722 = .ok (.iadd, 1) := by decide +kernel
theorem dL_law_723 : decode cL_law 723 = .ok (.iaload, 1) := by decide +kernel
theorem dL_law_724 : decode cL_law 724 = .ok (.invokevirtual 109, 3) := by decide +kernel
theorem dL_law_727 : decode cL_law 727 = .ok (.if_icmp .eq 180, 3) := by decide +kernel
theorem dL_law_730 : decode cL_law 730 = .ok (.iconst 0, 1) := by decide +kernel
theorem dL_law_731 : decode cL_law 731 = .ok (.ireturn, 1) := by decide +kernel
theorem dL_law_732 : decode cL_law 732 = .ok (.aload_n 1, 1) := by decide +kernel
theorem dL_law_733 : decode cL_law 733 = .ok (.invokevirtual 110, 3) := by decide +kernel
theorem dL_law_736 : decode cL_law 736 = .ok (.aload_n 2, 1) := by decide +kernel
theorem dL_law_737 : decode cL_law 737 = .ok (.invokevirtual 113, 3) := by decide +kernel
theorem dL_law_740 : decode cL_law 740 = .ok (.if_icmp .eq 167, 3) := by decide +kernel
theorem dL_law_743 : decode cL_law 743 = .ok (.iconst 0, 1) := by decide +kernel
theorem dL_law_744 : decode cL_law 744 = .ok (.ireturn, 1) := by decide +kernel
theorem dL_law_745 : decode cL_law 745 = .ok (.aload_n 1, 1) := by decide +kernel
theorem dL_law_746 : decode cL_law 746 = .ok (.aload_n 0, 1) := by decide +kernel
theorem dL_law_747 : decode cL_law 747 = .ok (.iload_n 3, 1) := by decide +kernel
theorem dL_law_748 : decode cL_law 748 = .ok (.iconst 1, 1) := by decide +kernel
theorem dL_law_749 : decode cL_law 749 = .ok (.iadd, 1) := by decide +kernel
theorem dL_law_750 : decode cL_law 750 = .ok (.iaload, 1) := by decide +kernel
theorem dL_law_751 : decode cL_law 751 = .ok (.invokevirtual 114, 3) := by decide +kernel
theorem dL_law_754 : decode cL_law 754 = .ok (.aload_n 2, 1) := by decide +kernel
theorem dL_law_755 : decode cL_law 755 = .ok (.aload_n 0, 1) := by decide +kernel
theorem dL_law_756 : decode cL_law 756 = .ok (.iload_n 3, 1) := by decide +kernel
theorem dL_law_757 : decode cL_law 757 = .ok (.iconst 1, 1) := by decide +kernel
theorem dL_law_758 : decode cL_law 758 = .ok (.iadd, 1) := by decide +kernel
theorem dL_law_759 : decode cL_law 759 = .ok (.iaload, 1) := by decide +kernel
theorem dL_law_760 : decode cL_law 760 = .ok (.invokevirtual 117, 3) := by decide +kernel
theorem dL_law_763 : decode cL_law 763 = .ok (.if_icmp .eq 144, 3) := by decide +kernel
theorem dL_law_766 : decode cL_law 766 = .ok (.iconst 0, 1) := by decide +kernel
theorem dL_law_767 : decode cL_law 767 = .ok (.ireturn, 1) := by decide +kernel
theorem dL_law_768 : decode cL_law 768 = .ok (.aload_n 1, 1) := by decide +kernel
theorem dL_law_769 : decode cL_law 769 = .ok (.aload_n 0, 1) := by decide +kernel
theorem dL_law_770 : decode cL_law 770 = .ok (.iload_n 3, 1) := by decide +kernel
theorem dL_law_771 : decode cL_law 771 = .ok (.iconst 1, 1) := by decide +kernel
theorem dL_law_772 : decode cL_law 772 = .ok (.iadd, 1) := by decide +kernel
theorem dL_law_773 : decode cL_law 773 = .ok (.iaload, 1) := by decide +kernel
theorem dL_law_774 : decode cL_law 774 = .ok (.invokevirtual 118, 3) := by decide +kernel
theorem dL_law_777 : decode cL_law 777 = .ok (.aload_n 2, 1) := by decide +kernel
theorem dL_law_778 : decode cL_law 778 = .ok (.aload_n 0, 1) := by decide +kernel
theorem dL_law_779 : decode cL_law 779 = .ok (.iload_n 3, 1) := by decide +kernel
theorem dL_law_780 : decode cL_law 780 = .ok (.iconst 1, 1) := by decide +kernel
theorem dL_law_781 : decode cL_law 781 = .ok (.iadd, 1) := by decide +kernel
theorem dL_law_782 : decode cL_law 782 = .ok (.iaload, 1) := by decide +kernel
theorem dL_law_783 : decode cL_law 783 = .ok (.invokevirtual 121, 3) := by decide +kernel
theorem dL_law_786 : decode cL_law 786 = .ok (.if_icmp .eq 121, 3) := by decide +kernel
theorem dL_law_789 : decode cL_law 789 = .ok (.iconst 0, 1) := by decide +kernel
theorem dL_law_790 : decode cL_law 790 = .ok (.ireturn, 1) := by decide +kernel
theorem dL_law_791 : decode cL_law 791 = .ok (.aload_n 1, 1) := by decide +kernel
theorem dL_law_792 : decode cL_law 792 = .ok (.aload_n 0, 1) := by decide +kernel
theorem dL_law_793 : decode cL_law 793 = .ok (.iload_n 3, 1) := by decide +kernel
theorem dL_law_794 : decode cL_law 794 = .ok (.iconst 1, 1) := by decide +kernel
theorem dL_law_795 : decode cL_law 795 = .ok (.iadd, 1) := by decide +kernel
theorem dL_law_796 : decode cL_law 796 = .ok (.iaload, 1) := by decide +kernel
theorem dL_law_797 : decode cL_law 797 = .ok (.aload_n 0, 1) := by decide +kernel
theorem dL_law_798 : decode cL_law 798 = .ok (.iload_n 3, 1) := by decide +kernel
theorem dL_law_799 : decode cL_law 799 = .ok (.iconst 2, 1) := by decide +kernel
theorem dL_law_800 : decode cL_law 800 = .ok (.iadd, 1) := by decide +kernel
theorem dL_law_801 : decode cL_law 801 = .ok (.iaload, 1) := by decide +kernel
theorem dL_law_802 : decode cL_law 802 = .ok (.invokevirtual 122, 3) := by decide +kernel
theorem dL_law_805 : decode cL_law 805 = .ok (.aload_n 2, 1) := by decide +kernel
theorem dL_law_806 : decode cL_law 806 = .ok (.aload_n 0, 1) := by decide +kernel
theorem dL_law_807 : decode cL_law 807 = .ok (.iload_n 3, 1) := by decide +kernel
theorem dL_law_808 : decode cL_law 808 = .ok (.iconst 1, 1) := by decide +kernel
theorem dL_law_809 : decode cL_law 809 = .ok (.iadd, 1) := by decide +kernel
theorem dL_law_810 : decode cL_law 810 = .ok (.iaload, 1) := by decide +kernel
theorem dL_law_811 : decode cL_law 811 = .ok (.aload_n 0, 1) := by decide +kernel
theorem dL_law_812 : decode cL_law 812 = .ok (.iload_n 3, 1) := by decide +kernel
theorem dL_law_813 : decode cL_law 813 = .ok (.iconst 2, 1) := by decide +kernel
theorem dL_law_814 : decode cL_law 814 = .ok (.iadd, 1) := by decide +kernel
theorem dL_law_815 : decode cL_law 815 = .ok (.iaload, 1) := by decide +kernel
theorem dL_law_816 : decode cL_law 816 = .ok (.invokevirtual 125, 3) := by decide +kernel
theorem dL_law_819 : decode cL_law 819 = .ok (.if_icmp .eq 88, 3) := by decide +kernel
theorem dL_law_822 : decode cL_law 822 = .ok (.iconst 0, 1) := by decide +kernel
theorem dL_law_823 : decode cL_law 823 = .ok (.ireturn, 1) := by decide +kernel
theorem dL_law_824 : decode cL_law 824 = .ok (.aload_n 1, 1) := by decide +kernel
theorem dL_law_825 : decode cL_law 825 = .ok (.aload_n 0, 1) := by decide +kernel
theorem dL_law_826 : decode cL_law 826 = .ok (.iload_n 3, 1) := by decide +kernel
theorem dL_law_827 : decode cL_law 827 = .ok (.iconst 1, 1) := by decide +kernel
theorem dL_law_828 : decode cL_law 828 = .ok (.iadd, 1) := by decide +kernel
theorem dL_law_829 : decode cL_law 829 = .ok (.iaload, 1) := by decide +kernel
theorem dL_law_830 : decode cL_law 830 = .ok (.invokevirtual 126, 3) := by decide +kernel
theorem dL_law_833 : decode cL_law 833 = .ok (.aload_n 2, 1) := by decide +kernel
theorem dL_law_834 : decode cL_law 834 = .ok (.aload_n 0, 1) := by decide +kernel
theorem dL_law_835 : decode cL_law 835 = .ok (.iload_n 3, 1) := by decide +kernel
theorem dL_law_836 : decode cL_law 836 = .ok (.iconst 1, 1) := by decide +kernel
theorem dL_law_837 : decode cL_law 837 = .ok (.iadd, 1) := by decide +kernel
theorem dL_law_838 : decode cL_law 838 = .ok (.iaload, 1) := by decide +kernel
theorem dL_law_839 : decode cL_law 839 = .ok (.invokevirtual 129, 3) := by decide +kernel
theorem dL_law_842 : decode cL_law 842 = .ok (.if_icmp .eq 65, 3) := by decide +kernel
theorem dL_law_845 : decode cL_law 845 = .ok (.iconst 0, 1) := by decide +kernel
theorem dL_law_846 : decode cL_law 846 = .ok (.ireturn, 1) := by decide +kernel
theorem dL_law_847 : decode cL_law 847 = .ok (.aload_n 1, 1) := by decide +kernel
theorem dL_law_848 : decode cL_law 848 = .ok (.aload_n 0, 1) := by decide +kernel
theorem dL_law_849 : decode cL_law 849 = .ok (.iload_n 3, 1) := by decide +kernel
theorem dL_law_850 : decode cL_law 850 = .ok (.iconst 1, 1) := by decide +kernel
theorem dL_law_851 : decode cL_law 851 = .ok (.iadd, 1) := by decide +kernel
theorem dL_law_852 : decode cL_law 852 = .ok (.iaload, 1) := by decide +kernel
theorem dL_law_853 : decode cL_law 853 = .ok (.invokevirtual 130, 3) := by decide +kernel
theorem dL_law_856 : decode cL_law 856 = .ok (.aload_n 2, 1) := by decide +kernel
theorem dL_law_857 : decode cL_law 857 = .ok (.aload_n 0, 1) := by decide +kernel
theorem dL_law_858 : decode cL_law 858 = .ok (.iload_n 3, 1) := by decide +kernel
theorem dL_law_859 : decode cL_law 859 = .ok (.iconst 1, 1) := by decide +kernel
theorem dL_law_860 : decode cL_law 860 = .ok (.iadd, 1) := by decide +kernel
theorem dL_law_861 : decode cL_law 861 = .ok (.iaload, 1) := by decide +kernel
theorem dL_law_862 : decode cL_law 862 = .ok (.invokevirtual 133, 3) := by decide +kernel
theorem dL_law_865 : decode cL_law 865 = .ok (.if_icmp .eq 42, 3) := by decide +kernel
theorem dL_law_868 : decode cL_law 868 = .ok (.iconst 0, 1) := by decide +kernel
theorem dL_law_869 : decode cL_law 869 = .ok (.ireturn, 1) := by decide +kernel
theorem dL_law_870 : decode cL_law 870 = .ok (.aload_n 1, 1) := by decide +kernel
theorem dL_law_871 : decode cL_law 871 = .ok (.aload_n 0, 1) := by decide +kernel
theorem dL_law_872 : decode cL_law 872 = .ok (.iload_n 3, 1) := by decide +kernel
theorem dL_law_873 : decode cL_law 873 = .ok (.iconst 1, 1) := by decide +kernel
theorem dL_law_874 : decode cL_law 874 = .ok (.iadd, 1) := by decide +kernel
theorem dL_law_875 : decode cL_law 875 = .ok (.iaload, 1) := by decide +kernel
theorem dL_law_876 : decode cL_law 876 = .ok (.invokevirtual 134, 3) := by decide +kernel
theorem dL_law_879 : decode cL_law 879 = .ok (.aload_n 2, 1) := by decide +kernel
theorem dL_law_880 : decode cL_law 880 = .ok (.aload_n 0, 1) := by decide +kernel
theorem dL_law_881 : decode cL_law 881 = .ok (.iload_n 3, 1) := by decide +kernel
theorem dL_law_882 : decode cL_law 882 = .ok (.iconst 1, 1) := by decide +kernel
theorem dL_law_883 : decode cL_law 883 = .ok (.iadd, 1) := by decide +kernel
theorem dL_law_884 : decode cL_law 884 = .ok (.iaload, 1) := by decide +kernel
theorem dL_law_885 : decode cL_law 885 = .ok (.invokevirtual 137, 3) := by decide +kernel
theorem dL_law_888 : decode cL_law 888 = .ok (.if_icmp .eq 19, 3) := by decide +kernel
theorem dL_law_891 : decode cL_law 891 = .ok (.iconst 0, 1) := by decide +kernel
theorem dL_law_892 : decode cL_law 892 = .ok (.ireturn, 1) := by decide +kernel
theorem dL_law_893 : decode cL_law 893 = .ok (.aload_n 1, 1) := by decide +kernel
theorem dL_law_894 : decode cL_law 894 = .ok (.invokevirtual 138, 3) := by decide +kernel
theorem dL_law_897 : decode cL_law 897 = .ok (.aload_n 2, 1) := by decide +kernel
theorem dL_law_898 : decode cL_law 898 = .ok (.invokevirtual 142, 3) := by decide +kernel
theorem dL_law_901 : decode cL_law 901 = .ok (.lcmp, 1) := by decide +kernel
theorem dL_law_902 : decode cL_law 902 = .ok (.ifCond .eq 5, 3) := by decide +kernel
theorem dL_law_905 : decode cL_law 905 = .ok (.iconst 0, 1) := by decide +kernel
theorem dL_law_906 : decode cL_law 906 = .ok (.ireturn, 1) := by decide +kernel
theorem dL_law_907 : decode cL_law 907 = .ok (.iinc 3 4, 3) := by decide +kernel
theorem dL_law_910 : decode cL_law 910 = .ok (.goto (-892), 3) := by decide +kernel
theorem dL_law_913 : decode cL_law 913 = .ok (.iconst 1, 1) := by decide +kernel
theorem dL_law_914 : decode cL_law 914 = .ok (.ireturn, 1) := by decide +kernel
