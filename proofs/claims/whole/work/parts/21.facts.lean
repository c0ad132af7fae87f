/-! what the rules ask, by program: methods, codes, links, cells, references -/
set_option maxRecDepth 4000 in
theorem mq0 : mvMq 0 0 0 0 2 0 (some .int) := ⟨_, rfl, rfl, rfl, rfl, rfl, rfl, rfl⟩
set_option maxRecDepth 4000 in
theorem cd0 : mvCdl[0]? = some mvC0 := rfl
set_option maxRecDepth 4000 in
theorem mq1 : mvMq 1 0 0 0 2 1 (some .int) := ⟨_, rfl, rfl, rfl, rfl, rfl, rfl, rfl⟩
set_option maxRecDepth 4000 in
theorem cd1 : mvCdl[1]? = some mvC1 := rfl
set_option maxRecDepth 4000 in
theorem mq2 : mvMq 2 0 1 0 3 2 (some .long) := ⟨_, rfl, rfl, rfl, rfl, rfl, rfl, rfl⟩
set_option maxRecDepth 4000 in
theorem cd2 : mvCdl[2]? = some mvC2 := rfl
set_option maxRecDepth 4000 in
theorem mq3 : mvMq 3 0 0 0 1 0 (some .boolean) := ⟨_, rfl, rfl, rfl, rfl, rfl, rfl, rfl⟩
set_option maxRecDepth 4000 in
theorem cd3 : mvCdl[3]? = some mvC3 := rfl
set_option maxRecDepth 4000 in
theorem mq4 : mvMq 4 0 1 0 1 1 (some .int) := ⟨_, rfl, rfl, rfl, rfl, rfl, rfl, rfl⟩
set_option maxRecDepth 4000 in
theorem cd4 : mvCdl[4]? = some mvC4 := rfl
set_option maxRecDepth 4000 in
theorem mq5 : mvMq 5 1 0 0 2 1 none := ⟨_, rfl, rfl, rfl, rfl, rfl, rfl, rfl⟩
set_option maxRecDepth 4000 in
theorem cd5 : mvCdl[5]? = some mvC5 := rfl
set_option maxRecDepth 4000 in
theorem mq6 : mvMq 6 1 0 0 3 0 (some .int) := ⟨_, rfl, rfl, rfl, rfl, rfl, rfl, rfl⟩
set_option maxRecDepth 4000 in
theorem cd6 : mvCdl[6]? = some mvC6 := rfl
set_option maxRecDepth 4000 in
theorem mq7 : mvMq 7 1 1 0 1 1 (some .boolean) := ⟨_, rfl, rfl, rfl, rfl, rfl, rfl, rfl⟩
set_option maxRecDepth 4000 in
theorem cd7 : mvCdl[7]? = some mvC7 := rfl
set_option maxRecDepth 4000 in
theorem mq8 : mvMq 8 2 0 0 2 1 (some .boolean) := ⟨_, rfl, rfl, rfl, rfl, rfl, rfl, rfl⟩
set_option maxRecDepth 4000 in
theorem cd8 : mvCdl[8]? = some mvC8 := rfl
set_option maxRecDepth 4000 in
theorem mq9 : mvMq 9 2 0 0 2 1 (some .boolean) := ⟨_, rfl, rfl, rfl, rfl, rfl, rfl, rfl⟩
set_option maxRecDepth 4000 in
theorem cd9 : mvCdl[9]? = some mvC9 := rfl
set_option maxRecDepth 4000 in
theorem mq10 : mvMq 10 2 0 0 5 3 none := ⟨_, rfl, rfl, rfl, rfl, rfl, rfl, rfl⟩
set_option maxRecDepth 4000 in
theorem cd10 : mvCdl[10]? = some mvC10 := rfl
set_option maxRecDepth 4000 in
theorem mq11 : mvMq 11 2 0 0 3 1 (some .boolean) := ⟨_, rfl, rfl, rfl, rfl, rfl, rfl, rfl⟩
set_option maxRecDepth 4000 in
theorem cd11 : mvCdl[11]? = some mvC11 := rfl
set_option maxRecDepth 4000 in
theorem mq12 : mvMq 12 2 0 0 2 1 none := ⟨_, rfl, rfl, rfl, rfl, rfl, rfl, rfl⟩
set_option maxRecDepth 4000 in
theorem cd12 : mvCdl[12]? = some mvC12 := rfl
set_option maxRecDepth 4000 in
theorem mq13 : mvMq 13 2 0 0 6 2 (some .boolean) := ⟨_, rfl, rfl, rfl, rfl, rfl, rfl, rfl⟩
set_option maxRecDepth 4000 in
theorem cd13 : mvCdl[13]? = some mvC13 := rfl
set_option maxRecDepth 4000 in
theorem mq14 : mvMq 14 2 1 0 2 1 (some .int) := ⟨_, rfl, rfl, rfl, rfl, rfl, rfl, rfl⟩
set_option maxRecDepth 4000 in
theorem cd14 : mvCdl[14]? = some mvC14 := rfl
set_option maxRecDepth 4000 in
theorem mq15 : mvMq 15 2 0 0 6 1 none := ⟨_, rfl, rfl, rfl, rfl, rfl, rfl, rfl⟩
set_option maxRecDepth 4000 in
theorem cd15 : mvCdl[15]? = some mvC15 := rfl
set_option maxRecDepth 4000 in
theorem mq16 : mvMq 16 2 0 0 3 2 (some .int) := ⟨_, rfl, rfl, rfl, rfl, rfl, rfl, rfl⟩
set_option maxRecDepth 4000 in
theorem cd16 : mvCdl[16]? = some mvC16 := rfl
set_option maxRecDepth 4000 in
theorem mq17 : mvMq 17 2 0 0 3 2 (some .int) := ⟨_, rfl, rfl, rfl, rfl, rfl, rfl, rfl⟩
set_option maxRecDepth 4000 in
theorem cd17 : mvCdl[17]? = some mvC17 := rfl
set_option maxRecDepth 4000 in
theorem mq18 : mvMq 18 2 0 0 3 2 (some .int) := ⟨_, rfl, rfl, rfl, rfl, rfl, rfl, rfl⟩
set_option maxRecDepth 4000 in
theorem cd18 : mvCdl[18]? = some mvC18 := rfl
set_option maxRecDepth 4000 in
theorem mq19 : mvMq 19 2 0 0 5 4 (some .boolean) := ⟨_, rfl, rfl, rfl, rfl, rfl, rfl, rfl⟩
set_option maxRecDepth 4000 in
theorem cd19 : mvCdl[19]? = some mvC19 := rfl
set_option maxRecDepth 4000 in
theorem mq20 : mvMq 20 2 0 0 5 2 (some .boolean) := ⟨_, rfl, rfl, rfl, rfl, rfl, rfl, rfl⟩
set_option maxRecDepth 4000 in
theorem cd20 : mvCdl[20]? = some mvC20 := rfl
set_option maxRecDepth 4000 in
theorem mq21 : mvMq 21 2 0 0 5 1 (some .int) := ⟨_, rfl, rfl, rfl, rfl, rfl, rfl, rfl⟩
set_option maxRecDepth 4000 in
theorem cd21 : mvCdl[21]? = some mvC21 := rfl
set_option maxRecDepth 4000 in
theorem mq22 : mvMq 22 2 0 0 4 1 (some .boolean) := ⟨_, rfl, rfl, rfl, rfl, rfl, rfl, rfl⟩
set_option maxRecDepth 4000 in
theorem cd22 : mvCdl[22]? = some mvC22 := rfl
set_option maxRecDepth 4000 in
theorem mq23 : mvMq 23 2 0 0 3 2 (some .int) := ⟨_, rfl, rfl, rfl, rfl, rfl, rfl, rfl⟩
set_option maxRecDepth 4000 in
theorem cd23 : mvCdl[23]? = some mvC23 := rfl
set_option maxRecDepth 4000 in
theorem mq24 : mvMq 24 2 0 0 3 2 (some .int) := ⟨_, rfl, rfl, rfl, rfl, rfl, rfl, rfl⟩
set_option maxRecDepth 4000 in
theorem cd24 : mvCdl[24]? = some mvC24 := rfl
set_option maxRecDepth 4000 in
theorem mq25 : mvMq 25 2 0 0 3 2 (some .int) := ⟨_, rfl, rfl, rfl, rfl, rfl, rfl, rfl⟩
set_option maxRecDepth 4000 in
theorem cd25 : mvCdl[25]? = some mvC25 := rfl
set_option maxRecDepth 4000 in
theorem mq26 : mvMq 26 3 0 0 2 1 (some .int) := ⟨_, rfl, rfl, rfl, rfl, rfl, rfl, rfl⟩
set_option maxRecDepth 4000 in
theorem cd26 : mvCdl[26]? = some mvC26 := rfl
set_option maxRecDepth 4000 in
theorem mq27 : mvMq 27 3 0 0 2 1 (some .int) := ⟨_, rfl, rfl, rfl, rfl, rfl, rfl, rfl⟩
set_option maxRecDepth 4000 in
theorem cd27 : mvCdl[27]? = some mvC27 := rfl
set_option maxRecDepth 4000 in
theorem mq28 : mvMq 28 4 0 0 3 2 (some .boolean) := ⟨_, rfl, rfl, rfl, rfl, rfl, rfl, rfl⟩
set_option maxRecDepth 4000 in
theorem cd28 : mvCdl[28]? = some mvC28 := rfl
set_option maxRecDepth 4000 in
theorem mq29 : mvMq 29 5 0 0 2 1 (some .int) := ⟨_, rfl, rfl, rfl, rfl, rfl, rfl, rfl⟩
set_option maxRecDepth 4000 in
theorem cd29 : mvCdl[29]? = some mvC29 := rfl
set_option maxRecDepth 4000 in
theorem mq30 : mvMq 30 5 0 0 1 0 (some .int) := ⟨_, rfl, rfl, rfl, rfl, rfl, rfl, rfl⟩
set_option maxRecDepth 4000 in
theorem cd30 : mvCdl[30]? = some mvC30 := rfl
set_option maxRecDepth 4000 in
theorem mq31 : mvMq 31 6 0 0 3 2 none := ⟨_, rfl, rfl, rfl, rfl, rfl, rfl, rfl⟩
set_option maxRecDepth 4000 in
theorem cd31 : mvCdl[31]? = some mvC31 := rfl
set_option maxRecDepth 4000 in
theorem mq32 : mvMq 32 6 0 0 3 2 (some .int) := ⟨_, rfl, rfl, rfl, rfl, rfl, rfl, rfl⟩
set_option maxRecDepth 4000 in
theorem cd32 : mvCdl[32]? = some mvC32 := rfl
set_option maxRecDepth 4000 in
theorem mq33 : mvMq 33 6 0 0 3 2 (some .int) := ⟨_, rfl, rfl, rfl, rfl, rfl, rfl, rfl⟩
set_option maxRecDepth 4000 in
theorem cd33 : mvCdl[33]? = some mvC33 := rfl
set_option maxRecDepth 4000 in
theorem mq34 : mvMq 34 6 0 0 3 1 none := ⟨_, rfl, rfl, rfl, rfl, rfl, rfl, rfl⟩
set_option maxRecDepth 4000 in
theorem cd34 : mvCdl[34]? = some mvC34 := rfl
set_option maxRecDepth 4000 in
theorem mq35 : mvMq 35 7 0 0 1 0 none := ⟨_, rfl, rfl, rfl, rfl, rfl, rfl, rfl⟩
set_option maxRecDepth 4000 in
theorem cd35 : mvCdl[35]? = some mvC35 := rfl
set_option maxRecDepth 4000 in
theorem mq36 : mvMq 36 9 0 0 3 1 (some .int) := ⟨_, rfl, rfl, rfl, rfl, rfl, rfl, rfl⟩
set_option maxRecDepth 4000 in
theorem cd36 : mvCdl[36]? = some mvC36 := rfl
set_option maxRecDepth 4000 in
theorem mq37 : mvMq 37 9 0 0 2 1 (some .int) := ⟨_, rfl, rfl, rfl, rfl, rfl, rfl, rfl⟩
set_option maxRecDepth 4000 in
theorem cd37 : mvCdl[37]? = some mvC37 := rfl
set_option maxRecDepth 4000 in
theorem mq38 : mvMq 38 10 1 0 3 3 (some .boolean) := ⟨_, rfl, rfl, rfl, rfl, rfl, rfl, rfl⟩
set_option maxRecDepth 4000 in
theorem cd38 : mvCdl[38]? = some mvC38 := rfl
set_option maxRecDepth 4000 in
theorem mq39 : mvMq 39 10 0 0 2 0 (some .int) := ⟨_, rfl, rfl, rfl, rfl, rfl, rfl, rfl⟩
set_option maxRecDepth 4000 in
theorem cd39 : mvCdl[39]? = some mvC39 := rfl
set_option maxRecDepth 4000 in
theorem mq40 : mvMq 40 10 0 0 4 2 (some .boolean) := ⟨_, rfl, rfl, rfl, rfl, rfl, rfl, rfl⟩
set_option maxRecDepth 4000 in
theorem cd40 : mvCdl[40]? = some mvC40 := rfl
set_option maxRecDepth 4000 in
theorem mq41 : mvMq 41 10 0 0 5 0 (some .boolean) := ⟨_, rfl, rfl, rfl, rfl, rfl, rfl, rfl⟩
set_option maxRecDepth 4000 in
theorem cd41 : mvCdl[41]? = some mvC41 := rfl
set_option maxRecDepth 4000 in
theorem mq42 : mvMq 42 10 0 0 8 4 (some .int) := ⟨_, rfl, rfl, rfl, rfl, rfl, rfl, rfl⟩
set_option maxRecDepth 4000 in
theorem cd42 : mvCdl[42]? = some mvC42 := rfl
set_option maxRecDepth 4000 in
theorem mq43 : mvMq 43 10 0 0 1 0 (some .boolean) := ⟨_, rfl, rfl, rfl, rfl, rfl, rfl, rfl⟩
set_option maxRecDepth 4000 in
theorem cd43 : mvCdl[43]? = some mvC43 := rfl
set_option maxRecDepth 4000 in
theorem mq44 : mvMq 44 10 0 0 8 4 (some .int) := ⟨_, rfl, rfl, rfl, rfl, rfl, rfl, rfl⟩
set_option maxRecDepth 4000 in
theorem cd44 : mvCdl[44]? = some mvC44 := rfl
set_option maxRecDepth 4000 in
theorem mq45 : mvMq 45 10 0 0 8 2 none := ⟨_, rfl, rfl, rfl, rfl, rfl, rfl, rfl⟩
set_option maxRecDepth 4000 in
theorem cd45 : mvCdl[45]? = some mvC45 := rfl
set_option maxRecDepth 4000 in
theorem mq46 : mvMq 46 10 0 0 3 0 (some .int) := ⟨_, rfl, rfl, rfl, rfl, rfl, rfl, rfl⟩
set_option maxRecDepth 4000 in
theorem cd46 : mvCdl[46]? = some mvC46 := rfl
set_option maxRecDepth 4000 in
theorem mq47 : mvMq 47 10 0 0 5 3 (some .int) := ⟨_, rfl, rfl, rfl, rfl, rfl, rfl, rfl⟩
set_option maxRecDepth 4000 in
theorem cd47 : mvCdl[47]? = some mvC47 := rfl
set_option maxRecDepth 4000 in
theorem mq48 : mvMq 48 10 0 0 5 4 (some .boolean) := ⟨_, rfl, rfl, rfl, rfl, rfl, rfl, rfl⟩
set_option maxRecDepth 4000 in
theorem cd48 : mvCdl[48]? = some mvC48 := rfl
set_option maxRecDepth 4000 in
theorem mq49 : mvMq 49 10 0 0 3 0 (some .int) := ⟨_, rfl, rfl, rfl, rfl, rfl, rfl, rfl⟩
set_option maxRecDepth 4000 in
theorem cd49 : mvCdl[49]? = some mvC49 := rfl
set_option maxRecDepth 4000 in
theorem mq50 : mvMq 50 10 0 0 4 1 none := ⟨_, rfl, rfl, rfl, rfl, rfl, rfl, rfl⟩
set_option maxRecDepth 4000 in
theorem cd50 : mvCdl[50]? = some mvC50 := rfl
set_option maxRecDepth 4000 in
theorem mq51 : mvMq 51 10 0 0 4 1 (some .int) := ⟨_, rfl, rfl, rfl, rfl, rfl, rfl, rfl⟩
set_option maxRecDepth 4000 in
theorem cd51 : mvCdl[51]? = some mvC51 := rfl
set_option maxRecDepth 4000 in
theorem mq52 : mvMq 52 10 0 0 3 0 (some .int) := ⟨_, rfl, rfl, rfl, rfl, rfl, rfl, rfl⟩
set_option maxRecDepth 4000 in
theorem cd52 : mvCdl[52]? = some mvC52 := rfl
set_option maxRecDepth 4000 in
theorem mq53 : mvMq 53 10 0 0 3 0 (some .int) := ⟨_, rfl, rfl, rfl, rfl, rfl, rfl, rfl⟩
set_option maxRecDepth 4000 in
theorem cd53 : mvCdl[53]? = some mvC53 := rfl
set_option maxRecDepth 4000 in
theorem mq54 : mvMq 54 10 0 0 5 1 (some .boolean) := ⟨_, rfl, rfl, rfl, rfl, rfl, rfl, rfl⟩
set_option maxRecDepth 4000 in
theorem cd54 : mvCdl[54]? = some mvC54 := rfl
set_option maxRecDepth 4000 in
theorem mq55 : mvMq 55 10 0 0 4 0 (some .boolean) := ⟨_, rfl, rfl, rfl, rfl, rfl, rfl, rfl⟩
set_option maxRecDepth 4000 in
theorem cd55 : mvCdl[55]? = some mvC55 := rfl
set_option maxRecDepth 4000 in
theorem mq56 : mvMq 56 10 0 0 3 0 (some .int) := ⟨_, rfl, rfl, rfl, rfl, rfl, rfl, rfl⟩
set_option maxRecDepth 4000 in
theorem cd56 : mvCdl[56]? = some mvC56 := rfl
set_option maxRecDepth 4000 in
theorem mq57 : mvMq 57 10 0 0 6 2 (some .int) := ⟨_, rfl, rfl, rfl, rfl, rfl, rfl, rfl⟩
set_option maxRecDepth 4000 in
theorem cd57 : mvCdl[57]? = some mvC57 := rfl
set_option maxRecDepth 4000 in
theorem mq58 : mvMq 58 10 0 0 7 2 (some .int) := ⟨_, rfl, rfl, rfl, rfl, rfl, rfl, rfl⟩
set_option maxRecDepth 4000 in
theorem cd58 : mvCdl[58]? = some mvC58 := rfl
set_option maxRecDepth 4000 in
theorem mq59 : mvMq 59 10 0 0 2 0 none := ⟨_, rfl, rfl, rfl, rfl, rfl, rfl, rfl⟩
set_option maxRecDepth 4000 in
theorem cd59 : mvCdl[59]? = some mvC59 := rfl
set_option maxRecDepth 4000 in
theorem mq60 : mvMq 60 10 0 0 2 1 (some .int) := ⟨_, rfl, rfl, rfl, rfl, rfl, rfl, rfl⟩
set_option maxRecDepth 4000 in
theorem cd60 : mvCdl[60]? = some mvC60 := rfl
set_option maxRecDepth 4000 in
theorem mq61 : mvMq 61 10 0 0 3 1 (some .boolean) := ⟨_, rfl, rfl, rfl, rfl, rfl, rfl, rfl⟩
set_option maxRecDepth 4000 in
theorem cd61 : mvCdl[61]? = some mvC61 := rfl
set_option maxRecDepth 4000 in
theorem mq62 : mvMq 62 10 0 0 2 1 (some .int) := ⟨_, rfl, rfl, rfl, rfl, rfl, rfl, rfl⟩
set_option maxRecDepth 4000 in
theorem cd62 : mvCdl[62]? = some mvC62 := rfl
set_option maxRecDepth 4000 in
theorem mq63 : mvMq 63 10 0 0 5 1 (some .int) := ⟨_, rfl, rfl, rfl, rfl, rfl, rfl, rfl⟩
set_option maxRecDepth 4000 in
theorem cd63 : mvCdl[63]? = some mvC63 := rfl
set_option maxRecDepth 4000 in
theorem mq64 : mvMq 64 10 0 0 3 1 none := ⟨_, rfl, rfl, rfl, rfl, rfl, rfl, rfl⟩
set_option maxRecDepth 4000 in
theorem cd64 : mvCdl[64]? = some mvC64 := rfl
set_option maxRecDepth 4000 in
theorem mq65 : mvMq 65 13 1 0 4 2 none := ⟨_, rfl, rfl, rfl, rfl, rfl, rfl, rfl⟩
set_option maxRecDepth 4000 in
theorem cd65 : mvCdl[65]? = some mvC65 := rfl
set_option maxRecDepth 4000 in
theorem mq66 : mvMq 66 15 1 0 1 1 (some .int) := ⟨_, rfl, rfl, rfl, rfl, rfl, rfl, rfl⟩
set_option maxRecDepth 4000 in
theorem cd66 : mvCdl[66]? = some mvC66 := rfl
set_option maxRecDepth 4000 in
theorem mq67 : mvMq 67 0 0 1 2 1 (some .int) := ⟨_, rfl, rfl, rfl, rfl, rfl, rfl, rfl⟩
set_option maxRecDepth 4000 in
theorem cd67 : mvCdl[67]? = some mvC67 := rfl
set_option maxRecDepth 4000 in
theorem mq68 : mvMq 68 0 0 1 3 2 (some .int) := ⟨_, rfl, rfl, rfl, rfl, rfl, rfl, rfl⟩
set_option maxRecDepth 4000 in
theorem cd68 : mvCdl[68]? = some mvC68 := rfl
set_option maxRecDepth 4000 in
theorem mq69 : mvMq 69 0 0 1 2 1 (some .int) := ⟨_, rfl, rfl, rfl, rfl, rfl, rfl, rfl⟩
set_option maxRecDepth 4000 in
theorem cd69 : mvCdl[69]? = some mvC69 := rfl
set_option maxRecDepth 4000 in
theorem mq70 : mvMq 70 0 0 1 2 1 (some .int) := ⟨_, rfl, rfl, rfl, rfl, rfl, rfl, rfl⟩
set_option maxRecDepth 4000 in
theorem cd70 : mvCdl[70]? = some mvC70 := rfl
set_option maxRecDepth 4000 in
theorem mq71 : mvMq 71 0 0 1 4 1 (some .long) := ⟨_, rfl, rfl, rfl, rfl, rfl, rfl, rfl⟩
set_option maxRecDepth 4000 in
theorem cd71 : mvCdl[71]? = some mvC71 := rfl
set_option maxRecDepth 4000 in
theorem mq72 : mvMq 72 0 0 1 1 0 (some .boolean) := ⟨_, rfl, rfl, rfl, rfl, rfl, rfl, rfl⟩
set_option maxRecDepth 4000 in
theorem cd72 : mvCdl[72]? = some mvC72 := rfl
set_option maxRecDepth 4000 in
theorem mq73 : mvMq 73 0 0 1 1 0 none := ⟨_, rfl, rfl, rfl, rfl, rfl, rfl, rfl⟩
set_option maxRecDepth 4000 in
theorem cd73 : mvCdl[73]? = some mvC73 := rfl
set_option maxRecDepth 4000 in
theorem mq74 : mvMq 74 1 2 1 1 0 none := ⟨_, rfl, rfl, rfl, rfl, rfl, rfl, rfl⟩
set_option maxRecDepth 4000 in
theorem cd74 : mvCdl[74]? = some mvC74 := rfl
set_option maxRecDepth 4000 in
theorem mq75 : mvMq 75 1 0 1 7 0 (some .int) := ⟨_, rfl, rfl, rfl, rfl, rfl, rfl, rfl⟩
set_option maxRecDepth 4000 in
theorem cd75 : mvCdl[75]? = some mvC75 := rfl
set_option maxRecDepth 4000 in
theorem mq76 : mvMq 76 2 2 1 1 0 none := ⟨_, rfl, rfl, rfl, rfl, rfl, rfl, rfl⟩
set_option maxRecDepth 4000 in
theorem cd76 : mvCdl[76]? = some mvC76 := rfl
set_option maxRecDepth 4000 in
theorem mq77 : mvMq 77 2 0 1 2 1 none := ⟨_, rfl, rfl, rfl, rfl, rfl, rfl, rfl⟩
set_option maxRecDepth 4000 in
theorem cd77 : mvCdl[77]? = some mvC77 := rfl
set_option maxRecDepth 4000 in
theorem mq78 : mvMq 78 2 0 1 3 2 (some .boolean) := ⟨_, rfl, rfl, rfl, rfl, rfl, rfl, rfl⟩
set_option maxRecDepth 4000 in
theorem cd78 : mvCdl[78]? = some mvC78 := rfl
set_option maxRecDepth 4000 in
theorem mq79 : mvMq 79 2 0 1 3 2 (some .boolean) := ⟨_, rfl, rfl, rfl, rfl, rfl, rfl, rfl⟩
set_option maxRecDepth 4000 in
theorem cd79 : mvCdl[79]? = some mvC79 := rfl
set_option maxRecDepth 4000 in
theorem mq80 : mvMq 80 2 0 1 3 0 (some .boolean) := ⟨_, rfl, rfl, rfl, rfl, rfl, rfl, rfl⟩
set_option maxRecDepth 4000 in
theorem cd80 : mvCdl[80]? = some mvC80 := rfl
set_option maxRecDepth 4000 in
theorem mq81 : mvMq 81 2 0 1 7 2 none := ⟨_, rfl, rfl, rfl, rfl, rfl, rfl, rfl⟩
set_option maxRecDepth 4000 in
theorem cd81 : mvCdl[81]? = some mvC81 := rfl
set_option maxRecDepth 4000 in
theorem mq82 : mvMq 82 2 0 1 6 3 (some .int) := ⟨_, rfl, rfl, rfl, rfl, rfl, rfl, rfl⟩
set_option maxRecDepth 4000 in
theorem cd82 : mvCdl[82]? = some mvC82 := rfl
set_option maxRecDepth 4000 in
theorem mq83 : mvMq 83 2 0 1 4 2 (some .boolean) := ⟨_, rfl, rfl, rfl, rfl, rfl, rfl, rfl⟩
set_option maxRecDepth 4000 in
theorem cd83 : mvCdl[83]? = some mvC83 := rfl
set_option maxRecDepth 4000 in
theorem mq84 : mvMq 84 2 0 1 5 2 (some .boolean) := ⟨_, rfl, rfl, rfl, rfl, rfl, rfl, rfl⟩
set_option maxRecDepth 4000 in
theorem cd84 : mvCdl[84]? = some mvC84 := rfl
set_option maxRecDepth 4000 in
theorem mq85 : mvMq 85 2 0 1 4 1 (some .int) := ⟨_, rfl, rfl, rfl, rfl, rfl, rfl, rfl⟩
set_option maxRecDepth 4000 in
theorem cd85 : mvCdl[85]? = some mvC85 := rfl
set_option maxRecDepth 4000 in
theorem mq86 : mvMq 86 2 0 1 8 3 (some .int) := ⟨_, rfl, rfl, rfl, rfl, rfl, rfl, rfl⟩
set_option maxRecDepth 4000 in
theorem cd86 : mvCdl[86]? = some mvC86 := rfl
set_option maxRecDepth 4000 in
theorem mq87 : mvMq 87 2 0 1 8 3 (some .int) := ⟨_, rfl, rfl, rfl, rfl, rfl, rfl, rfl⟩
set_option maxRecDepth 4000 in
theorem cd87 : mvCdl[87]? = some mvC87 := rfl
set_option maxRecDepth 4000 in
theorem mq88 : mvMq 88 3 2 1 1 0 none := ⟨_, rfl, rfl, rfl, rfl, rfl, rfl, rfl⟩
set_option maxRecDepth 4000 in
theorem cd88 : mvCdl[88]? = some mvC88 := rfl
set_option maxRecDepth 4000 in
theorem mq89 : mvMq 89 3 0 1 4 1 none := ⟨_, rfl, rfl, rfl, rfl, rfl, rfl, rfl⟩
set_option maxRecDepth 4000 in
theorem cd89 : mvCdl[89]? = some mvC89 := rfl
set_option maxRecDepth 4000 in
theorem mq90 : mvMq 90 3 0 1 3 0 none := ⟨_, rfl, rfl, rfl, rfl, rfl, rfl, rfl⟩
set_option maxRecDepth 4000 in
theorem cd90 : mvCdl[90]? = some mvC90 := rfl
set_option maxRecDepth 4000 in
theorem mq91 : mvMq 91 3 0 1 3 0 (some .int) := ⟨_, rfl, rfl, rfl, rfl, rfl, rfl, rfl⟩
set_option maxRecDepth 4000 in
theorem cd91 : mvCdl[91]? = some mvC91 := rfl
set_option maxRecDepth 4000 in
theorem mq92 : mvMq 92 3 0 1 5 2 (some .int) := ⟨_, rfl, rfl, rfl, rfl, rfl, rfl, rfl⟩
set_option maxRecDepth 4000 in
theorem cd92 : mvCdl[92]? = some mvC92 := rfl
set_option maxRecDepth 4000 in
theorem mq93 : mvMq 93 4 2 1 1 0 none := ⟨_, rfl, rfl, rfl, rfl, rfl, rfl, rfl⟩
set_option maxRecDepth 4000 in
theorem cd93 : mvCdl[93]? = some mvC93 := rfl
set_option maxRecDepth 4000 in
theorem mq94 : mvMq 94 4 0 1 1 0 none := ⟨_, rfl, rfl, rfl, rfl, rfl, rfl, rfl⟩
set_option maxRecDepth 4000 in
theorem cd94 : mvCdl[94]? = some mvC94 := rfl
set_option maxRecDepth 4000 in
theorem mq95 : mvMq 95 4 0 1 4 2 (some .boolean) := ⟨_, rfl, rfl, rfl, rfl, rfl, rfl, rfl⟩
set_option maxRecDepth 4000 in
theorem cd95 : mvCdl[95]? = some mvC95 := rfl
set_option maxRecDepth 4000 in
theorem mq96 : mvMq 96 4 1 1 4 2 (some .int) := ⟨_, rfl, rfl, rfl, rfl, rfl, rfl, rfl⟩
set_option maxRecDepth 4000 in
theorem cd96 : mvCdl[96]? = some mvC96 := rfl
set_option maxRecDepth 4000 in
theorem mq97 : mvMq 97 4 1 1 6 2 (some .int) := ⟨_, rfl, rfl, rfl, rfl, rfl, rfl, rfl⟩
set_option maxRecDepth 4000 in
theorem cd97 : mvCdl[97]? = some mvC97 := rfl
set_option maxRecDepth 4000 in
theorem mq98 : mvMq 98 5 2 1 1 0 none := ⟨_, rfl, rfl, rfl, rfl, rfl, rfl, rfl⟩
set_option maxRecDepth 4000 in
theorem cd98 : mvCdl[98]? = some mvC98 := rfl
set_option maxRecDepth 4000 in
theorem mq99 : mvMq 99 6 2 1 1 0 none := ⟨_, rfl, rfl, rfl, rfl, rfl, rfl, rfl⟩
set_option maxRecDepth 4000 in
theorem cd99 : mvCdl[99]? = some mvC99 := rfl
set_option maxRecDepth 4000 in
theorem mq100 : mvMq 100 6 0 1 7 2 none := ⟨_, rfl, rfl, rfl, rfl, rfl, rfl, rfl⟩
set_option maxRecDepth 4000 in
theorem cd100 : mvCdl[100]? = some mvC100 := rfl
set_option maxRecDepth 4000 in
theorem mq101 : mvMq 101 6 0 1 6 3 (some .boolean) := ⟨_, rfl, rfl, rfl, rfl, rfl, rfl, rfl⟩
set_option maxRecDepth 4000 in
theorem cd101 : mvCdl[101]? = some mvC101 := rfl
set_option maxRecDepth 4000 in
theorem mq102 : mvMq 102 7 1 1 5 4 (some .boolean) := ⟨_, rfl, rfl, rfl, rfl, rfl, rfl, rfl⟩
set_option maxRecDepth 4000 in
theorem cd102 : mvCdl[102]? = some mvC102 := rfl
set_option maxRecDepth 4000 in
theorem mq103 : mvMq 103 7 0 1 2 1 (some .int) := ⟨_, rfl, rfl, rfl, rfl, rfl, rfl, rfl⟩
set_option maxRecDepth 4000 in
theorem cd103 : mvCdl[103]? = some mvC103 := rfl
set_option maxRecDepth 4000 in
theorem mq104 : mvMq 104 8 2 1 1 0 none := ⟨_, rfl, rfl, rfl, rfl, rfl, rfl, rfl⟩
set_option maxRecDepth 4000 in
theorem cd104 : mvCdl[104]? = some mvC104 := rfl
set_option maxRecDepth 4000 in
theorem mq105 : mvMq 105 8 1 1 7 2 (some .int) := ⟨_, rfl, rfl, rfl, rfl, rfl, rfl, rfl⟩
set_option maxRecDepth 4000 in
theorem cd105 : mvCdl[105]? = some mvC105 := rfl
set_option maxRecDepth 4000 in
theorem mq106 : mvMq 106 9 2 1 1 0 none := ⟨_, rfl, rfl, rfl, rfl, rfl, rfl, rfl⟩
set_option maxRecDepth 4000 in
theorem cd106 : mvCdl[106]? = some mvC106 := rfl
set_option maxRecDepth 4000 in
theorem mq107 : mvMq 107 9 0 1 1 0 none := ⟨_, rfl, rfl, rfl, rfl, rfl, rfl, rfl⟩
set_option maxRecDepth 4000 in
theorem cd107 : mvCdl[107]? = some mvC107 := rfl
set_option maxRecDepth 4000 in
theorem mq108 : mvMq 108 9 0 1 6 2 none := ⟨_, rfl, rfl, rfl, rfl, rfl, rfl, rfl⟩
set_option maxRecDepth 4000 in
theorem cd108 : mvCdl[108]? = some mvC108 := rfl
set_option maxRecDepth 4000 in
theorem mq109 : mvMq 109 9 0 1 5 2 none := ⟨_, rfl, rfl, rfl, rfl, rfl, rfl, rfl⟩
set_option maxRecDepth 4000 in
theorem cd109 : mvCdl[109]? = some mvC109 := rfl
set_option maxRecDepth 4000 in
theorem mq110 : mvMq 110 10 2 1 1 0 none := ⟨_, rfl, rfl, rfl, rfl, rfl, rfl, rfl⟩
set_option maxRecDepth 4000 in
theorem cd110 : mvCdl[110]? = some mvC110 := rfl
set_option maxRecDepth 4000 in
theorem mq111 : mvMq 111 10 0 1 2 1 (some .int) := ⟨_, rfl, rfl, rfl, rfl, rfl, rfl, rfl⟩
set_option maxRecDepth 4000 in
theorem cd111 : mvCdl[111]? = some mvC111 := rfl
set_option maxRecDepth 4000 in
theorem mq112 : mvMq 112 10 0 1 3 1 (some .boolean) := ⟨_, rfl, rfl, rfl, rfl, rfl, rfl, rfl⟩
set_option maxRecDepth 4000 in
theorem cd112 : mvCdl[112]? = some mvC112 := rfl
set_option maxRecDepth 4000 in
theorem mq113 : mvMq 113 10 0 1 4 1 (some .boolean) := ⟨_, rfl, rfl, rfl, rfl, rfl, rfl, rfl⟩
set_option maxRecDepth 4000 in
theorem cd113 : mvCdl[113]? = some mvC113 := rfl
set_option maxRecDepth 4000 in
theorem mq114 : mvMq 114 10 0 1 7 4 (some .int) := ⟨_, rfl, rfl, rfl, rfl, rfl, rfl, rfl⟩
set_option maxRecDepth 4000 in
theorem cd114 : mvCdl[114]? = some mvC114 := rfl
set_option maxRecDepth 4000 in
theorem mq115 : mvMq 115 10 0 1 4 0 none := ⟨_, rfl, rfl, rfl, rfl, rfl, rfl, rfl⟩
set_option maxRecDepth 4000 in
theorem cd115 : mvCdl[115]? = some mvC115 := rfl
set_option maxRecDepth 4000 in
theorem mq116 : mvMq 116 10 0 1 2 1 (some .boolean) := ⟨_, rfl, rfl, rfl, rfl, rfl, rfl, rfl⟩
set_option maxRecDepth 4000 in
theorem cd116 : mvCdl[116]? = some mvC116 := rfl
set_option maxRecDepth 4000 in
theorem mq117 : mvMq 117 10 0 1 2 1 (some .boolean) := ⟨_, rfl, rfl, rfl, rfl, rfl, rfl, rfl⟩
set_option maxRecDepth 4000 in
theorem cd117 : mvCdl[117]? = some mvC117 := rfl
set_option maxRecDepth 4000 in
theorem mq118 : mvMq 118 10 0 1 5 4 (some .int) := ⟨_, rfl, rfl, rfl, rfl, rfl, rfl, rfl⟩
set_option maxRecDepth 4000 in
theorem cd118 : mvCdl[118]? = some mvC118 := rfl
set_option maxRecDepth 4000 in
theorem mq119 : mvMq 119 10 0 1 2 1 (some .int) := ⟨_, rfl, rfl, rfl, rfl, rfl, rfl, rfl⟩
set_option maxRecDepth 4000 in
theorem cd119 : mvCdl[119]? = some mvC119 := rfl
set_option maxRecDepth 4000 in
theorem mq120 : mvMq 120 10 0 1 5 0 (some .int) := ⟨_, rfl, rfl, rfl, rfl, rfl, rfl, rfl⟩
set_option maxRecDepth 4000 in
theorem cd120 : mvCdl[120]? = some mvC120 := rfl
set_option maxRecDepth 4000 in
theorem mq121 : mvMq 121 10 0 1 3 2 (some .boolean) := ⟨_, rfl, rfl, rfl, rfl, rfl, rfl, rfl⟩
set_option maxRecDepth 4000 in
theorem cd121 : mvCdl[121]? = some mvC121 := rfl
set_option maxRecDepth 4000 in
theorem mq122 : mvMq 122 10 0 1 3 0 (some .int) := ⟨_, rfl, rfl, rfl, rfl, rfl, rfl, rfl⟩
set_option maxRecDepth 4000 in
theorem cd122 : mvCdl[122]? = some mvC122 := rfl
set_option maxRecDepth 4000 in
theorem mq123 : mvMq 123 10 0 1 5 0 (some .int) := ⟨_, rfl, rfl, rfl, rfl, rfl, rfl, rfl⟩
set_option maxRecDepth 4000 in
theorem cd123 : mvCdl[123]? = some mvC123 := rfl
set_option maxRecDepth 4000 in
theorem mq124 : mvMq 124 10 0 1 3 2 (some .boolean) := ⟨_, rfl, rfl, rfl, rfl, rfl, rfl, rfl⟩
set_option maxRecDepth 4000 in
theorem cd124 : mvCdl[124]? = some mvC124 := rfl
set_option maxRecDepth 4000 in
theorem mq125 : mvMq 125 10 0 1 7 3 (some .int) := ⟨_, rfl, rfl, rfl, rfl, rfl, rfl, rfl⟩
set_option maxRecDepth 4000 in
theorem cd125 : mvCdl[125]? = some mvC125 := rfl
set_option maxRecDepth 4000 in
theorem mq126 : mvMq 126 10 0 1 4 1 (some .int) := ⟨_, rfl, rfl, rfl, rfl, rfl, rfl, rfl⟩
set_option maxRecDepth 4000 in
theorem cd126 : mvCdl[126]? = some mvC126 := rfl
set_option maxRecDepth 4000 in
theorem mq127 : mvMq 127 10 0 1 3 0 (some .int) := ⟨_, rfl, rfl, rfl, rfl, rfl, rfl, rfl⟩
set_option maxRecDepth 4000 in
theorem cd127 : mvCdl[127]? = some mvC127 := rfl
set_option maxRecDepth 4000 in
theorem mq128 : mvMq 128 10 0 1 5 2 (some .int) := ⟨_, rfl, rfl, rfl, rfl, rfl, rfl, rfl⟩
set_option maxRecDepth 4000 in
theorem cd128 : mvCdl[128]? = some mvC128 := rfl
set_option maxRecDepth 4000 in
theorem mq129 : mvMq 129 10 0 1 4 2 (some .int) := ⟨_, rfl, rfl, rfl, rfl, rfl, rfl, rfl⟩
set_option maxRecDepth 4000 in
theorem cd129 : mvCdl[129]? = some mvC129 := rfl
set_option maxRecDepth 4000 in
theorem mq130 : mvMq 130 10 0 1 3 0 (some .int) := ⟨_, rfl, rfl, rfl, rfl, rfl, rfl, rfl⟩
set_option maxRecDepth 4000 in
theorem cd130 : mvCdl[130]? = some mvC130 := rfl
set_option maxRecDepth 4000 in
theorem mq131 : mvMq 131 10 0 1 1 0 (some .boolean) := ⟨_, rfl, rfl, rfl, rfl, rfl, rfl, rfl⟩
set_option maxRecDepth 4000 in
theorem cd131 : mvCdl[131]? = some mvC131 := rfl
set_option maxRecDepth 4000 in
theorem mq132 : mvMq 132 10 0 1 6 0 (some .boolean) := ⟨_, rfl, rfl, rfl, rfl, rfl, rfl, rfl⟩
set_option maxRecDepth 4000 in
theorem cd132 : mvCdl[132]? = some mvC132 := rfl
set_option maxRecDepth 4000 in
theorem mq133 : mvMq 133 10 0 1 5 1 (some .int) := ⟨_, rfl, rfl, rfl, rfl, rfl, rfl, rfl⟩
set_option maxRecDepth 4000 in
theorem cd133 : mvCdl[133]? = some mvC133 := rfl
set_option maxRecDepth 4000 in
theorem mq134 : mvMq 134 10 0 1 2 1 (some .int) := ⟨_, rfl, rfl, rfl, rfl, rfl, rfl, rfl⟩
set_option maxRecDepth 4000 in
theorem cd134 : mvCdl[134]? = some mvC134 := rfl
set_option maxRecDepth 4000 in
theorem mq135 : mvMq 135 10 0 1 4 2 none := ⟨_, rfl, rfl, rfl, rfl, rfl, rfl, rfl⟩
set_option maxRecDepth 4000 in
theorem cd135 : mvCdl[135]? = some mvC135 := rfl
set_option maxRecDepth 4000 in
theorem mq136 : mvMq 136 10 0 1 5 1 (some .int) := ⟨_, rfl, rfl, rfl, rfl, rfl, rfl, rfl⟩
set_option maxRecDepth 4000 in
theorem cd136 : mvCdl[136]? = some mvC136 := rfl
set_option maxRecDepth 4000 in
theorem mq137 : mvMq 137 10 0 1 2 1 (some .int) := ⟨_, rfl, rfl, rfl, rfl, rfl, rfl, rfl⟩
set_option maxRecDepth 4000 in
theorem cd137 : mvCdl[137]? = some mvC137 := rfl
set_option maxRecDepth 4000 in
theorem mq138 : mvMq 138 10 0 1 2 1 (some .int) := ⟨_, rfl, rfl, rfl, rfl, rfl, rfl, rfl⟩
set_option maxRecDepth 4000 in
theorem cd138 : mvCdl[138]? = some mvC138 := rfl
set_option maxRecDepth 4000 in
theorem mq139 : mvMq 139 10 0 1 2 0 none := ⟨_, rfl, rfl, rfl, rfl, rfl, rfl, rfl⟩
set_option maxRecDepth 4000 in
theorem cd139 : mvCdl[139]? = some mvC139 := rfl
set_option maxRecDepth 4000 in
theorem mq140 : mvMq 140 0 0 2 1 0 (some .int) := ⟨_, rfl, rfl, rfl, rfl, rfl, rfl, rfl⟩
set_option maxRecDepth 4000 in
theorem cd140 : mvCdl[140]? = some mvC140 := rfl
set_option maxRecDepth 4000 in
theorem mq141 : mvMq 141 0 0 2 4 3 (some .int) := ⟨_, rfl, rfl, rfl, rfl, rfl, rfl, rfl⟩
set_option maxRecDepth 4000 in
theorem cd141 : mvCdl[141]? = some mvC141 := rfl
set_option maxRecDepth 4000 in
theorem mq142 : mvMq 142 0 0 2 5 4 (some .int) := ⟨_, rfl, rfl, rfl, rfl, rfl, rfl, rfl⟩
set_option maxRecDepth 4000 in
theorem cd142 : mvCdl[142]? = some mvC142 := rfl
set_option maxRecDepth 4000 in
theorem mq143 : mvMq 143 0 0 2 4 2 (some .int) := ⟨_, rfl, rfl, rfl, rfl, rfl, rfl, rfl⟩
set_option maxRecDepth 4000 in
theorem cd143 : mvCdl[143]? = some mvC143 := rfl
set_option maxRecDepth 4000 in
theorem mq144 : mvMq 144 0 0 2 4 2 (some .int) := ⟨_, rfl, rfl, rfl, rfl, rfl, rfl, rfl⟩
set_option maxRecDepth 4000 in
theorem cd144 : mvCdl[144]? = some mvC144 := rfl
set_option maxRecDepth 4000 in
theorem mq145 : mvMq 145 0 0 2 4 3 (some .int) := ⟨_, rfl, rfl, rfl, rfl, rfl, rfl, rfl⟩
set_option maxRecDepth 4000 in
theorem cd145 : mvCdl[145]? = some mvC145 := rfl
set_option maxRecDepth 4000 in
theorem mq146 : mvMq 146 0 0 2 6 1 (some .long) := ⟨_, rfl, rfl, rfl, rfl, rfl, rfl, rfl⟩
set_option maxRecDepth 4000 in
theorem cd146 : mvCdl[146]? = some mvC146 := rfl
set_option maxRecDepth 4000 in
theorem mq147 : mvMq 147 0 0 2 1 0 none := ⟨_, rfl, rfl, rfl, rfl, rfl, rfl, rfl⟩
set_option maxRecDepth 4000 in
theorem cd147 : mvCdl[147]? = some mvC147 := rfl
set_option maxRecDepth 4000 in
theorem mq148 : mvMq 148 1 0 2 7 1 (some .boolean) := ⟨_, rfl, rfl, rfl, rfl, rfl, rfl, rfl⟩
set_option maxRecDepth 4000 in
theorem cd148 : mvCdl[148]? = some mvC148 := rfl
set_option maxRecDepth 4000 in
theorem mq149 : mvMq 149 2 0 2 4 1 (some .boolean) := ⟨_, rfl, rfl, rfl, rfl, rfl, rfl, rfl⟩
set_option maxRecDepth 4000 in
theorem cd149 : mvCdl[149]? = some mvC149 := rfl
set_option maxRecDepth 4000 in
theorem mq150 : mvMq 150 2 0 2 4 1 (some .int) := ⟨_, rfl, rfl, rfl, rfl, rfl, rfl, rfl⟩
set_option maxRecDepth 4000 in
theorem cd150 : mvCdl[150]? = some mvC150 := rfl
set_option maxRecDepth 4000 in
theorem mq151 : mvMq 151 3 0 2 4 1 none := ⟨_, rfl, rfl, rfl, rfl, rfl, rfl, rfl⟩
set_option maxRecDepth 4000 in
theorem cd151 : mvCdl[151]? = some mvC151 := rfl
set_option maxRecDepth 4000 in
theorem mq152 : mvMq 152 3 0 2 4 1 none := ⟨_, rfl, rfl, rfl, rfl, rfl, rfl, rfl⟩
set_option maxRecDepth 4000 in
theorem cd152 : mvCdl[152]? = some mvC152 := rfl
set_option maxRecDepth 4000 in
theorem mq153 : mvMq 153 3 0 2 2 1 (some .int) := ⟨_, rfl, rfl, rfl, rfl, rfl, rfl, rfl⟩
set_option maxRecDepth 4000 in
theorem cd153 : mvCdl[153]? = some mvC153 := rfl
set_option maxRecDepth 4000 in
theorem mq154 : mvMq 154 4 0 2 3 2 (some .boolean) := ⟨_, rfl, rfl, rfl, rfl, rfl, rfl, rfl⟩
set_option maxRecDepth 4000 in
theorem cd154 : mvCdl[154]? = some mvC154 := rfl
set_option maxRecDepth 4000 in
theorem mq155 : mvMq 155 5 0 2 6 3 (some .int) := ⟨_, rfl, rfl, rfl, rfl, rfl, rfl, rfl⟩
set_option maxRecDepth 4000 in
theorem cd155 : mvCdl[155]? = some mvC155 := rfl
set_option maxRecDepth 4000 in
theorem mq156 : mvMq 156 6 0 2 4 1 (some .boolean) := ⟨_, rfl, rfl, rfl, rfl, rfl, rfl, rfl⟩
set_option maxRecDepth 4000 in
theorem cd156 : mvCdl[156]? = some mvC156 := rfl
set_option maxRecDepth 4000 in
theorem mq157 : mvMq 157 7 2 2 1 0 none := ⟨_, rfl, rfl, rfl, rfl, rfl, rfl, rfl⟩
set_option maxRecDepth 4000 in
theorem cd157 : mvCdl[157]? = some mvC157 := rfl
set_option maxRecDepth 4000 in
theorem mq158 : mvMq 158 9 0 2 3 2 none := ⟨_, rfl, rfl, rfl, rfl, rfl, rfl, rfl⟩
set_option maxRecDepth 4000 in
theorem cd158 : mvCdl[158]? = some mvC158 := rfl
set_option maxRecDepth 4000 in
theorem mq159 : mvMq 159 10 0 2 2 0 (some .int) := ⟨_, rfl, rfl, rfl, rfl, rfl, rfl, rfl⟩
set_option maxRecDepth 4000 in
theorem cd159 : mvCdl[159]? = some mvC159 := rfl
set_option maxRecDepth 4000 in
theorem mq160 : mvMq 160 10 0 2 4 0 (some .boolean) := ⟨_, rfl, rfl, rfl, rfl, rfl, rfl, rfl⟩
set_option maxRecDepth 4000 in
theorem cd160 : mvCdl[160]? = some mvC160 := rfl
set_option maxRecDepth 4000 in
theorem mq161 : mvMq 161 10 0 2 5 0 none := ⟨_, rfl, rfl, rfl, rfl, rfl, rfl, rfl⟩
set_option maxRecDepth 4000 in
theorem cd161 : mvCdl[161]? = some mvC161 := rfl
set_option maxRecDepth 4000 in
theorem mq162 : mvMq 162 10 0 2 3 2 (some .boolean) := ⟨_, rfl, rfl, rfl, rfl, rfl, rfl, rfl⟩
set_option maxRecDepth 4000 in
theorem cd162 : mvCdl[162]? = some mvC162 := rfl
set_option maxRecDepth 4000 in
theorem mq163 : mvMq 163 10 0 2 3 0 (some .boolean) := ⟨_, rfl, rfl, rfl, rfl, rfl, rfl, rfl⟩
set_option maxRecDepth 4000 in
theorem cd163 : mvCdl[163]? = some mvC163 := rfl
set_option maxRecDepth 4000 in
theorem mq164 : mvMq 164 10 0 2 4 1 (some .int) := ⟨_, rfl, rfl, rfl, rfl, rfl, rfl, rfl⟩
set_option maxRecDepth 4000 in
theorem cd164 : mvCdl[164]? = some mvC164 := rfl
set_option maxRecDepth 4000 in
theorem mq165 : mvMq 165 10 0 2 3 2 (some .int) := ⟨_, rfl, rfl, rfl, rfl, rfl, rfl, rfl⟩
set_option maxRecDepth 4000 in
theorem cd165 : mvCdl[165]? = some mvC165 := rfl
set_option maxRecDepth 4000 in
theorem mq166 : mvMq 166 10 0 2 4 3 (some .int) := ⟨_, rfl, rfl, rfl, rfl, rfl, rfl, rfl⟩
set_option maxRecDepth 4000 in
theorem cd166 : mvCdl[166]? = some mvC166 := rfl
set_option maxRecDepth 4000 in
theorem mq167 : mvMq 167 10 0 2 3 2 (some .int) := ⟨_, rfl, rfl, rfl, rfl, rfl, rfl, rfl⟩
set_option maxRecDepth 4000 in
theorem cd167 : mvCdl[167]? = some mvC167 := rfl
set_option maxRecDepth 4000 in
theorem mq168 : mvMq 168 10 0 2 3 2 (some .int) := ⟨_, rfl, rfl, rfl, rfl, rfl, rfl, rfl⟩
set_option maxRecDepth 4000 in
theorem cd168 : mvCdl[168]? = some mvC168 := rfl
set_option maxRecDepth 4000 in
theorem mq169 : mvMq 169 10 0 2 3 0 (some .int) := ⟨_, rfl, rfl, rfl, rfl, rfl, rfl, rfl⟩
set_option maxRecDepth 4000 in
theorem cd169 : mvCdl[169]? = some mvC169 := rfl
set_option maxRecDepth 4000 in
theorem mq170 : mvMq 170 10 0 2 4 2 (some .int) := ⟨_, rfl, rfl, rfl, rfl, rfl, rfl, rfl⟩
set_option maxRecDepth 4000 in
theorem cd170 : mvCdl[170]? = some mvC170 := rfl
set_option maxRecDepth 4000 in
theorem mq171 : mvMq 171 10 0 2 4 0 (some .int) := ⟨_, rfl, rfl, rfl, rfl, rfl, rfl, rfl⟩
set_option maxRecDepth 4000 in
theorem cd171 : mvCdl[171]? = some mvC171 := rfl
set_option maxRecDepth 4000 in
theorem mq172 : mvMq 172 10 0 2 5 1 (some .int) := ⟨_, rfl, rfl, rfl, rfl, rfl, rfl, rfl⟩
set_option maxRecDepth 4000 in
theorem cd172 : mvCdl[172]? = some mvC172 := rfl
set_option maxRecDepth 4000 in
theorem mq173 : mvMq 173 10 0 2 6 2 (some .int) := ⟨_, rfl, rfl, rfl, rfl, rfl, rfl, rfl⟩
set_option maxRecDepth 4000 in
theorem cd173 : mvCdl[173]? = some mvC173 := rfl
set_option maxRecDepth 4000 in
theorem mq174 : mvMq 174 10 0 2 4 2 (some .int) := ⟨_, rfl, rfl, rfl, rfl, rfl, rfl, rfl⟩
set_option maxRecDepth 4000 in
theorem cd174 : mvCdl[174]? = some mvC174 := rfl
set_option maxRecDepth 4000 in
theorem mq175 : mvMq 175 10 0 2 4 1 (some .int) := ⟨_, rfl, rfl, rfl, rfl, rfl, rfl, rfl⟩
set_option maxRecDepth 4000 in
theorem cd175 : mvCdl[175]? = some mvC175 := rfl
set_option maxRecDepth 4000 in
theorem mq176 : mvMq 176 10 0 2 3 2 none := ⟨_, rfl, rfl, rfl, rfl, rfl, rfl, rfl⟩
set_option maxRecDepth 4000 in
theorem cd176 : mvCdl[176]? = some mvC176 := rfl
set_option maxRecDepth 4000 in
theorem mq177 : mvMq 177 10 0 2 2 1 (some .int) := ⟨_, rfl, rfl, rfl, rfl, rfl, rfl, rfl⟩
set_option maxRecDepth 4000 in
theorem cd177 : mvCdl[177]? = some mvC177 := rfl
set_option maxRecDepth 4000 in
theorem mq178 : mvMq 178 0 2 3 1 0 none := ⟨_, rfl, rfl, rfl, rfl, rfl, rfl, rfl⟩
set_option maxRecDepth 4000 in
theorem cd178 : mvCdl[178]? = some mvC178 := rfl
set_option maxRecDepth 4000 in
theorem mq179 : mvMq 179 0 0 3 4 3 (some .int) := ⟨_, rfl, rfl, rfl, rfl, rfl, rfl, rfl⟩
set_option maxRecDepth 4000 in
theorem cd179 : mvCdl[179]? = some mvC179 := rfl
set_option maxRecDepth 4000 in
theorem mq180 : mvMq 180 0 0 3 3 2 (some .int) := ⟨_, rfl, rfl, rfl, rfl, rfl, rfl, rfl⟩
set_option maxRecDepth 4000 in
theorem cd180 : mvCdl[180]? = some mvC180 := rfl
set_option maxRecDepth 4000 in
theorem mq181 : mvMq 181 0 0 3 3 2 (some .int) := ⟨_, rfl, rfl, rfl, rfl, rfl, rfl, rfl⟩
set_option maxRecDepth 4000 in
theorem cd181 : mvCdl[181]? = some mvC181 := rfl
set_option maxRecDepth 4000 in
theorem mq182 : mvMq 182 2 0 3 4 0 (some .boolean) := ⟨_, rfl, rfl, rfl, rfl, rfl, rfl, rfl⟩
set_option maxRecDepth 4000 in
theorem cd182 : mvCdl[182]? = some mvC182 := rfl
set_option maxRecDepth 4000 in
theorem mq183 : mvMq 183 3 0 3 2 1 none := ⟨_, rfl, rfl, rfl, rfl, rfl, rfl, rfl⟩
set_option maxRecDepth 4000 in
theorem cd183 : mvCdl[183]? = some mvC183 := rfl
set_option maxRecDepth 4000 in
theorem mq184 : mvMq 184 5 0 3 6 2 none := ⟨_, rfl, rfl, rfl, rfl, rfl, rfl, rfl⟩
set_option maxRecDepth 4000 in
theorem cd184 : mvCdl[184]? = some mvC184 := rfl
set_option maxRecDepth 4000 in
theorem mq185 : mvMq 185 6 0 3 4 1 (some .boolean) := ⟨_, rfl, rfl, rfl, rfl, rfl, rfl, rfl⟩
set_option maxRecDepth 4000 in
theorem cd185 : mvCdl[185]? = some mvC185 := rfl
set_option maxRecDepth 4000 in
theorem mq186 : mvMq 186 8 0 3 8 2 none := ⟨_, rfl, rfl, rfl, rfl, rfl, rfl, rfl⟩
set_option maxRecDepth 4000 in
theorem cd186 : mvCdl[186]? = some mvC186 := rfl
set_option maxRecDepth 4000 in
theorem mq187 : mvMq 187 9 0 3 4 1 none := ⟨_, rfl, rfl, rfl, rfl, rfl, rfl, rfl⟩
set_option maxRecDepth 4000 in
theorem cd187 : mvCdl[187]? = some mvC187 := rfl
set_option maxRecDepth 4000 in
theorem mq188 : mvMq 188 10 0 3 1 0 (some .int) := ⟨_, rfl, rfl, rfl, rfl, rfl, rfl, rfl⟩
set_option maxRecDepth 4000 in
theorem cd188 : mvCdl[188]? = some mvC188 := rfl
set_option maxRecDepth 4000 in
theorem mq189 : mvMq 189 10 0 3 1 0 none := ⟨_, rfl, rfl, rfl, rfl, rfl, rfl, rfl⟩
set_option maxRecDepth 4000 in
theorem cd189 : mvCdl[189]? = some mvC189 := rfl
set_option maxRecDepth 4000 in
theorem mq190 : mvMq 190 10 0 3 4 3 (some .int) := ⟨_, rfl, rfl, rfl, rfl, rfl, rfl, rfl⟩
set_option maxRecDepth 4000 in
theorem cd190 : mvCdl[190]? = some mvC190 := rfl
set_option maxRecDepth 4000 in
theorem mq191 : mvMq 191 10 0 3 5 4 (some .int) := ⟨_, rfl, rfl, rfl, rfl, rfl, rfl, rfl⟩
set_option maxRecDepth 4000 in
theorem cd191 : mvCdl[191]? = some mvC191 := rfl
set_option maxRecDepth 4000 in
theorem mq192 : mvMq 192 10 0 3 1 0 (some .boolean) := ⟨_, rfl, rfl, rfl, rfl, rfl, rfl, rfl⟩
set_option maxRecDepth 4000 in
theorem cd192 : mvCdl[192]? = some mvC192 := rfl
set_option maxRecDepth 4000 in
theorem mq193 : mvMq 193 10 0 3 3 1 (some .int) := ⟨_, rfl, rfl, rfl, rfl, rfl, rfl, rfl⟩
set_option maxRecDepth 4000 in
theorem cd193 : mvCdl[193]? = some mvC193 := rfl
set_option maxRecDepth 4000 in
theorem mq194 : mvMq 194 10 0 3 5 3 (some .int) := ⟨_, rfl, rfl, rfl, rfl, rfl, rfl, rfl⟩
set_option maxRecDepth 4000 in
theorem cd194 : mvCdl[194]? = some mvC194 := rfl
set_option maxRecDepth 4000 in
theorem mq195 : mvMq 195 10 0 3 2 0 none := ⟨_, rfl, rfl, rfl, rfl, rfl, rfl, rfl⟩
set_option maxRecDepth 4000 in
theorem cd195 : mvCdl[195]? = some mvC195 := rfl
set_option maxRecDepth 4000 in
theorem mq196 : mvMq 196 10 0 3 5 0 none := ⟨_, rfl, rfl, rfl, rfl, rfl, rfl, rfl⟩
set_option maxRecDepth 4000 in
theorem cd196 : mvCdl[196]? = some mvC196 := rfl
set_option maxRecDepth 4000 in
theorem mq197 : mvMq 197 10 0 3 3 1 none := ⟨_, rfl, rfl, rfl, rfl, rfl, rfl, rfl⟩
set_option maxRecDepth 4000 in
theorem cd197 : mvCdl[197]? = some mvC197 := rfl
set_option maxRecDepth 4000 in
theorem mq198 : mvMq 198 10 0 3 2 1 none := ⟨_, rfl, rfl, rfl, rfl, rfl, rfl, rfl⟩
set_option maxRecDepth 4000 in
theorem cd198 : mvCdl[198]? = some mvC198 := rfl
set_option maxRecDepth 4000 in
theorem mq199 : mvMq 199 0 0 4 3 2 (some .int) := ⟨_, rfl, rfl, rfl, rfl, rfl, rfl, rfl⟩
set_option maxRecDepth 4000 in
theorem cd199 : mvCdl[199]? = some mvC199 := rfl
set_option maxRecDepth 4000 in
theorem mq200 : mvMq 200 0 0 4 4 2 (some .int) := ⟨_, rfl, rfl, rfl, rfl, rfl, rfl, rfl⟩
set_option maxRecDepth 4000 in
theorem cd200 : mvCdl[200]? = some mvC200 := rfl
set_option maxRecDepth 4000 in
theorem mq201 : mvMq 201 0 0 4 4 2 (some .int) := ⟨_, rfl, rfl, rfl, rfl, rfl, rfl, rfl⟩
set_option maxRecDepth 4000 in
theorem cd201 : mvCdl[201]? = some mvC201 := rfl
set_option maxRecDepth 4000 in
theorem mq202 : mvMq 202 0 0 4 2 1 (some .int) := ⟨_, rfl, rfl, rfl, rfl, rfl, rfl, rfl⟩
set_option maxRecDepth 4000 in
theorem cd202 : mvCdl[202]? = some mvC202 := rfl
set_option maxRecDepth 4000 in
theorem mq203 : mvMq 203 0 0 4 3 2 (some .int) := ⟨_, rfl, rfl, rfl, rfl, rfl, rfl, rfl⟩
set_option maxRecDepth 4000 in
theorem cd203 : mvCdl[203]? = some mvC203 := rfl
set_option maxRecDepth 4000 in
theorem mq204 : mvMq 204 0 0 4 1 0 (some .int) := ⟨_, rfl, rfl, rfl, rfl, rfl, rfl, rfl⟩
set_option maxRecDepth 4000 in
theorem cd204 : mvCdl[204]? = some mvC204 := rfl
set_option maxRecDepth 4000 in
theorem mq205 : mvMq 205 0 0 4 2 1 (some .int) := ⟨_, rfl, rfl, rfl, rfl, rfl, rfl, rfl⟩
set_option maxRecDepth 4000 in
theorem cd205 : mvCdl[205]? = some mvC205 := rfl
set_option maxRecDepth 4000 in
theorem mq206 : mvMq 206 0 0 4 6 1 (some .long) := ⟨_, rfl, rfl, rfl, rfl, rfl, rfl, rfl⟩
set_option maxRecDepth 4000 in
theorem cd206 : mvCdl[206]? = some mvC206 := rfl
set_option maxRecDepth 4000 in
theorem mq207 : mvMq 207 2 0 4 2 0 (some .boolean) := ⟨_, rfl, rfl, rfl, rfl, rfl, rfl, rfl⟩
set_option maxRecDepth 4000 in
theorem cd207 : mvCdl[207]? = some mvC207 := rfl
set_option maxRecDepth 4000 in
theorem mq208 : mvMq 208 5 0 4 8 3 none := ⟨_, rfl, rfl, rfl, rfl, rfl, rfl, rfl⟩
set_option maxRecDepth 4000 in
theorem cd208 : mvCdl[208]? = some mvC208 := rfl
set_option maxRecDepth 4000 in
theorem mq209 : mvMq 209 9 0 4 4 1 none := ⟨_, rfl, rfl, rfl, rfl, rfl, rfl, rfl⟩
set_option maxRecDepth 4000 in
theorem cd209 : mvCdl[209]? = some mvC209 := rfl
set_option maxRecDepth 4000 in
theorem mq210 : mvMq 210 10 0 4 3 0 (some .int) := ⟨_, rfl, rfl, rfl, rfl, rfl, rfl, rfl⟩
set_option maxRecDepth 4000 in
theorem cd210 : mvCdl[210]? = some mvC210 := rfl
set_option maxRecDepth 4000 in
theorem mq211 : mvMq 211 10 0 4 4 3 (some .int) := ⟨_, rfl, rfl, rfl, rfl, rfl, rfl, rfl⟩
set_option maxRecDepth 4000 in
theorem cd211 : mvCdl[211]? = some mvC211 := rfl
set_option maxRecDepth 4000 in
theorem mq212 : mvMq 212 10 0 4 3 1 (some .int) := ⟨_, rfl, rfl, rfl, rfl, rfl, rfl, rfl⟩
set_option maxRecDepth 4000 in
theorem cd212 : mvCdl[212]? = some mvC212 := rfl
set_option maxRecDepth 4000 in
theorem mq213 : mvMq 213 10 0 4 4 0 none := ⟨_, rfl, rfl, rfl, rfl, rfl, rfl, rfl⟩
set_option maxRecDepth 4000 in
theorem cd213 : mvCdl[213]? = some mvC213 := rfl
set_option maxRecDepth 4000 in
theorem mq214 : mvMq 214 10 0 4 6 0 (some .int) := ⟨_, rfl, rfl, rfl, rfl, rfl, rfl, rfl⟩
set_option maxRecDepth 4000 in
theorem cd214 : mvCdl[214]? = some mvC214 := rfl
set_option maxRecDepth 4000 in
theorem mq215 : mvMq 215 10 0 4 5 2 (some .int) := ⟨_, rfl, rfl, rfl, rfl, rfl, rfl, rfl⟩
set_option maxRecDepth 4000 in
theorem cd215 : mvCdl[215]? = some mvC215 := rfl
set_option maxRecDepth 4000 in
theorem mq216 : mvMq 216 0 0 5 2 0 (some .int) := ⟨_, rfl, rfl, rfl, rfl, rfl, rfl, rfl⟩
set_option maxRecDepth 4000 in
theorem cd216 : mvCdl[216]? = some mvC216 := rfl
set_option maxRecDepth 4000 in
theorem mq217 : mvMq 217 0 0 5 2 1 (some .int) := ⟨_, rfl, rfl, rfl, rfl, rfl, rfl, rfl⟩
set_option maxRecDepth 4000 in
theorem cd217 : mvCdl[217]? = some mvC217 := rfl
set_option maxRecDepth 4000 in
theorem mq218 : mvMq 218 0 0 5 4 3 (some .int) := ⟨_, rfl, rfl, rfl, rfl, rfl, rfl, rfl⟩
set_option maxRecDepth 4000 in
theorem cd218 : mvCdl[218]? = some mvC218 := rfl
set_option maxRecDepth 4000 in
theorem mq219 : mvMq 219 0 0 5 1 0 none := ⟨_, rfl, rfl, rfl, rfl, rfl, rfl, rfl⟩
set_option maxRecDepth 4000 in
theorem cd219 : mvCdl[219]? = some mvC219 := rfl
set_option maxRecDepth 4000 in
theorem mq220 : mvMq 220 7 0 5 5 2 none := ⟨_, rfl, rfl, rfl, rfl, rfl, rfl, rfl⟩
set_option maxRecDepth 4000 in
theorem cd220 : mvCdl[220]? = some mvC220 := rfl
set_option maxRecDepth 4000 in
theorem mq221 : mvMq 221 9 0 5 6 4 none := ⟨_, rfl, rfl, rfl, rfl, rfl, rfl, rfl⟩
set_option maxRecDepth 4000 in
theorem cd221 : mvCdl[221]? = some mvC221 := rfl
set_option maxRecDepth 4000 in
theorem mq222 : mvMq 222 10 0 5 3 2 (some .int) := ⟨_, rfl, rfl, rfl, rfl, rfl, rfl, rfl⟩
set_option maxRecDepth 4000 in
theorem cd222 : mvCdl[222]? = some mvC222 := rfl
set_option maxRecDepth 4000 in
theorem mq223 : mvMq 223 10 0 5 3 2 (some .int) := ⟨_, rfl, rfl, rfl, rfl, rfl, rfl, rfl⟩
set_option maxRecDepth 4000 in
theorem cd223 : mvCdl[223]? = some mvC223 := rfl
set_option maxRecDepth 4000 in
theorem mq224 : mvMq 224 10 0 5 3 2 (some .int) := ⟨_, rfl, rfl, rfl, rfl, rfl, rfl, rfl⟩
set_option maxRecDepth 4000 in
theorem cd224 : mvCdl[224]? = some mvC224 := rfl
set_option maxRecDepth 4000 in
theorem mq225 : mvMq 225 10 0 5 3 2 (some .int) := ⟨_, rfl, rfl, rfl, rfl, rfl, rfl, rfl⟩
set_option maxRecDepth 4000 in
theorem cd225 : mvCdl[225]? = some mvC225 := rfl
set_option maxRecDepth 4000 in
theorem mq226 : mvMq 226 10 0 5 2 1 (some .int) := ⟨_, rfl, rfl, rfl, rfl, rfl, rfl, rfl⟩
set_option maxRecDepth 4000 in
theorem cd226 : mvCdl[226]? = some mvC226 := rfl
set_option maxRecDepth 4000 in
theorem mq227 : mvMq 227 10 0 5 4 2 (some .int) := ⟨_, rfl, rfl, rfl, rfl, rfl, rfl, rfl⟩
set_option maxRecDepth 4000 in
theorem cd227 : mvCdl[227]? = some mvC227 := rfl
set_option maxRecDepth 4000 in
theorem mq228 : mvMq 228 10 0 5 2 1 (some .int) := ⟨_, rfl, rfl, rfl, rfl, rfl, rfl, rfl⟩
set_option maxRecDepth 4000 in
theorem cd228 : mvCdl[228]? = some mvC228 := rfl
set_option maxRecDepth 4000 in
theorem mq229 : mvMq 229 10 0 5 2 1 (some .int) := ⟨_, rfl, rfl, rfl, rfl, rfl, rfl, rfl⟩
set_option maxRecDepth 4000 in
theorem cd229 : mvCdl[229]? = some mvC229 := rfl
set_option maxRecDepth 4000 in
theorem mq230 : mvMq 230 10 0 5 3 0 (some .int) := ⟨_, rfl, rfl, rfl, rfl, rfl, rfl, rfl⟩
set_option maxRecDepth 4000 in
theorem cd230 : mvCdl[230]? = some mvC230 := rfl
set_option maxRecDepth 4000 in
theorem mq231 : mvMq 231 10 0 5 1 0 (some .int) := ⟨_, rfl, rfl, rfl, rfl, rfl, rfl, rfl⟩
set_option maxRecDepth 4000 in
theorem cd231 : mvCdl[231]? = some mvC231 := rfl
set_option maxRecDepth 4000 in
theorem mq232 : mvMq 232 10 0 5 3 1 (some .int) := ⟨_, rfl, rfl, rfl, rfl, rfl, rfl, rfl⟩
set_option maxRecDepth 4000 in
theorem cd232 : mvCdl[232]? = some mvC232 := rfl
set_option maxRecDepth 4000 in
theorem mq233 : mvMq 233 10 0 5 3 2 (some .int) := ⟨_, rfl, rfl, rfl, rfl, rfl, rfl, rfl⟩
set_option maxRecDepth 4000 in
theorem cd233 : mvCdl[233]? = some mvC233 := rfl
set_option maxRecDepth 4000 in
theorem mq234 : mvMq 234 0 0 6 3 2 (some .int) := ⟨_, rfl, rfl, rfl, rfl, rfl, rfl, rfl⟩
set_option maxRecDepth 4000 in
theorem cd234 : mvCdl[234]? = some mvC234 := rfl
set_option maxRecDepth 4000 in
theorem mq235 : mvMq 235 0 0 6 3 2 (some .int) := ⟨_, rfl, rfl, rfl, rfl, rfl, rfl, rfl⟩
set_option maxRecDepth 4000 in
theorem cd235 : mvCdl[235]? = some mvC235 := rfl
set_option maxRecDepth 4000 in
theorem mq236 : mvMq 236 0 0 6 3 2 (some .int) := ⟨_, rfl, rfl, rfl, rfl, rfl, rfl, rfl⟩
set_option maxRecDepth 4000 in
theorem cd236 : mvCdl[236]? = some mvC236 := rfl
set_option maxRecDepth 4000 in
theorem mq237 : mvMq 237 0 0 6 2 1 (some .int) := ⟨_, rfl, rfl, rfl, rfl, rfl, rfl, rfl⟩
set_option maxRecDepth 4000 in
theorem cd237 : mvCdl[237]? = some mvC237 := rfl
set_option maxRecDepth 4000 in
theorem mq238 : mvMq 238 0 0 6 2 1 (some .int) := ⟨_, rfl, rfl, rfl, rfl, rfl, rfl, rfl⟩
set_option maxRecDepth 4000 in
theorem cd238 : mvCdl[238]? = some mvC238 := rfl
set_option maxRecDepth 4000 in
theorem mq239 : mvMq 239 0 0 6 1 0 (some .int) := ⟨_, rfl, rfl, rfl, rfl, rfl, rfl, rfl⟩
set_option maxRecDepth 4000 in
theorem cd239 : mvCdl[239]? = some mvC239 := rfl
set_option maxRecDepth 4000 in
theorem mq240 : mvMq 240 0 0 6 2 1 (some .int) := ⟨_, rfl, rfl, rfl, rfl, rfl, rfl, rfl⟩
set_option maxRecDepth 4000 in
theorem cd240 : mvCdl[240]? = some mvC240 := rfl
set_option maxRecDepth 4000 in
theorem mq241 : mvMq 241 0 0 6 3 2 (some .int) := ⟨_, rfl, rfl, rfl, rfl, rfl, rfl, rfl⟩
set_option maxRecDepth 4000 in
theorem cd241 : mvCdl[241]? = some mvC241 := rfl
set_option maxRecDepth 4000 in
theorem mq242 : mvMq 242 0 0 6 5 1 (some .long) := ⟨_, rfl, rfl, rfl, rfl, rfl, rfl, rfl⟩
set_option maxRecDepth 4000 in
theorem cd242 : mvCdl[242]? = some mvC242 := rfl
set_option maxRecDepth 4000 in
theorem mq243 : mvMq 243 10 0 6 3 1 (some .int) := ⟨_, rfl, rfl, rfl, rfl, rfl, rfl, rfl⟩
set_option maxRecDepth 4000 in
theorem cd243 : mvCdl[243]? = some mvC243 := rfl
set_option maxRecDepth 4000 in
theorem mq244 : mvMq 244 10 0 6 2 1 (some .int) := ⟨_, rfl, rfl, rfl, rfl, rfl, rfl, rfl⟩
set_option maxRecDepth 4000 in
theorem cd244 : mvCdl[244]? = some mvC244 := rfl
set_option maxRecDepth 4000 in
theorem mq245 : mvMq 245 10 0 6 3 2 (some .int) := ⟨_, rfl, rfl, rfl, rfl, rfl, rfl, rfl⟩
set_option maxRecDepth 4000 in
theorem cd245 : mvCdl[245]? = some mvC245 := rfl
set_option maxRecDepth 4000 in
theorem mq246 : mvMq 246 10 0 6 2 1 (some .int) := ⟨_, rfl, rfl, rfl, rfl, rfl, rfl, rfl⟩
set_option maxRecDepth 4000 in
theorem cd246 : mvCdl[246]? = some mvC246 := rfl
set_option maxRecDepth 4000 in
theorem mq247 : mvMq 247 10 0 6 1 0 (some .int) := ⟨_, rfl, rfl, rfl, rfl, rfl, rfl, rfl⟩
set_option maxRecDepth 4000 in
theorem cd247 : mvCdl[247]? = some mvC247 := rfl
set_option maxRecDepth 4000 in
theorem mq248 : mvMq 248 10 0 6 2 1 (some .int) := ⟨_, rfl, rfl, rfl, rfl, rfl, rfl, rfl⟩
set_option maxRecDepth 4000 in
theorem cd248 : mvCdl[248]? = some mvC248 := rfl
set_option maxRecDepth 4000 in
theorem mq249 : mvMq 249 10 0 6 3 0 none := ⟨_, rfl, rfl, rfl, rfl, rfl, rfl, rfl⟩
set_option maxRecDepth 4000 in
theorem cd249 : mvCdl[249]? = some mvC249 := rfl
set_option maxRecDepth 4000 in
theorem mq250 : mvMq 250 10 0 6 4 0 none := ⟨_, rfl, rfl, rfl, rfl, rfl, rfl, rfl⟩
set_option maxRecDepth 4000 in
theorem cd250 : mvCdl[250]? = some mvC250 := rfl
set_option maxRecDepth 4000 in
theorem mq251 : mvMq 251 10 0 6 4 0 none := ⟨_, rfl, rfl, rfl, rfl, rfl, rfl, rfl⟩
set_option maxRecDepth 4000 in
theorem cd251 : mvCdl[251]? = some mvC251 := rfl
set_option maxRecDepth 4000 in
theorem mq252 : mvMq 252 0 0 7 4 0 (some .long) := ⟨_, rfl, rfl, rfl, rfl, rfl, rfl, rfl⟩
set_option maxRecDepth 4000 in
theorem cd252 : mvCdl[252]? = some mvC252 := rfl
set_option maxRecDepth 4000 in
theorem mq253 : mvMq 253 10 0 7 3 2 (some .int) := ⟨_, rfl, rfl, rfl, rfl, rfl, rfl, rfl⟩
set_option maxRecDepth 4000 in
theorem cd253 : mvCdl[253]? = some mvC253 := rfl
set_option maxRecDepth 4000 in
theorem mq254 : mvMq 254 10 0 7 2 0 (some .long) := ⟨_, rfl, rfl, rfl, rfl, rfl, rfl, rfl⟩
set_option maxRecDepth 4000 in
theorem cd254 : mvCdl[254]? = some mvC254 := rfl
set_option maxRecDepth 4000 in
theorem mq255 : mvMq 255 11 1 8 4 1 ret := ⟨_, rfl, rfl, rfl, rfl, rfl, rfl, rfl⟩
set_option maxRecDepth 4000 in
theorem cd255 : mvCdl[255]? = some mvC255 := rfl
set_option maxRecDepth 4000 in
theorem lk_0_3 : mvMl.lookup (0, 3) = some (5, 0) := by decide +kernel
set_option maxRecDepth 4000 in
theorem lk_0_11 : mvMl.lookup (0, 11) = some (6, 74) := by decide +kernel
set_option maxRecDepth 4000 in
theorem fl_0_12 : mvFl.lookup (0, 12) = some (0, 0) := by decide +kernel
set_option maxRecDepth 4000 in
theorem lk_0_18 : mvMl.lookup (0, 18) = some (6, 76) := by decide +kernel
set_option maxRecDepth 4000 in
theorem fl_0_19 : mvFl.lookup (0, 19) = some (0, 1) := by decide +kernel
set_option maxRecDepth 4000 in
theorem fl_0_23 : mvFl.lookup (0, 23) = some (0, 2) := by decide +kernel
set_option maxRecDepth 4000 in
theorem lk_0_28 : mvMl.lookup (0, 28) = some (6, 88) := by decide +kernel
set_option maxRecDepth 4000 in
theorem fl_0_29 : mvFl.lookup (0, 29) = some (0, 3) := by decide +kernel
set_option maxRecDepth 4000 in
theorem lk_0_35 : mvMl.lookup (0, 35) = some (6, 93) := by decide +kernel
set_option maxRecDepth 4000 in
theorem fl_0_36 : mvFl.lookup (0, 36) = some (0, 4) := by decide +kernel
set_option maxRecDepth 4000 in
theorem lk_0_42 : mvMl.lookup (0, 42) = some (6, 98) := by decide +kernel
set_option maxRecDepth 4000 in
theorem fl_0_43 : mvFl.lookup (0, 43) = some (0, 5) := by decide +kernel
set_option maxRecDepth 4000 in
theorem lk_0_49 : mvMl.lookup (0, 49) = some (6, 99) := by decide +kernel
set_option maxRecDepth 4000 in
theorem fl_0_50 : mvFl.lookup (0, 50) = some (0, 6) := by decide +kernel
set_option maxRecDepth 4000 in
theorem lk_0_56 : mvMl.lookup (0, 56) = some (6, 157) := by decide +kernel
set_option maxRecDepth 4000 in
theorem fl_0_57 : mvFl.lookup (0, 57) = some (0, 7) := by decide +kernel
set_option maxRecDepth 4000 in
theorem lk_0_63 : mvMl.lookup (0, 63) = some (6, 104) := by decide +kernel
set_option maxRecDepth 4000 in
theorem fl_0_64 : mvFl.lookup (0, 64) = some (0, 8) := by decide +kernel
set_option maxRecDepth 4000 in
theorem lk_0_70 : mvMl.lookup (0, 70) = some (6, 106) := by decide +kernel
set_option maxRecDepth 4000 in
theorem fl_0_71 : mvFl.lookup (0, 71) = some (0, 9) := by decide +kernel
set_option maxRecDepth 4000 in
theorem fl_0_75 : mvFl.lookup (0, 75) = some (1, 1) := by decide +kernel
set_option maxRecDepth 4000 in
theorem lk_0_79 : mvMl.lookup (0, 79) = some (0, 5) := by decide +kernel
set_option maxRecDepth 4000 in
theorem lk_0_83 : mvMl.lookup (0, 83) = some (0, 75) := by decide +kernel
set_option maxRecDepth 4000 in
theorem lk_0_87 : mvMl.lookup (0, 87) = some (0, 148) := by decide +kernel
set_option maxRecDepth 4000 in
theorem lk_0_91 : mvMl.lookup (0, 91) = some (0, 207) := by decide +kernel
set_option maxRecDepth 4000 in
theorem lk_0_95 : mvMl.lookup (0, 95) = some (0, 94) := by decide +kernel
set_option maxRecDepth 4000 in
theorem fl_0_98 : mvFl.lookup (0, 98) = some (0, 10) := by decide +kernel
set_option maxRecDepth 4000 in
theorem lk_0_101 : mvMl.lookup (0, 101) = some (0, 147) := by decide +kernel
set_option maxRecDepth 4000 in
theorem fl_0_104 : mvFl.lookup (0, 104) = some (2, 0) := by decide +kernel
set_option maxRecDepth 4000 in
theorem lk_0_107 : mvMl.lookup (0, 107) = some (0, 8) := by decide +kernel
set_option maxRecDepth 4000 in
theorem lk_0_111 : mvMl.lookup (0, 111) = some (0, 9) := by decide +kernel
set_option maxRecDepth 4000 in
theorem lk_0_114 : mvMl.lookup (0, 114) = some (0, 218) := by decide +kernel
set_option maxRecDepth 4000 in
theorem lk_0_118 : mvMl.lookup (0, 118) = some (0, 78) := by decide +kernel
set_option maxRecDepth 4000 in
theorem lk_0_122 : mvMl.lookup (0, 122) = some (0, 20) := by decide +kernel
set_option maxRecDepth 4000 in
theorem lk_0_125 : mvMl.lookup (0, 125) = some (0, 11) := by decide +kernel
set_option maxRecDepth 4000 in
theorem lk_0_128 : mvMl.lookup (0, 128) = some (0, 12) := by decide +kernel
set_option maxRecDepth 4000 in
theorem fl_0_131 : mvFl.lookup (0, 131) = some (2, 2) := by decide +kernel
set_option maxRecDepth 4000 in
theorem lk_0_135 : mvMl.lookup (0, 135) = some (0, 79) := by decide +kernel
set_option maxRecDepth 4000 in
theorem lk_0_138 : mvMl.lookup (0, 138) = some (0, 82) := by decide +kernel
set_option maxRecDepth 4000 in
theorem lk_0_141 : mvMl.lookup (0, 141) = some (0, 19) := by decide +kernel
set_option maxRecDepth 4000 in
theorem lk_0_145 : mvMl.lookup (0, 145) = some (0, 3) := by decide +kernel
set_option maxRecDepth 4000 in
theorem lk_0_148 : mvMl.lookup (0, 148) = some (0, 22) := by decide +kernel
set_option maxRecDepth 4000 in
theorem lk_0_151 : mvMl.lookup (0, 151) = some (0, 149) := by decide +kernel
set_option maxRecDepth 4000 in
theorem lk_0_154 : mvMl.lookup (0, 154) = some (1, 4) := by decide +kernel
set_option maxRecDepth 4000 in
theorem lk_0_158 : mvMl.lookup (0, 158) = some (0, 183) := by decide +kernel
set_option maxRecDepth 4000 in
theorem lk_0_162 : mvMl.lookup (0, 162) = some (0, 180) := by decide +kernel
set_option maxRecDepth 4000 in
theorem lk_0_166 : mvMl.lookup (0, 166) = some (0, 25) := by decide +kernel
set_option maxRecDepth 4000 in
theorem lk_0_169 : mvMl.lookup (0, 169) = some (0, 86) := by decide +kernel
set_option maxRecDepth 4000 in
theorem lk_0_172 : mvMl.lookup (0, 172) = some (0, 181) := by decide +kernel
set_option maxRecDepth 4000 in
theorem lk_0_175 : mvMl.lookup (0, 175) = some (0, 87) := by decide +kernel
set_option maxRecDepth 4000 in
theorem lk_0_179 : mvMl.lookup (0, 179) = some (0, 153) := by decide +kernel
set_option maxRecDepth 4000 in
theorem fl_0_181 : mvFl.lookup (0, 181) = some (2, 1) := by decide +kernel
set_option maxRecDepth 4000 in
theorem lk_0_184 : mvMl.lookup (0, 184) = some (0, 26) := by decide +kernel
set_option maxRecDepth 4000 in
theorem fl_0_187 : mvFl.lookup (0, 187) = some (3, 4) := by decide +kernel
set_option maxRecDepth 4000 in
theorem lk_0_190 : mvMl.lookup (0, 190) = some (0, 27) := by decide +kernel
set_option maxRecDepth 4000 in
theorem fl_0_193 : mvFl.lookup (0, 193) = some (4, 0) := by decide +kernel
set_option maxRecDepth 4000 in
theorem fl_0_196 : mvFl.lookup (0, 196) = some (4, 1) := by decide +kernel
set_option maxRecDepth 4000 in
theorem lk_0_199 : mvMl.lookup (0, 199) = some (0, 73) := by decide +kernel
set_option maxRecDepth 4000 in
theorem fl_0_202 : mvFl.lookup (0, 202) = some (4, 2) := by decide +kernel
set_option maxRecDepth 4000 in
theorem lk_0_205 : mvMl.lookup (0, 205) = some (0, 219) := by decide +kernel
set_option maxRecDepth 4000 in
theorem lk_0_208 : mvMl.lookup (0, 208) = some (0, 29) := by decide +kernel
set_option maxRecDepth 4000 in
theorem fl_0_209 : mvFl.lookup (0, 209) = some (5, 1) := by decide +kernel
set_option maxRecDepth 4000 in
theorem fl_0_212 : mvFl.lookup (0, 212) = some (5, 2) := by decide +kernel
set_option maxRecDepth 4000 in
theorem lk_0_215 : mvMl.lookup (0, 215) = some (0, 72) := by decide +kernel
set_option maxRecDepth 4000 in
theorem lk_0_218 : mvMl.lookup (0, 218) = some (0, 30) := by decide +kernel
set_option maxRecDepth 4000 in
theorem lk_0_221 : mvMl.lookup (0, 221) = some (0, 100) := by decide +kernel
set_option maxRecDepth 4000 in
theorem lk_0_225 : mvMl.lookup (0, 225) = some (0, 185) := by decide +kernel
set_option maxRecDepth 4000 in
theorem fl_0_228 : mvFl.lookup (0, 228) = some (6, 0) := by decide +kernel
set_option maxRecDepth 4000 in
theorem lk_0_231 : mvMl.lookup (0, 231) = some (0, 32) := by decide +kernel
set_option maxRecDepth 4000 in
theorem lk_0_234 : mvMl.lookup (0, 234) = some (0, 33) := by decide +kernel
set_option maxRecDepth 4000 in
theorem lk_0_237 : mvMl.lookup (0, 237) = some (0, 220) := by decide +kernel
set_option maxRecDepth 4000 in
theorem lk_0_239 : mvMl.lookup (0, 239) = some (0, 103) := by decide +kernel
set_option maxRecDepth 4000 in
theorem fl_0_240 : mvFl.lookup (0, 240) = some (9, 0) := by decide +kernel
set_option maxRecDepth 4000 in
theorem lk_0_244 : mvMl.lookup (0, 244) = some (0, 186) := by decide +kernel
set_option maxRecDepth 4000 in
theorem fl_0_248 : mvFl.lookup (0, 248) = some (8, 0) := by decide +kernel
set_option maxRecDepth 4000 in
theorem fl_0_251 : mvFl.lookup (0, 251) = some (8, 1) := by decide +kernel
set_option maxRecDepth 4000 in
theorem lk_0_253 : mvMl.lookup (0, 253) = some (0, 221) := by decide +kernel
set_option maxRecDepth 4000 in
theorem fl_0_257 : mvFl.lookup (0, 257) = some (0, 11) := by decide +kernel
set_option maxRecDepth 4000 in
theorem fl_0_260 : mvFl.lookup (0, 260) = some (9, 1) := by decide +kernel
set_option maxRecDepth 4000 in
theorem lk_0_263 : mvMl.lookup (0, 263) = some (0, 37) := by decide +kernel
set_option maxRecDepth 4000 in
theorem lk_0_264 : mvMl.lookup (0, 264) = some (0, 21) := by decide +kernel
set_option maxRecDepth 4000 in
theorem lk_0_269 : mvMl.lookup (0, 269) = some (0, 146) := by decide +kernel
set_option maxRecDepth 4000 in
theorem lk_0_273 : mvMl.lookup (0, 273) = some (0, 206) := by decide +kernel
set_option maxRecDepth 4000 in
theorem lk_0_276 : mvMl.lookup (0, 276) = some (0, 71) := by decide +kernel
set_option maxRecDepth 4000 in
theorem lk_0_279 : mvMl.lookup (0, 279) = some (0, 242) := by decide +kernel
set_option maxRecDepth 4000 in
theorem lk_0_282 : mvMl.lookup (0, 282) = some (1, 2) := by decide +kernel
set_option maxRecDepth 4000 in
theorem fl_0_286 : mvFl.lookup (0, 286) = some (1, 0) := by decide +kernel
set_option maxRecDepth 4000 in
theorem lk_0_289 : mvMl.lookup (0, 289) = some (0, 70) := by decide +kernel
set_option maxRecDepth 4000 in
theorem fl_0_294 : mvFl.lookup (0, 294) = some (3, 1) := by decide +kernel
set_option maxRecDepth 4000 in
theorem lk_0_295 : mvMl.lookup (0, 295) = some (0, 10) := by decide +kernel
set_option maxRecDepth 4000 in
theorem fl_0_298 : mvFl.lookup (0, 298) = some (3, 0) := by decide +kernel
set_option maxRecDepth 4000 in
theorem fl_0_301 : mvFl.lookup (0, 301) = some (5, 0) := by decide +kernel
set_option maxRecDepth 4000 in
theorem lk_0_302 : mvMl.lookup (0, 302) = some (0, 35) := by decide +kernel
set_option maxRecDepth 4000 in
theorem lk_0_305 : mvMl.lookup (0, 305) = some (0, 208) := by decide +kernel
set_option maxRecDepth 4000 in
theorem lk_0_308 : mvMl.lookup (0, 308) = some (0, 154) := by decide +kernel
set_option maxRecDepth 4000 in
theorem lk_0_312 : mvMl.lookup (0, 312) = some (0, 150) := by decide +kernel
set_option maxRecDepth 4000 in
theorem lk_0_315 : mvMl.lookup (0, 315) = some (0, 85) := by decide +kernel
set_option maxRecDepth 4000 in
theorem lk_0_318 : mvMl.lookup (0, 318) = some (0, 92) := by decide +kernel
set_option maxRecDepth 4000 in
theorem lk_1_3 : mvMl.lookup (1, 3) = some (5, 0) := by decide +kernel
set_option maxRecDepth 4000 in
theorem fl_1_9 : mvFl.lookup (1, 9) = some (1, 0) := by decide +kernel
set_option maxRecDepth 4000 in
theorem fl_1_15 : mvFl.lookup (1, 15) = some (1, 1) := by decide +kernel
set_option maxRecDepth 4000 in
theorem lk_1_19 : mvMl.lookup (1, 19) = some (1, 7) := by decide +kernel
set_option maxRecDepth 4000 in
theorem lk_1_23 : mvMl.lookup (1, 23) = some (0, 6) := by decide +kernel
set_option maxRecDepth 4000 in
theorem lk_1_27 : mvMl.lookup (1, 27) = some (0, 75) := by decide +kernel
set_option maxRecDepth 4000 in
theorem lk_1_30 : mvMl.lookup (1, 30) = some (0, 77) := by decide +kernel
set_option maxRecDepth 4000 in
theorem lk_1_36 : mvMl.lookup (1, 36) = some (0, 10) := by decide +kernel
set_option maxRecDepth 4000 in
theorem lk_1_40 : mvMl.lookup (1, 40) = some (0, 78) := by decide +kernel
set_option maxRecDepth 4000 in
theorem lk_2_3 : mvMl.lookup (2, 3) = some (5, 0) := by decide +kernel
set_option maxRecDepth 4000 in
theorem fl_2_9 : mvFl.lookup (2, 9) = some (2, 2) := by decide +kernel
set_option maxRecDepth 4000 in
theorem fl_2_15 : mvFl.lookup (2, 15) = some (2, 3) := by decide +kernel
set_option maxRecDepth 4000 in
theorem fl_2_18 : mvFl.lookup (2, 18) = some (2, 4) := by decide +kernel
set_option maxRecDepth 4000 in
theorem fl_2_21 : mvFl.lookup (2, 21) = some (2, 5) := by decide +kernel
set_option maxRecDepth 4000 in
theorem fl_2_24 : mvFl.lookup (2, 24) = some (2, 6) := by decide +kernel
set_option maxRecDepth 4000 in
theorem fl_2_27 : mvFl.lookup (2, 27) = some (2, 7) := by decide +kernel
set_option maxRecDepth 4000 in
theorem fl_2_30 : mvFl.lookup (2, 30) = some (2, 8) := by decide +kernel
set_option maxRecDepth 4000 in
theorem fl_2_33 : mvFl.lookup (2, 33) = some (2, 9) := by decide +kernel
set_option maxRecDepth 4000 in
theorem fl_2_36 : mvFl.lookup (2, 36) = some (2, 0) := by decide +kernel
set_option maxRecDepth 4000 in
theorem fl_2_40 : mvFl.lookup (2, 40) = some (2, 1) := by decide +kernel
set_option maxRecDepth 4000 in
theorem lk_2_43 : mvMl.lookup (2, 43) = some (1, 65) := by decide +kernel
set_option maxRecDepth 4000 in
theorem lk_2_49 : mvMl.lookup (2, 49) = some (0, 8) := by decide +kernel
set_option maxRecDepth 4000 in
theorem lk_2_53 : mvMl.lookup (2, 53) = some (0, 80) := by decide +kernel
set_option maxRecDepth 4000 in
theorem lk_2_57 : mvMl.lookup (2, 57) = some (0, 182) := by decide +kernel
set_option maxRecDepth 4000 in
theorem lk_2_60 : mvMl.lookup (2, 60) = some (0, 15) := by decide +kernel
set_option maxRecDepth 4000 in
theorem lk_2_64 : mvMl.lookup (2, 64) = some (0, 13) := by decide +kernel
set_option maxRecDepth 4000 in
theorem lk_2_68 : mvMl.lookup (2, 68) = some (0, 150) := by decide +kernel
set_option maxRecDepth 4000 in
theorem lk_2_72 : mvMl.lookup (2, 72) = some (1, 14) := by decide +kernel
set_option maxRecDepth 4000 in
theorem lk_2_75 : mvMl.lookup (2, 75) = some (0, 23) := by decide +kernel
set_option maxRecDepth 4000 in
theorem lk_2_79 : mvMl.lookup (2, 79) = some (0, 81) := by decide +kernel
set_option maxRecDepth 4000 in
theorem lk_2_83 : mvMl.lookup (2, 83) = some (0, 24) := by decide +kernel
set_option maxRecDepth 4000 in
theorem lk_2_86 : mvMl.lookup (2, 86) = some (7, 0) := by decide +kernel
set_option maxRecDepth 4000 in
theorem lk_2_94 : mvMl.lookup (2, 94) = some (0, 83) := by decide +kernel
set_option maxRecDepth 4000 in
theorem lk_2_97 : mvMl.lookup (2, 97) = some (0, 84) := by decide +kernel
set_option maxRecDepth 4000 in
theorem lk_2_100 : mvMl.lookup (2, 100) = some (8, 0) := by decide +kernel
set_option maxRecDepth 4000 in
theorem lk_3_3 : mvMl.lookup (3, 3) = some (5, 0) := by decide +kernel
set_option maxRecDepth 4000 in
theorem fl_3_9 : mvFl.lookup (3, 9) = some (3, 4) := by decide +kernel
set_option maxRecDepth 4000 in
theorem fl_3_15 : mvFl.lookup (3, 15) = some (3, 5) := by decide +kernel
set_option maxRecDepth 4000 in
theorem fl_3_18 : mvFl.lookup (3, 18) = some (3, 6) := by decide +kernel
set_option maxRecDepth 4000 in
theorem fl_3_21 : mvFl.lookup (3, 21) = some (3, 7) := by decide +kernel
set_option maxRecDepth 4000 in
theorem fl_3_24 : mvFl.lookup (3, 24) = some (3, 8) := by decide +kernel
set_option maxRecDepth 4000 in
theorem fl_3_27 : mvFl.lookup (3, 27) = some (3, 9) := by decide +kernel
set_option maxRecDepth 4000 in
theorem fl_3_30 : mvFl.lookup (3, 30) = some (3, 0) := by decide +kernel
set_option maxRecDepth 4000 in
theorem fl_3_34 : mvFl.lookup (3, 34) = some (2, 1) := by decide +kernel
set_option maxRecDepth 4000 in
theorem fl_3_40 : mvFl.lookup (3, 40) = some (3, 3) := by decide +kernel
set_option maxRecDepth 4000 in
theorem lk_3_43 : mvMl.lookup (3, 43) = some (0, 89) := by decide +kernel
set_option maxRecDepth 4000 in
theorem lk_3_47 : mvMl.lookup (3, 47) = some (0, 151) := by decide +kernel
set_option maxRecDepth 4000 in
theorem lk_3_50 : mvMl.lookup (3, 50) = some (0, 152) := by decide +kernel
set_option maxRecDepth 4000 in
theorem lk_3_53 : mvMl.lookup (3, 53) = some (0, 90) := by decide +kernel
set_option maxRecDepth 4000 in
theorem fl_3_56 : mvFl.lookup (3, 56) = some (3, 2) := by decide +kernel
set_option maxRecDepth 4000 in
theorem fl_3_59 : mvFl.lookup (3, 59) = some (2, 0) := by decide +kernel
set_option maxRecDepth 4000 in
theorem fl_3_62 : mvFl.lookup (3, 62) = some (2, 2) := by decide +kernel
set_option maxRecDepth 4000 in
theorem lk_3_65 : mvMl.lookup (3, 65) = some (0, 24) := by decide +kernel
set_option maxRecDepth 4000 in
theorem lk_3_69 : mvMl.lookup (3, 69) = some (1, 65) := by decide +kernel
set_option maxRecDepth 4000 in
theorem lk_3_75 : mvMl.lookup (3, 75) = some (0, 84) := by decide +kernel
set_option maxRecDepth 4000 in
theorem lk_3_79 : mvMl.lookup (3, 79) = some (4, 4) := by decide +kernel
set_option maxRecDepth 4000 in
theorem fl_3_83 : mvFl.lookup (3, 83) = some (3, 1) := by decide +kernel
set_option maxRecDepth 4000 in
theorem lk_3_86 : mvMl.lookup (3, 86) = some (0, 91) := by decide +kernel
set_option maxRecDepth 4000 in
theorem lk_3_90 : mvMl.lookup (3, 90) = some (0, 26) := by decide +kernel
set_option maxRecDepth 4000 in
theorem lk_3_93 : mvMl.lookup (3, 93) = some (0, 23) := by decide +kernel
set_option maxRecDepth 4000 in
theorem lk_4_3 : mvMl.lookup (4, 3) = some (5, 0) := by decide +kernel
set_option maxRecDepth 4000 in
theorem fl_4_9 : mvFl.lookup (4, 9) = some (4, 2) := by decide +kernel
set_option maxRecDepth 4000 in
theorem lk_4_15 : mvMl.lookup (4, 15) = some (1, 65) := by decide +kernel
set_option maxRecDepth 4000 in
theorem fl_4_21 : mvFl.lookup (4, 21) = some (4, 0) := by decide +kernel
set_option maxRecDepth 4000 in
theorem lk_4_25 : mvMl.lookup (4, 25) = some (0, 95) := by decide +kernel
set_option maxRecDepth 4000 in
theorem lk_4_29 : mvMl.lookup (4, 29) = some (1, 96) := by decide +kernel
set_option maxRecDepth 4000 in
theorem fl_4_33 : mvFl.lookup (4, 33) = some (4, 1) := by decide +kernel
set_option maxRecDepth 4000 in
theorem lk_4_36 : mvMl.lookup (4, 36) = some (0, 85) := by decide +kernel
set_option maxRecDepth 4000 in
theorem lk_4_42 : mvMl.lookup (4, 42) = some (1, 97) := by decide +kernel
set_option maxRecDepth 4000 in
theorem fl_4_45 : mvFl.lookup (4, 45) = some (2, 0) := by decide +kernel
set_option maxRecDepth 4000 in
theorem lk_4_48 : mvMl.lookup (4, 48) = some (0, 25) := by decide +kernel
set_option maxRecDepth 4000 in
theorem lk_4_52 : mvMl.lookup (4, 52) = some (0, 28) := by decide +kernel
set_option maxRecDepth 4000 in
theorem lk_4_56 : mvMl.lookup (4, 56) = some (8, 0) := by decide +kernel
set_option maxRecDepth 4000 in
theorem lk_4_61 : mvMl.lookup (4, 61) = some (7, 0) := by decide +kernel
set_option maxRecDepth 4000 in
theorem lk_5_3 : mvMl.lookup (5, 3) = some (5, 0) := by decide +kernel
set_option maxRecDepth 4000 in
theorem fl_5_9 : mvFl.lookup (5, 9) = some (5, 2) := by decide +kernel
set_option maxRecDepth 4000 in
theorem fl_5_15 : mvFl.lookup (5, 15) = some (5, 5) := by decide +kernel
set_option maxRecDepth 4000 in
theorem fl_5_19 : mvFl.lookup (5, 19) = some (5, 0) := by decide +kernel
set_option maxRecDepth 4000 in
theorem fl_5_23 : mvFl.lookup (5, 23) = some (5, 3) := by decide +kernel
set_option maxRecDepth 4000 in
theorem fl_5_27 : mvFl.lookup (5, 27) = some (5, 4) := by decide +kernel
set_option maxRecDepth 4000 in
theorem fl_5_30 : mvFl.lookup (5, 30) = some (3, 1) := by decide +kernel
set_option maxRecDepth 4000 in
theorem fl_5_35 : mvFl.lookup (5, 35) = some (3, 7) := by decide +kernel
set_option maxRecDepth 4000 in
theorem fl_5_38 : mvFl.lookup (5, 38) = some (3, 6) := by decide +kernel
set_option maxRecDepth 4000 in
theorem lk_5_41 : mvMl.lookup (5, 41) = some (0, 154) := by decide +kernel
set_option maxRecDepth 4000 in
theorem fl_5_47 : mvFl.lookup (5, 47) = some (3, 2) := by decide +kernel
set_option maxRecDepth 4000 in
theorem lk_5_50 : mvMl.lookup (5, 50) = some (0, 155) := by decide +kernel
set_option maxRecDepth 4000 in
theorem lk_5_54 : mvMl.lookup (5, 54) = some (0, 184) := by decide +kernel
set_option maxRecDepth 4000 in
theorem fl_5_58 : mvFl.lookup (5, 58) = some (2, 0) := by decide +kernel
set_option maxRecDepth 4000 in
theorem lk_5_63 : mvMl.lookup (5, 63) = some (0, 84) := by decide +kernel
set_option maxRecDepth 4000 in
theorem fl_5_67 : mvFl.lookup (5, 67) = some (3, 5) := by decide +kernel
set_option maxRecDepth 4000 in
theorem fl_5_70 : mvFl.lookup (5, 70) = some (5, 1) := by decide +kernel
set_option maxRecDepth 4000 in
theorem fl_5_73 : mvFl.lookup (5, 73) = some (2, 1) := by decide +kernel
set_option maxRecDepth 4000 in
theorem lk_6_3 : mvMl.lookup (6, 3) = some (5, 0) := by decide +kernel
set_option maxRecDepth 4000 in
theorem fl_6_9 : mvFl.lookup (6, 9) = some (6, 0) := by decide +kernel
set_option maxRecDepth 4000 in
theorem fl_6_15 : mvFl.lookup (6, 15) = some (6, 1) := by decide +kernel
set_option maxRecDepth 4000 in
theorem fl_6_18 : mvFl.lookup (6, 18) = some (6, 2) := by decide +kernel
set_option maxRecDepth 4000 in
theorem fl_6_21 : mvFl.lookup (6, 21) = some (6, 3) := by decide +kernel
set_option maxRecDepth 4000 in
theorem lk_6_24 : mvMl.lookup (6, 24) = some (1, 65) := by decide +kernel
set_option maxRecDepth 4000 in
theorem fl_6_30 : mvFl.lookup (6, 30) = some (2, 0) := by decide +kernel
set_option maxRecDepth 4000 in
theorem fl_6_36 : mvFl.lookup (6, 36) = some (2, 2) := by decide +kernel
set_option maxRecDepth 4000 in
theorem lk_6_39 : mvMl.lookup (6, 39) = some (0, 18) := by decide +kernel
set_option maxRecDepth 4000 in
theorem lk_6_43 : mvMl.lookup (6, 43) = some (0, 28) := by decide +kernel
set_option maxRecDepth 4000 in
theorem lk_6_49 : mvMl.lookup (6, 49) = some (0, 31) := by decide +kernel
set_option maxRecDepth 4000 in
theorem lk_6_53 : mvMl.lookup (6, 53) = some (0, 156) := by decide +kernel
set_option maxRecDepth 4000 in
theorem lk_6_57 : mvMl.lookup (6, 57) = some (0, 34) := by decide +kernel
set_option maxRecDepth 4000 in
theorem lk_6_61 : mvMl.lookup (6, 61) = some (0, 101) := by decide +kernel
set_option maxRecDepth 4000 in
theorem lk_6_65 : mvMl.lookup (6, 65) = some (0, 32) := by decide +kernel
set_option maxRecDepth 4000 in
theorem lk_6_68 : mvMl.lookup (6, 68) = some (0, 33) := by decide +kernel
set_option maxRecDepth 4000 in
theorem lk_6_71 : mvMl.lookup (6, 71) = some (0, 19) := by decide +kernel
set_option maxRecDepth 4000 in
theorem lk_7_3 : mvMl.lookup (7, 3) = some (5, 0) := by decide +kernel
set_option maxRecDepth 4000 in
theorem lk_7_11 : mvMl.lookup (7, 11) = some (6, 76) := by decide +kernel
set_option maxRecDepth 4000 in
theorem fl_7_12 : mvFl.lookup (7, 12) = some (7, 0) := by decide +kernel
set_option maxRecDepth 4000 in
theorem lk_7_20 : mvMl.lookup (7, 20) = some (6, 88) := by decide +kernel
set_option maxRecDepth 4000 in
theorem fl_7_21 : mvFl.lookup (7, 21) = some (7, 1) := by decide +kernel
set_option maxRecDepth 4000 in
theorem lk_7_27 : mvMl.lookup (7, 27) = some (6, 98) := by decide +kernel
set_option maxRecDepth 4000 in
theorem fl_7_28 : mvFl.lookup (7, 28) = some (7, 2) := by decide +kernel
set_option maxRecDepth 4000 in
theorem fl_7_32 : mvFl.lookup (7, 32) = some (3, 0) := by decide +kernel
set_option maxRecDepth 4000 in
theorem fl_7_36 : mvFl.lookup (7, 36) = some (5, 0) := by decide +kernel
set_option maxRecDepth 4000 in
theorem fl_7_37 : mvFl.lookup (7, 37) = some (2, 0) := by decide +kernel
set_option maxRecDepth 4000 in
theorem lk_7_41 : mvMl.lookup (7, 41) = some (0, 77) := by decide +kernel
set_option maxRecDepth 4000 in
theorem fl_7_45 : mvFl.lookup (7, 45) = some (2, 2) := by decide +kernel
set_option maxRecDepth 4000 in
theorem lk_7_49 : mvMl.lookup (7, 49) = some (1, 102) := by decide +kernel
set_option maxRecDepth 4000 in
theorem lk_7_53 : mvMl.lookup (7, 53) = some (0, 16) := by decide +kernel
set_option maxRecDepth 4000 in
theorem lk_7_57 : mvMl.lookup (7, 57) = some (0, 17) := by decide +kernel
set_option maxRecDepth 4000 in
theorem lk_7_60 : mvMl.lookup (7, 60) = some (0, 10) := by decide +kernel
set_option maxRecDepth 4000 in
theorem lk_7_64 : mvMl.lookup (7, 64) = some (0, 207) := by decide +kernel
set_option maxRecDepth 4000 in
theorem lk_7_68 : mvMl.lookup (7, 68) = some (0, 183) := by decide +kernel
set_option maxRecDepth 4000 in
theorem lk_7_72 : mvMl.lookup (7, 72) = some (0, 208) := by decide +kernel
set_option maxRecDepth 4000 in
theorem lk_7_75 : mvMl.lookup (7, 75) = some (0, 18) := by decide +kernel
set_option maxRecDepth 4000 in
theorem lk_7_78 : mvMl.lookup (7, 78) = some (0, 28) := by decide +kernel
set_option maxRecDepth 4000 in
theorem fl_7_84 : mvFl.lookup (7, 84) = some (2, 1) := by decide +kernel
set_option maxRecDepth 4000 in
theorem fl_7_87 : mvFl.lookup (7, 87) = some (3, 1) := by decide +kernel
set_option maxRecDepth 4000 in
theorem lk_7_90 : mvMl.lookup (7, 90) = some (0, 29) := by decide +kernel
set_option maxRecDepth 4000 in
theorem lk_8_3 : mvMl.lookup (8, 3) = some (5, 0) := by decide +kernel
set_option maxRecDepth 4000 in
theorem fl_8_9 : mvFl.lookup (8, 9) = some (8, 0) := by decide +kernel
set_option maxRecDepth 4000 in
theorem fl_8_15 : mvFl.lookup (8, 15) = some (8, 1) := by decide +kernel
set_option maxRecDepth 4000 in
theorem fl_8_19 : mvFl.lookup (8, 19) = some (2, 1) := by decide +kernel
set_option maxRecDepth 4000 in
theorem lk_8_30 : mvMl.lookup (8, 30) = some (0, 150) := by decide +kernel
set_option maxRecDepth 4000 in
theorem lk_8_34 : mvMl.lookup (8, 34) = some (1, 105) := by decide +kernel
set_option maxRecDepth 4000 in
theorem lk_8_38 : mvMl.lookup (8, 38) = some (0, 24) := by decide +kernel
set_option maxRecDepth 4000 in
theorem lk_8_42 : mvMl.lookup (8, 42) = some (1, 66) := by decide +kernel
set_option maxRecDepth 4000 in
theorem lk_9_3 : mvMl.lookup (9, 3) = some (5, 0) := by decide +kernel
set_option maxRecDepth 4000 in
theorem fl_9_9 : mvFl.lookup (9, 9) = some (9, 5) := by decide +kernel
set_option maxRecDepth 4000 in
theorem fl_9_15 : mvFl.lookup (9, 15) = some (9, 6) := by decide +kernel
set_option maxRecDepth 4000 in
theorem fl_9_18 : mvFl.lookup (9, 18) = some (9, 7) := by decide +kernel
set_option maxRecDepth 4000 in
theorem fl_9_21 : mvFl.lookup (9, 21) = some (9, 8) := by decide +kernel
set_option maxRecDepth 4000 in
theorem lk_9_24 : mvMl.lookup (9, 24) = some (0, 107) := by decide +kernel
set_option maxRecDepth 4000 in
theorem fl_9_27 : mvFl.lookup (9, 27) = some (8, 1) := by decide +kernel
set_option maxRecDepth 4000 in
theorem lk_9_32 : mvMl.lookup (9, 32) = some (0, 108) := by decide +kernel
set_option maxRecDepth 4000 in
theorem lk_9_36 : mvMl.lookup (9, 36) = some (0, 109) := by decide +kernel
set_option maxRecDepth 4000 in
theorem lk_9_39 : mvMl.lookup (9, 39) = some (0, 187) := by decide +kernel
set_option maxRecDepth 4000 in
theorem fl_9_43 : mvFl.lookup (9, 43) = some (8, 0) := by decide +kernel
set_option maxRecDepth 4000 in
theorem lk_9_47 : mvMl.lookup (9, 47) = some (0, 209) := by decide +kernel
set_option maxRecDepth 4000 in
theorem fl_9_50 : mvFl.lookup (9, 50) = some (9, 1) := by decide +kernel
set_option maxRecDepth 4000 in
theorem fl_9_53 : mvFl.lookup (9, 53) = some (2, 0) := by decide +kernel
set_option maxRecDepth 4000 in
theorem fl_9_58 : mvFl.lookup (9, 58) = some (9, 0) := by decide +kernel
set_option maxRecDepth 4000 in
theorem fl_9_62 : mvFl.lookup (9, 62) = some (9, 4) := by decide +kernel
set_option maxRecDepth 4000 in
theorem fl_9_65 : mvFl.lookup (9, 65) = some (9, 2) := by decide +kernel
set_option maxRecDepth 4000 in
theorem fl_9_68 : mvFl.lookup (9, 68) = some (9, 3) := by decide +kernel
set_option maxRecDepth 4000 in
theorem lk_9_71 : mvMl.lookup (9, 71) = some (1, 65) := by decide +kernel
set_option maxRecDepth 4000 in
theorem lk_9_77 : mvMl.lookup (9, 77) = some (0, 23) := by decide +kernel
set_option maxRecDepth 4000 in
theorem lk_9_81 : mvMl.lookup (9, 81) = some (0, 16) := by decide +kernel
set_option maxRecDepth 4000 in
theorem lk_9_84 : mvMl.lookup (9, 84) = some (0, 17) := by decide +kernel
set_option maxRecDepth 4000 in
theorem lk_9_87 : mvMl.lookup (9, 87) = some (0, 24) := by decide +kernel
set_option maxRecDepth 4000 in
theorem lk_9_90 : mvMl.lookup (9, 90) = some (4, 4) := by decide +kernel
set_option maxRecDepth 4000 in
theorem lk_9_94 : mvMl.lookup (9, 94) = some (0, 36) := by decide +kernel
set_option maxRecDepth 4000 in
theorem lk_9_98 : mvMl.lookup (9, 98) = some (0, 158) := by decide +kernel
set_option maxRecDepth 4000 in
theorem lk_10_1 : mvMl.lookup (10, 1) = some (5, 0) := by decide +kernel
set_option maxRecDepth 4000 in
theorem fl_10_7 : mvFl.lookup (10, 7) = some (10, 1) := by decide +kernel
set_option maxRecDepth 4000 in
theorem fl_10_13 : mvFl.lookup (10, 13) = some (10, 2) := by decide +kernel
set_option maxRecDepth 4000 in
theorem fl_10_16 : mvFl.lookup (10, 16) = some (10, 3) := by decide +kernel
set_option maxRecDepth 4000 in
theorem fl_10_19 : mvFl.lookup (10, 19) = some (10, 4) := by decide +kernel
set_option maxRecDepth 4000 in
theorem fl_10_22 : mvFl.lookup (10, 22) = some (10, 5) := by decide +kernel
set_option maxRecDepth 4000 in
theorem fl_10_25 : mvFl.lookup (10, 25) = some (10, 6) := by decide +kernel
set_option maxRecDepth 4000 in
theorem fl_10_28 : mvFl.lookup (10, 28) = some (10, 11) := by decide +kernel
set_option maxRecDepth 4000 in
theorem fl_10_31 : mvFl.lookup (10, 31) = some (10, 18) := by decide +kernel
set_option maxRecDepth 4000 in
theorem fl_10_34 : mvFl.lookup (10, 34) = some (10, 22) := by decide +kernel
set_option maxRecDepth 4000 in
theorem fl_10_37 : mvFl.lookup (10, 37) = some (10, 23) := by decide +kernel
set_option maxRecDepth 4000 in
theorem fl_10_40 : mvFl.lookup (10, 40) = some (10, 24) := by decide +kernel
set_option maxRecDepth 4000 in
theorem fl_10_43 : mvFl.lookup (10, 43) = some (10, 25) := by decide +kernel
set_option maxRecDepth 4000 in
theorem fl_10_46 : mvFl.lookup (10, 46) = some (10, 26) := by decide +kernel
set_option maxRecDepth 4000 in
theorem fl_10_49 : mvFl.lookup (10, 49) = some (10, 27) := by decide +kernel
set_option maxRecDepth 4000 in
theorem fl_10_53 : mvFl.lookup (10, 53) = some (10, 28) := by decide +kernel
set_option maxRecDepth 4000 in
theorem fl_10_56 : mvFl.lookup (10, 56) = some (10, 29) := by decide +kernel
set_option maxRecDepth 4000 in
theorem fl_10_59 : mvFl.lookup (10, 59) = some (10, 30) := by decide +kernel
set_option maxRecDepth 4000 in
theorem fl_10_62 : mvFl.lookup (10, 62) = some (10, 31) := by decide +kernel
set_option maxRecDepth 4000 in
theorem fl_10_65 : mvFl.lookup (10, 65) = some (10, 32) := by decide +kernel
set_option maxRecDepth 4000 in
theorem fl_10_68 : mvFl.lookup (10, 68) = some (10, 33) := by decide +kernel
set_option maxRecDepth 4000 in
theorem fl_10_71 : mvFl.lookup (10, 71) = some (10, 34) := by decide +kernel
set_option maxRecDepth 4000 in
theorem fl_10_74 : mvFl.lookup (10, 74) = some (10, 35) := by decide +kernel
set_option maxRecDepth 4000 in
theorem fl_10_77 : mvFl.lookup (10, 77) = some (10, 36) := by decide +kernel
set_option maxRecDepth 4000 in
theorem fl_10_80 : mvFl.lookup (10, 80) = some (10, 37) := by decide +kernel
set_option maxRecDepth 4000 in
theorem fl_10_83 : mvFl.lookup (10, 83) = some (10, 38) := by decide +kernel
set_option maxRecDepth 4000 in
theorem fl_10_86 : mvFl.lookup (10, 86) = some (10, 39) := by decide +kernel
set_option maxRecDepth 4000 in
theorem fl_10_89 : mvFl.lookup (10, 89) = some (10, 41) := by decide +kernel
set_option maxRecDepth 4000 in
theorem fl_10_92 : mvFl.lookup (10, 92) = some (10, 42) := by decide +kernel
set_option maxRecDepth 4000 in
theorem lk_10_95 : mvMl.lookup (10, 95) = some (1, 38) := by decide +kernel
set_option maxRecDepth 4000 in
theorem fl_10_99 : mvFl.lookup (10, 99) = some (10, 17) := by decide +kernel
set_option maxRecDepth 4000 in
theorem fl_10_103 : mvFl.lookup (10, 103) = some (10, 19) := by decide +kernel
set_option maxRecDepth 4000 in
theorem fl_10_106 : mvFl.lookup (10, 106) = some (10, 20) := by decide +kernel
set_option maxRecDepth 4000 in
theorem fl_10_109 : mvFl.lookup (10, 109) = some (10, 21) := by decide +kernel
set_option maxRecDepth 4000 in
theorem lk_10_112 : mvMl.lookup (10, 112) = some (0, 40) := by decide +kernel
set_option maxRecDepth 4000 in
theorem lk_10_116 : mvMl.lookup (10, 116) = some (0, 112) := by decide +kernel
set_option maxRecDepth 4000 in
theorem lk_10_120 : mvMl.lookup (10, 120) = some (0, 159) := by decide +kernel
set_option maxRecDepth 4000 in
theorem lk_10_124 : mvMl.lookup (10, 124) = some (0, 42) := by decide +kernel
set_option maxRecDepth 4000 in
theorem lk_10_128 : mvMl.lookup (10, 128) = some (0, 113) := by decide +kernel
set_option maxRecDepth 4000 in
theorem lk_10_131 : mvMl.lookup (10, 131) = some (0, 41) := by decide +kernel
set_option maxRecDepth 4000 in
theorem lk_10_135 : mvMl.lookup (10, 135) = some (0, 160) := by decide +kernel
set_option maxRecDepth 4000 in
theorem fl_10_138 : mvFl.lookup (10, 138) = some (10, 0) := by decide +kernel
set_option maxRecDepth 4000 in
theorem fl_10_141 : mvFl.lookup (10, 141) = some (10, 9) := by decide +kernel
set_option maxRecDepth 4000 in
theorem lk_10_144 : mvMl.lookup (10, 144) = some (0, 189) := by decide +kernel
set_option maxRecDepth 4000 in
theorem fl_10_147 : mvFl.lookup (10, 147) = some (10, 10) := by decide +kernel
set_option maxRecDepth 4000 in
theorem fl_10_151 : mvFl.lookup (10, 151) = some (10, 12) := by decide +kernel
set_option maxRecDepth 4000 in
theorem lk_10_154 : mvMl.lookup (10, 154) = some (0, 161) := by decide +kernel
set_option maxRecDepth 4000 in
theorem lk_10_157 : mvMl.lookup (10, 157) = some (0, 115) := by decide +kernel
set_option maxRecDepth 4000 in
theorem lk_10_160 : mvMl.lookup (10, 160) = some (0, 44) := by decide +kernel
set_option maxRecDepth 4000 in
theorem lk_10_163 : mvMl.lookup (10, 163) = some (0, 114) := by decide +kernel
set_option maxRecDepth 4000 in
theorem lk_10_166 : mvMl.lookup (10, 166) = some (0, 45) := by decide +kernel
set_option maxRecDepth 4000 in
theorem lk_10_170 : mvMl.lookup (10, 170) = some (0, 116) := by decide +kernel
set_option maxRecDepth 4000 in
theorem lk_10_173 : mvMl.lookup (10, 173) = some (0, 46) := by decide +kernel
set_option maxRecDepth 4000 in
theorem lk_10_176 : mvMl.lookup (10, 176) = some (0, 117) := by decide +kernel
set_option maxRecDepth 4000 in
theorem lk_10_179 : mvMl.lookup (10, 179) = some (0, 211) := by decide +kernel
set_option maxRecDepth 4000 in
theorem lk_10_183 : mvMl.lookup (10, 183) = some (0, 162) := by decide +kernel
set_option maxRecDepth 4000 in
theorem lk_10_186 : mvMl.lookup (10, 186) = some (0, 47) := by decide +kernel
set_option maxRecDepth 4000 in
theorem lk_10_189 : mvMl.lookup (10, 189) = some (0, 48) := by decide +kernel
set_option maxRecDepth 4000 in
theorem lk_10_193 : mvMl.lookup (10, 193) = some (0, 118) := by decide +kernel
set_option maxRecDepth 4000 in
theorem lk_10_196 : mvMl.lookup (10, 196) = some (0, 50) := by decide +kernel
set_option maxRecDepth 4000 in
theorem lk_10_200 : mvMl.lookup (10, 200) = some (0, 53) := by decide +kernel
set_option maxRecDepth 4000 in
theorem lk_10_203 : mvMl.lookup (10, 203) = some (0, 58) := by decide +kernel
set_option maxRecDepth 4000 in
theorem lk_10_207 : mvMl.lookup (10, 207) = some (0, 57) := by decide +kernel
set_option maxRecDepth 4000 in
theorem lk_10_210 : mvMl.lookup (10, 210) = some (0, 121) := by decide +kernel
set_option maxRecDepth 4000 in
theorem fl_10_213 : mvFl.lookup (10, 213) = some (10, 7) := by decide +kernel
set_option maxRecDepth 4000 in
theorem lk_10_216 : mvMl.lookup (10, 216) = some (0, 163) := by decide +kernel
set_option maxRecDepth 4000 in
theorem lk_10_219 : mvMl.lookup (10, 219) = some (0, 122) := by decide +kernel
set_option maxRecDepth 4000 in
theorem fl_10_222 : mvFl.lookup (10, 222) = some (10, 8) := by decide +kernel
set_option maxRecDepth 4000 in
theorem lk_10_225 : mvMl.lookup (10, 225) = some (0, 120) := by decide +kernel
set_option maxRecDepth 4000 in
theorem lk_10_228 : mvMl.lookup (10, 228) = some (0, 123) := by decide +kernel
set_option maxRecDepth 4000 in
theorem lk_10_231 : mvMl.lookup (10, 231) = some (0, 49) := by decide +kernel
set_option maxRecDepth 4000 in
theorem lk_10_234 : mvMl.lookup (10, 234) = some (0, 55) := by decide +kernel
set_option maxRecDepth 4000 in
theorem lk_10_237 : mvMl.lookup (10, 237) = some (0, 192) := by decide +kernel
set_option maxRecDepth 4000 in
theorem lk_10_240 : mvMl.lookup (10, 240) = some (0, 56) := by decide +kernel
set_option maxRecDepth 4000 in
theorem lk_10_243 : mvMl.lookup (10, 243) = some (0, 124) := by decide +kernel
set_option maxRecDepth 4000 in
theorem lk_10_246 : mvMl.lookup (10, 246) = some (0, 51) := by decide +kernel
set_option maxRecDepth 4000 in
theorem lk_10_250 : mvMl.lookup (10, 250) = some (0, 52) := by decide +kernel
set_option maxRecDepth 4000 in
theorem lk_10_253 : mvMl.lookup (10, 253) = some (0, 225) := by decide +kernel
set_option maxRecDepth 4000 in
theorem lk_10_256 : mvMl.lookup (10, 256) = some (0, 213) := by decide +kernel
set_option maxRecDepth 4000 in
theorem lk_10_259 : mvMl.lookup (10, 259) = some (0, 164) := by decide +kernel
set_option maxRecDepth 4000 in
theorem lk_10_262 : mvMl.lookup (10, 262) = some (0, 43) := by decide +kernel
set_option maxRecDepth 4000 in
theorem lk_10_265 : mvMl.lookup (10, 265) = some (0, 54) := by decide +kernel
set_option maxRecDepth 4000 in
theorem lk_10_268 : mvMl.lookup (10, 268) = some (0, 243) := by decide +kernel
set_option maxRecDepth 4000 in
theorem lk_10_271 : mvMl.lookup (10, 271) = some (0, 125) := by decide +kernel
set_option maxRecDepth 4000 in
theorem lk_10_275 : mvMl.lookup (10, 275) = some (0, 126) := by decide +kernel
set_option maxRecDepth 4000 in
theorem lk_10_278 : mvMl.lookup (10, 278) = some (0, 127) := by decide +kernel
set_option maxRecDepth 4000 in
theorem lk_10_281 : mvMl.lookup (10, 281) = some (0, 169) := by decide +kernel
set_option maxRecDepth 4000 in
theorem lk_10_284 : mvMl.lookup (10, 284) = some (0, 226) := by decide +kernel
set_option maxRecDepth 4000 in
theorem lk_10_287 : mvMl.lookup (10, 287) = some (0, 128) := by decide +kernel
set_option maxRecDepth 4000 in
theorem lk_10_290 : mvMl.lookup (10, 290) = some (0, 119) := by decide +kernel
set_option maxRecDepth 4000 in
theorem lk_10_293 : mvMl.lookup (10, 293) = some (0, 227) := by decide +kernel
set_option maxRecDepth 4000 in
theorem lk_10_296 : mvMl.lookup (10, 296) = some (0, 130) := by decide +kernel
set_option maxRecDepth 4000 in
theorem lk_10_299 : mvMl.lookup (10, 299) = some (0, 171) := by decide +kernel
set_option maxRecDepth 4000 in
theorem lk_10_302 : mvMl.lookup (10, 302) = some (0, 228) := by decide +kernel
set_option maxRecDepth 4000 in
theorem lk_10_305 : mvMl.lookup (10, 305) = some (0, 172) := by decide +kernel
set_option maxRecDepth 4000 in
theorem lk_10_308 : mvMl.lookup (10, 308) = some (0, 131) := by decide +kernel
set_option maxRecDepth 4000 in
theorem lk_10_311 : mvMl.lookup (10, 311) = some (0, 230) := by decide +kernel
set_option maxRecDepth 4000 in
theorem lk_10_314 : mvMl.lookup (10, 314) = some (0, 173) := by decide +kernel
set_option maxRecDepth 4000 in
theorem lk_10_317 : mvMl.lookup (10, 317) = some (0, 174) := by decide +kernel
set_option maxRecDepth 4000 in
theorem lk_10_320 : mvMl.lookup (10, 320) = some (0, 193) := by decide +kernel
set_option maxRecDepth 4000 in
theorem lk_10_323 : mvMl.lookup (10, 323) = some (0, 132) := by decide +kernel
set_option maxRecDepth 4000 in
theorem lk_10_326 : mvMl.lookup (10, 326) = some (0, 214) := by decide +kernel
set_option maxRecDepth 4000 in
theorem lk_10_329 : mvMl.lookup (10, 329) = some (0, 59) := by decide +kernel
set_option maxRecDepth 4000 in
theorem lk_10_332 : mvMl.lookup (10, 332) = some (0, 196) := by decide +kernel
set_option maxRecDepth 4000 in
theorem lk_10_335 : mvMl.lookup (10, 335) = some (0, 195) := by decide +kernel
set_option maxRecDepth 4000 in
theorem lk_10_338 : mvMl.lookup (10, 338) = some (0, 232) := by decide +kernel
set_option maxRecDepth 4000 in
theorem fl_10_343 : mvFl.lookup (10, 343) = some (10, 40) := by decide +kernel
set_option maxRecDepth 4000 in
theorem lk_10_353 : mvMl.lookup (10, 353) = some (0, 61) := by decide +kernel
set_option maxRecDepth 4000 in
theorem lk_10_356 : mvMl.lookup (10, 356) = some (0, 60) := by decide +kernel
set_option maxRecDepth 4000 in
theorem lk_10_359 : mvMl.lookup (10, 359) = some (0, 133) := by decide +kernel
set_option maxRecDepth 4000 in
theorem fl_10_363 : mvFl.lookup (10, 363) = some (10, 43) := by decide +kernel
set_option maxRecDepth 4000 in
theorem fl_10_366 : mvFl.lookup (10, 366) = some (10, 15) := by decide +kernel
set_option maxRecDepth 4000 in
theorem lk_10_369 : mvMl.lookup (10, 369) = some (0, 135) := by decide +kernel
set_option maxRecDepth 4000 in
theorem lk_10_372 : mvMl.lookup (10, 372) = some (0, 136) := by decide +kernel
set_option maxRecDepth 4000 in
theorem lk_10_375 : mvMl.lookup (10, 375) = some (0, 176) := by decide +kernel
set_option maxRecDepth 4000 in
theorem fl_10_378 : mvFl.lookup (10, 378) = some (10, 14) := by decide +kernel
set_option maxRecDepth 4000 in
theorem lk_10_381 : mvMl.lookup (10, 381) = some (0, 197) := by decide +kernel
set_option maxRecDepth 4000 in
theorem lk_10_384 : mvMl.lookup (10, 384) = some (0, 215) := by decide +kernel
set_option maxRecDepth 4000 in
theorem fl_10_387 : mvFl.lookup (10, 387) = some (10, 13) := by decide +kernel
set_option maxRecDepth 4000 in
theorem fl_10_390 : mvFl.lookup (10, 390) = some (10, 16) := by decide +kernel
set_option maxRecDepth 4000 in
theorem lk_10_393 : mvMl.lookup (10, 393) = some (0, 62) := by decide +kernel
set_option maxRecDepth 4000 in
theorem lk_10_396 : mvMl.lookup (10, 396) = some (0, 63) := by decide +kernel
set_option maxRecDepth 4000 in
theorem lk_10_399 : mvMl.lookup (10, 399) = some (0, 138) := by decide +kernel
set_option maxRecDepth 4000 in
theorem fl_10_404 : mvFl.lookup (10, 404) = some (10, 44) := by decide +kernel
set_option maxRecDepth 4000 in
theorem lk_10_407 : mvMl.lookup (10, 407) = some (0, 64) := by decide +kernel
set_option maxRecDepth 4000 in
theorem lk_10_411 : mvMl.lookup (10, 411) = some (0, 198) := by decide +kernel
set_option maxRecDepth 4000 in
theorem lk_10_416 : mvMl.lookup (10, 416) = some (0, 249) := by decide +kernel
set_option maxRecDepth 4000 in
theorem lk_10_419 : mvMl.lookup (10, 419) = some (0, 250) := by decide +kernel
set_option maxRecDepth 4000 in
theorem lk_10_422 : mvMl.lookup (10, 422) = some (0, 251) := by decide +kernel
set_option maxRecDepth 4000 in
theorem lk_10_425 : mvMl.lookup (10, 425) = some (0, 139) := by decide +kernel
set_option maxRecDepth 4000 in
theorem lk_11_9 : mvMl.lookup (11, 9) = some (2, 178) := by decide +kernel
set_option maxRecDepth 4000 in
theorem lk_11_12 : mvMl.lookup (11, 12) = some (2, 110) := by decide +kernel
set_option maxRecDepth 4000 in
theorem lk_11_13 : mvMl.lookup (11, 13) = some (0, 67) := by decide +kernel
set_option maxRecDepth 4000 in
theorem lk_11_17 : mvMl.lookup (11, 17) = some (0, 111) := by decide +kernel
set_option maxRecDepth 4000 in
theorem lk_11_18 : mvMl.lookup (11, 18) = some (0, 0) := by decide +kernel
set_option maxRecDepth 4000 in
theorem lk_11_22 : mvMl.lookup (11, 22) = some (0, 39) := by decide +kernel
set_option maxRecDepth 4000 in
theorem lk_11_23 : mvMl.lookup (11, 23) = some (0, 140) := by decide +kernel
set_option maxRecDepth 4000 in
theorem lk_11_26 : mvMl.lookup (11, 26) = some (0, 188) := by decide +kernel
set_option maxRecDepth 4000 in
theorem lk_11_27 : mvMl.lookup (11, 27) = some (0, 216) := by decide +kernel
set_option maxRecDepth 4000 in
theorem lk_11_30 : mvMl.lookup (11, 30) = some (0, 210) := by decide +kernel
set_option maxRecDepth 4000 in
theorem lk_11_31 : mvMl.lookup (11, 31) = some (0, 234) := by decide +kernel
set_option maxRecDepth 4000 in
theorem lk_11_35 : mvMl.lookup (11, 35) = some (0, 222) := by decide +kernel
set_option maxRecDepth 4000 in
theorem lk_11_36 : mvMl.lookup (11, 36) = some (0, 235) := by decide +kernel
set_option maxRecDepth 4000 in
theorem lk_11_39 : mvMl.lookup (11, 39) = some (0, 223) := by decide +kernel
set_option maxRecDepth 4000 in
theorem lk_11_40 : mvMl.lookup (11, 40) = some (0, 236) := by decide +kernel
set_option maxRecDepth 4000 in
theorem lk_11_43 : mvMl.lookup (11, 43) = some (0, 224) := by decide +kernel
set_option maxRecDepth 4000 in
theorem lk_11_44 : mvMl.lookup (11, 44) = some (0, 217) := by decide +kernel
set_option maxRecDepth 4000 in
theorem lk_11_47 : mvMl.lookup (11, 47) = some (0, 212) := by decide +kernel
set_option maxRecDepth 4000 in
theorem lk_11_48 : mvMl.lookup (11, 48) = some (0, 141) := by decide +kernel
set_option maxRecDepth 4000 in
theorem lk_11_52 : mvMl.lookup (11, 52) = some (0, 190) := by decide +kernel
set_option maxRecDepth 4000 in
theorem lk_11_53 : mvMl.lookup (11, 53) = some (0, 142) := by decide +kernel
set_option maxRecDepth 4000 in
theorem lk_11_57 : mvMl.lookup (11, 57) = some (0, 191) := by decide +kernel
set_option maxRecDepth 4000 in
theorem lk_11_58 : mvMl.lookup (11, 58) = some (0, 199) := by decide +kernel
set_option maxRecDepth 4000 in
theorem lk_11_61 : mvMl.lookup (11, 61) = some (0, 253) := by decide +kernel
set_option maxRecDepth 4000 in
theorem lk_11_62 : mvMl.lookup (11, 62) = some (0, 68) := by decide +kernel
set_option maxRecDepth 4000 in
theorem lk_11_65 : mvMl.lookup (11, 65) = some (0, 165) := by decide +kernel
set_option maxRecDepth 4000 in
theorem lk_11_66 : mvMl.lookup (11, 66) = some (0, 179) := by decide +kernel
set_option maxRecDepth 4000 in
theorem lk_11_69 : mvMl.lookup (11, 69) = some (0, 166) := by decide +kernel
set_option maxRecDepth 4000 in
theorem lk_11_70 : mvMl.lookup (11, 70) = some (0, 200) := by decide +kernel
set_option maxRecDepth 4000 in
theorem lk_11_73 : mvMl.lookup (11, 73) = some (0, 167) := by decide +kernel
set_option maxRecDepth 4000 in
theorem lk_11_74 : mvMl.lookup (11, 74) = some (0, 201) := by decide +kernel
set_option maxRecDepth 4000 in
theorem lk_11_77 : mvMl.lookup (11, 77) = some (0, 168) := by decide +kernel
set_option maxRecDepth 4000 in
theorem lk_11_78 : mvMl.lookup (11, 78) = some (0, 202) := by decide +kernel
set_option maxRecDepth 4000 in
theorem lk_11_81 : mvMl.lookup (11, 81) = some (0, 244) := by decide +kernel
set_option maxRecDepth 4000 in
theorem lk_11_82 : mvMl.lookup (11, 82) = some (0, 203) := by decide +kernel
set_option maxRecDepth 4000 in
theorem lk_11_85 : mvMl.lookup (11, 85) = some (0, 245) := by decide +kernel
set_option maxRecDepth 4000 in
theorem lk_11_86 : mvMl.lookup (11, 86) = some (0, 143) := by decide +kernel
set_option maxRecDepth 4000 in
theorem lk_11_89 : mvMl.lookup (11, 89) = some (0, 129) := by decide +kernel
set_option maxRecDepth 4000 in
theorem lk_11_90 : mvMl.lookup (11, 90) = some (0, 144) := by decide +kernel
set_option maxRecDepth 4000 in
theorem lk_11_93 : mvMl.lookup (11, 93) = some (0, 170) := by decide +kernel
set_option maxRecDepth 4000 in
theorem lk_11_94 : mvMl.lookup (11, 94) = some (0, 237) := by decide +kernel
set_option maxRecDepth 4000 in
theorem lk_11_97 : mvMl.lookup (11, 97) = some (0, 246) := by decide +kernel
set_option maxRecDepth 4000 in
theorem lk_11_98 : mvMl.lookup (11, 98) = some (0, 238) := by decide +kernel
set_option maxRecDepth 4000 in
theorem lk_11_101 : mvMl.lookup (11, 101) = some (0, 229) := by decide +kernel
set_option maxRecDepth 4000 in
theorem lk_11_102 : mvMl.lookup (11, 102) = some (0, 239) := by decide +kernel
set_option maxRecDepth 4000 in
theorem lk_11_105 : mvMl.lookup (11, 105) = some (0, 247) := by decide +kernel
set_option maxRecDepth 4000 in
theorem lk_11_106 : mvMl.lookup (11, 106) = some (0, 204) := by decide +kernel
set_option maxRecDepth 4000 in
theorem lk_11_109 : mvMl.lookup (11, 109) = some (0, 231) := by decide +kernel
set_option maxRecDepth 4000 in
theorem lk_11_110 : mvMl.lookup (11, 110) = some (0, 145) := by decide +kernel
set_option maxRecDepth 4000 in
theorem lk_11_113 : mvMl.lookup (11, 113) = some (0, 194) := by decide +kernel
set_option maxRecDepth 4000 in
theorem lk_11_114 : mvMl.lookup (11, 114) = some (0, 240) := by decide +kernel
set_option maxRecDepth 4000 in
theorem lk_11_117 : mvMl.lookup (11, 117) = some (0, 248) := by decide +kernel
set_option maxRecDepth 4000 in
theorem lk_11_118 : mvMl.lookup (11, 118) = some (0, 205) := by decide +kernel
set_option maxRecDepth 4000 in
theorem lk_11_121 : mvMl.lookup (11, 121) = some (0, 175) := by decide +kernel
set_option maxRecDepth 4000 in
theorem lk_11_122 : mvMl.lookup (11, 122) = some (0, 1) := by decide +kernel
set_option maxRecDepth 4000 in
theorem lk_11_125 : mvMl.lookup (11, 125) = some (0, 134) := by decide +kernel
set_option maxRecDepth 4000 in
theorem lk_11_126 : mvMl.lookup (11, 126) = some (0, 241) := by decide +kernel
set_option maxRecDepth 4000 in
theorem lk_11_129 : mvMl.lookup (11, 129) = some (0, 233) := by decide +kernel
set_option maxRecDepth 4000 in
theorem lk_11_130 : mvMl.lookup (11, 130) = some (0, 69) := by decide +kernel
set_option maxRecDepth 4000 in
theorem lk_11_133 : mvMl.lookup (11, 133) = some (0, 137) := by decide +kernel
set_option maxRecDepth 4000 in
theorem lk_11_134 : mvMl.lookup (11, 134) = some (0, 70) := by decide +kernel
set_option maxRecDepth 4000 in
theorem lk_11_137 : mvMl.lookup (11, 137) = some (0, 177) := by decide +kernel
set_option maxRecDepth 4000 in
theorem lk_11_138 : mvMl.lookup (11, 138) = some (0, 252) := by decide +kernel
set_option maxRecDepth 4000 in
theorem lk_11_142 : mvMl.lookup (11, 142) = some (0, 254) := by decide +kernel
theorem mis3 : mvIs 97 3 = (0, 0, 0) := by decide +kernel
theorem mis4 : mvIs 97 4 = (0, 1, 0) := by decide +kernel
theorem mis5 : mvIs 97 5 = (1, 0, 36) := by decide +kernel
theorem mis6 : mvIs 97 6 = (0, 2, 0) := by decide +kernel
theorem mis7 : mvIs 97 7 = (1, 0, 4) := by decide +kernel
theorem mis8 : mvIs 97 8 = (1, 0, 36) := by decide +kernel
theorem mis9 : mvIs 97 9 = (1, 0, 36) := by decide +kernel
theorem mis10 : mvIs 97 10 = (1, 0, 36) := by decide +kernel
theorem mis11 : mvIs 97 11 = (1, 0, 144) := by decide +kernel
theorem mis12 : mvIs 97 12 = (1, 0, 40) := by decide +kernel
theorem mis13 : mvIs 97 13 = (1, 0, 40) := by decide +kernel
theorem mis14 : mvIs 97 14 = (1, 0, 4) := by decide +kernel
theorem mis15 : mvIs 97 15 = (0, 2, 0) := by decide +kernel
theorem mis16 : mvIs 97 16 = (1, 0, 4) := by decide +kernel
theorem mis17 : mvIs 97 17 = (1, 0, 36) := by decide +kernel
theorem mis18 : mvIs 97 18 = (1, 0, 36) := by decide +kernel
theorem mis19 : mvIs 97 19 = (1, 0, 36) := by decide +kernel
theorem mis20 : mvIs 97 20 = (1, 0, 144) := by decide +kernel
theorem mis21 : mvIs 97 21 = (1, 0, 40) := by decide +kernel
theorem mis22 : mvIs 97 22 = (1, 0, 40) := by decide +kernel
theorem mis23 : mvIs 97 23 = (1, 0, 4) := by decide +kernel
theorem mis24 : mvIs 97 24 = (0, 3, 0) := by decide +kernel
theorem mis25 : mvIs 97 25 = (1, 0, 18) := by decide +kernel
theorem mis26 : mvIs 97 26 = (1, 0, 4) := by decide +kernel
theorem mis27 : mvIs 97 27 = (1, 0, 625) := by decide +kernel
theorem mis28 : mvIs 97 28 = (1, 0, 625) := by decide +kernel
theorem mis29 : mvIs 97 29 = (1, 0, 625) := by decide +kernel
theorem mis30 : mvIs 97 30 = (1, 0, 625) := by decide +kernel
theorem mis31 : mvIs 97 31 = (0, 4, 0) := by decide +kernel
theorem mis32 : mvIs 97 32 = (1, 0, 4) := by decide +kernel
theorem mis33 : mvIs 97 33 = (0, 5, 0) := by decide +kernel
theorem mis34 : mvIs 97 34 = (1, 0, 16) := by decide +kernel
theorem mis35 : mvIs 97 35 = (1, 1, 625) := by decide +kernel
theorem mis36 : mvIs 97 36 = (0, 6, 0) := by decide +kernel
theorem mis37 : mvIs 97 37 = (1, 0, 4) := by decide +kernel
theorem mis38 : mvIs 97 38 = (1, 0, 20) := by decide +kernel
theorem mis39 : mvIs 97 39 = (1, 0, 20) := by decide +kernel
theorem mis40 : mvIs 97 40 = (1, 0, 4) := by decide +kernel
theorem mis41 : mvIs 97 41 = (0, 7, 0) := by decide +kernel
theorem mis42 : mvIs 97 42 = (0, 2, 0) := by decide +kernel
theorem mis43 : mvIs 97 43 = (1, 0, 4) := by decide +kernel
theorem mis44 : mvIs 97 44 = (1, 0, 36) := by decide +kernel
theorem mis45 : mvIs 97 45 = (1, 0, 36) := by decide +kernel
theorem mis46 : mvIs 97 46 = (1, 0, 36) := by decide +kernel
theorem mis47 : mvIs 97 47 = (1, 0, 144) := by decide +kernel
theorem mis48 : mvIs 97 48 = (1, 0, 40) := by decide +kernel
theorem mis49 : mvIs 97 49 = (1, 0, 40) := by decide +kernel
theorem mis50 : mvIs 97 50 = (1, 0, 4) := by decide +kernel
theorem mis51 : mvIs 97 51 = (0, 3, 0) := by decide +kernel
theorem mis52 : mvIs 97 52 = (1, 0, 18) := by decide +kernel
theorem mis53 : mvIs 97 53 = (1, 0, 4) := by decide +kernel
theorem mis54 : mvIs 97 54 = (1, 0, 625) := by decide +kernel
theorem mis55 : mvIs 97 55 = (1, 0, 625) := by decide +kernel
theorem mis56 : mvIs 97 56 = (1, 0, 625) := by decide +kernel
theorem mis57 : mvIs 97 57 = (1, 0, 625) := by decide +kernel
theorem mis58 : mvIs 97 58 = (0, 5, 0) := by decide +kernel
theorem mis59 : mvIs 97 59 = (1, 0, 16) := by decide +kernel
theorem mis60 : mvIs 97 60 = (1, 1, 625) := by decide +kernel
theorem mis61 : mvIs 97 61 = (0, 8, 0) := by decide +kernel
theorem mis62 : mvIs 97 62 = (1, 0, 16) := by decide +kernel
theorem mis63 : mvIs 97 63 = (0, 9, 0) := by decide +kernel
theorem mis64 : mvIs 97 64 = (1, 0, 16) := by decide +kernel
theorem mis65 : mvIs 97 65 = (1, 0, 16) := by decide +kernel
theorem mis66 : mvIs 97 66 = (1, 0, 16) := by decide +kernel
theorem mis67 : mvIs 97 67 = (1, 0, 4) := by decide +kernel
theorem mis68 : mvIs 97 68 = (0, 10, 0) := by decide +kernel
theorem mis69 : mvIs 97 69 = (1, 0, 4) := by decide +kernel
theorem mis70 : mvIs 97 70 = (1, 0, 36) := by decide +kernel
theorem mis71 : mvIs 97 71 = (1, 0, 36) := by decide +kernel
theorem mis72 : mvIs 97 72 = (1, 0, 36) := by decide +kernel
theorem mis73 : mvIs 97 73 = (1, 0, 144) := by decide +kernel
theorem mis74 : mvIs 97 74 = (1, 0, 4) := by decide +kernel
theorem mis75 : mvIs 97 75 = (1, 0, 16) := by decide +kernel
theorem mis76 : mvIs 97 76 = (1, 0, 36) := by decide +kernel
theorem mis77 : mvIs 97 77 = (1, 0, 4) := by decide +kernel
theorem mis78 : mvIs 97 78 = (1, 0, 36) := by decide +kernel
theorem mis79 : mvIs 97 79 = (1, 0, 36) := by decide +kernel
theorem mis80 : mvIs 97 80 = (1, 0, 4) := by decide +kernel
theorem mis81 : mvIs 97 81 = (1, 0, 4) := by decide +kernel
theorem mis82 : mvIs 97 82 = (1, 1, 640) := by decide +kernel
theorem mis83 : mvIs 97 83 = (1, 1, 640) := by decide +kernel
theorem mis84 : mvIs 97 84 = (1, 0, 640) := by decide +kernel
theorem mis85 : mvIs 97 85 = (1, 0, 640) := by decide +kernel
theorem mis86 : mvIs 97 86 = (1, 1, 640) := by decide +kernel
theorem mis87 : mvIs 97 87 = (1, 0, 640) := by decide +kernel
theorem mis88 : mvIs 97 88 = (1, 0, 4) := by decide +kernel
theorem mis89 : mvIs 97 89 = (1, 0, 4) := by decide +kernel
theorem mis90 : mvIs 97 90 = (1, 0, 4) := by decide +kernel
theorem mis91 : mvIs 97 91 = (1, 0, 4) := by decide +kernel
theorem mis92 : mvIs 97 92 = (1, 0, 36) := by decide +kernel
theorem mis93 : mvIs 97 93 = (1, 0, 36) := by decide +kernel
theorem mis94 : mvIs 97 94 = (1, 1, 36) := by decide +kernel
theorem mis95 : mvIs 97 95 = (1, 0, 4) := by decide +kernel
theorem mis96 : mvIs 97 96 = (1, 0, 16) := by decide +kernel
def evO (sw : Bool) : Nat := bif sw then 15 else 6
def evD (sw : Bool) : Nat := bif sw then 6 else 15
def EvId (e : Nat) : Prop := e = 6 ∨ e = 15 ∨ e = 42
def LtId (a : Nat) : Prop := a = 24 ∨ a = 51
def SeId (s : Nat) : Prop := s = 33 ∨ s = 58
theorem evO_id (sw : Bool) : EvId (evO sw) := by cases sw <;> simp [EvId, evO]
theorem evD_id (sw : Bool) : EvId (evD sw) := by cases sw <;> simp [EvId, evD]
theorem evO_ne (sw : Bool) : ¬ evO sw = 0 := by cases sw <;> decide
theorem evD_ne (sw : Bool) : ¬ evD sw = 0 := by cases sw <;> decide
theorem miE0 {x : Nat} (h : EvId x) : mvIs 97 x = (0, 2, 0) := by rcases h with rfl | rfl | rfl <;> decide +kernel
theorem miE1 {x : Nat} (h : EvId x) : mvIs 97 (x + 1) = (1, 0, 4) := by rcases h with rfl | rfl | rfl <;> decide +kernel
theorem miE2 {x : Nat} (h : EvId x) : mvIs 97 (x + 2) = (1, 0, 36) := by rcases h with rfl | rfl | rfl <;> decide +kernel
theorem miE3 {x : Nat} (h : EvId x) : mvIs 97 (x + 3) = (1, 0, 36) := by rcases h with rfl | rfl | rfl <;> decide +kernel
theorem miE4 {x : Nat} (h : EvId x) : mvIs 97 (x + 4) = (1, 0, 36) := by rcases h with rfl | rfl | rfl <;> decide +kernel
theorem miE5 {x : Nat} (h : EvId x) : mvIs 97 (x + 5) = (1, 0, 144) := by rcases h with rfl | rfl | rfl <;> decide +kernel
theorem miE6 {x : Nat} (h : EvId x) : mvIs 97 (x + 6) = (1, 0, 40) := by rcases h with rfl | rfl | rfl <;> decide +kernel
theorem miE7 {x : Nat} (h : EvId x) : mvIs 97 (x + 7) = (1, 0, 40) := by rcases h with rfl | rfl | rfl <;> decide +kernel
theorem miE8 {x : Nat} (h : EvId x) : mvIs 97 (x + 8) = (1, 0, 4) := by rcases h with rfl | rfl | rfl <;> decide +kernel
theorem miA0 {x : Nat} (h : LtId x) : mvIs 97 x = (0, 3, 0) := by rcases h with rfl | rfl <;> decide +kernel
theorem miA1 {x : Nat} (h : LtId x) : mvIs 97 (x + 1) = (1, 0, 18) := by rcases h with rfl | rfl <;> decide +kernel
theorem miA2 {x : Nat} (h : LtId x) : mvIs 97 (x + 2) = (1, 0, 4) := by rcases h with rfl | rfl <;> decide +kernel
theorem miA3 {x : Nat} (h : LtId x) : mvIs 97 (x + 3) = (1, 0, 625) := by rcases h with rfl | rfl <;> decide +kernel
theorem miA4 {x : Nat} (h : LtId x) : mvIs 97 (x + 4) = (1, 0, 625) := by rcases h with rfl | rfl <;> decide +kernel
theorem miA5 {x : Nat} (h : LtId x) : mvIs 97 (x + 5) = (1, 0, 625) := by rcases h with rfl | rfl <;> decide +kernel
theorem miA6 {x : Nat} (h : LtId x) : mvIs 97 (x + 6) = (1, 0, 625) := by rcases h with rfl | rfl <;> decide +kernel
theorem miS0 {x : Nat} (h : SeId x) : mvIs 97 x = (0, 5, 0) := by rcases h with rfl | rfl <;> decide +kernel
theorem miS1 {x : Nat} (h : SeId x) : mvIs 97 (x + 1) = (1, 0, 16) := by rcases h with rfl | rfl <;> decide +kernel
theorem miS2 {x : Nat} (h : SeId x) : mvIs 97 (x + 2) = (1, 1, 625) := by rcases h with rfl | rfl <;> decide +kernel
def mvRefs : List ((Nat × Nat) × Nat) := [((3, 0), 4), ((3, 3), 24), ((3, 4), 31), ((3, 5), 33), ((3, 6), 36), ((3, 7), 41), ((3, 8), 61), ((3, 9), 63), ((4, 0), 5), ((6, 2), 7), ((6, 3), 8), ((6, 4), 9), ((6, 5), 10), ((6, 6), 11), ((6, 7), 12), ((6, 8), 13), ((6, 9), 14), ((15, 2), 16), ((15, 3), 17), ((15, 4), 18), ((15, 5), 19), ((15, 6), 20), ((15, 7), 21), ((15, 8), 22), ((15, 9), 23), ((24, 4), 25), ((24, 5), 26), ((24, 6), 27), ((24, 7), 28), ((24, 8), 29), ((24, 9), 30), ((31, 2), 32), ((33, 2), 34), ((33, 5), 35), ((36, 0), 37), ((36, 1), 38), ((36, 2), 39), ((36, 3), 40), ((41, 0), 42), ((41, 1), 51), ((41, 2), 58), ((42, 2), 43), ((42, 3), 44), ((42, 4), 45), ((42, 5), 46), ((42, 6), 47), ((42, 7), 48), ((42, 8), 49), ((42, 9), 50), ((51, 4), 52), ((51, 5), 53), ((51, 6), 54), ((51, 7), 55), ((51, 8), 56), ((51, 9), 57), ((58, 2), 59), ((58, 5), 60), ((61, 1), 62), ((63, 5), 64), ((63, 6), 65), ((63, 7), 66), ((63, 8), 67), ((68, 1), 69), ((68, 2), 70), ((68, 3), 71), ((68, 4), 72), ((68, 5), 73), ((68, 6), 74), ((68, 11), 75), ((68, 18), 76), ((68, 22), 77), ((68, 23), 78), ((68, 24), 79), ((68, 25), 80), ((68, 26), 81), ((68, 27), 82), ((68, 28), 83), ((68, 29), 84), ((68, 30), 85), ((68, 31), 86), ((68, 32), 87), ((68, 33), 88), ((68, 34), 89), ((68, 35), 90), ((68, 36), 91), ((68, 37), 92), ((68, 38), 93), ((68, 39), 94), ((68, 41), 95), ((68, 42), 96)]
/-- the references as they stand once all is made; sw: which of the two computations is the present one -/
def Gok (sw : Bool) (g : Nat → Nat → Nat) : Prop := (∀ z ∈ mvRefs, g z.1.1 z.1.2 = z.2) ∧ g 3 1 = evO sw ∧ g 3 2 = evD sw
theorem gr_3_0 {sw : Bool} {g : Nat → Nat → Nat} (hG : Gok sw g) : g 3 0 = 4 := hG.1 ((3, 0), 4) (List.mem_of_getElem? (i := 0) rfl)
theorem gr_3_3 {sw : Bool} {g : Nat → Nat → Nat} (hG : Gok sw g) : g 3 3 = 24 := hG.1 ((3, 3), 24) (List.mem_of_getElem? (i := 1) rfl)
theorem gr_3_4 {sw : Bool} {g : Nat → Nat → Nat} (hG : Gok sw g) : g 3 4 = 31 := hG.1 ((3, 4), 31) (List.mem_of_getElem? (i := 2) rfl)
theorem gr_3_5 {sw : Bool} {g : Nat → Nat → Nat} (hG : Gok sw g) : g 3 5 = 33 := hG.1 ((3, 5), 33) (List.mem_of_getElem? (i := 3) rfl)
theorem gr_3_6 {sw : Bool} {g : Nat → Nat → Nat} (hG : Gok sw g) : g 3 6 = 36 := hG.1 ((3, 6), 36) (List.mem_of_getElem? (i := 4) rfl)
theorem gr_3_7 {sw : Bool} {g : Nat → Nat → Nat} (hG : Gok sw g) : g 3 7 = 41 := hG.1 ((3, 7), 41) (List.mem_of_getElem? (i := 5) rfl)
theorem gr_3_8 {sw : Bool} {g : Nat → Nat → Nat} (hG : Gok sw g) : g 3 8 = 61 := hG.1 ((3, 8), 61) (List.mem_of_getElem? (i := 6) rfl)
theorem gr_3_9 {sw : Bool} {g : Nat → Nat → Nat} (hG : Gok sw g) : g 3 9 = 63 := hG.1 ((3, 9), 63) (List.mem_of_getElem? (i := 7) rfl)
theorem gr_4_0 {sw : Bool} {g : Nat → Nat → Nat} (hG : Gok sw g) : g 4 0 = 5 := hG.1 ((4, 0), 5) (List.mem_of_getElem? (i := 8) rfl)
theorem gr_6_2 {sw : Bool} {g : Nat → Nat → Nat} (hG : Gok sw g) : g 6 2 = 7 := hG.1 ((6, 2), 7) (List.mem_of_getElem? (i := 9) rfl)
theorem gr_6_3 {sw : Bool} {g : Nat → Nat → Nat} (hG : Gok sw g) : g 6 3 = 8 := hG.1 ((6, 3), 8) (List.mem_of_getElem? (i := 10) rfl)
theorem gr_6_4 {sw : Bool} {g : Nat → Nat → Nat} (hG : Gok sw g) : g 6 4 = 9 := hG.1 ((6, 4), 9) (List.mem_of_getElem? (i := 11) rfl)
theorem gr_6_5 {sw : Bool} {g : Nat → Nat → Nat} (hG : Gok sw g) : g 6 5 = 10 := hG.1 ((6, 5), 10) (List.mem_of_getElem? (i := 12) rfl)
theorem gr_6_6 {sw : Bool} {g : Nat → Nat → Nat} (hG : Gok sw g) : g 6 6 = 11 := hG.1 ((6, 6), 11) (List.mem_of_getElem? (i := 13) rfl)
theorem gr_6_7 {sw : Bool} {g : Nat → Nat → Nat} (hG : Gok sw g) : g 6 7 = 12 := hG.1 ((6, 7), 12) (List.mem_of_getElem? (i := 14) rfl)
theorem gr_6_8 {sw : Bool} {g : Nat → Nat → Nat} (hG : Gok sw g) : g 6 8 = 13 := hG.1 ((6, 8), 13) (List.mem_of_getElem? (i := 15) rfl)
theorem gr_6_9 {sw : Bool} {g : Nat → Nat → Nat} (hG : Gok sw g) : g 6 9 = 14 := hG.1 ((6, 9), 14) (List.mem_of_getElem? (i := 16) rfl)
theorem gr_15_2 {sw : Bool} {g : Nat → Nat → Nat} (hG : Gok sw g) : g 15 2 = 16 := hG.1 ((15, 2), 16) (List.mem_of_getElem? (i := 17) rfl)
theorem gr_15_3 {sw : Bool} {g : Nat → Nat → Nat} (hG : Gok sw g) : g 15 3 = 17 := hG.1 ((15, 3), 17) (List.mem_of_getElem? (i := 18) rfl)
theorem gr_15_4 {sw : Bool} {g : Nat → Nat → Nat} (hG : Gok sw g) : g 15 4 = 18 := hG.1 ((15, 4), 18) (List.mem_of_getElem? (i := 19) rfl)
theorem gr_15_5 {sw : Bool} {g : Nat → Nat → Nat} (hG : Gok sw g) : g 15 5 = 19 := hG.1 ((15, 5), 19) (List.mem_of_getElem? (i := 20) rfl)
theorem gr_15_6 {sw : Bool} {g : Nat → Nat → Nat} (hG : Gok sw g) : g 15 6 = 20 := hG.1 ((15, 6), 20) (List.mem_of_getElem? (i := 21) rfl)
theorem gr_15_7 {sw : Bool} {g : Nat → Nat → Nat} (hG : Gok sw g) : g 15 7 = 21 := hG.1 ((15, 7), 21) (List.mem_of_getElem? (i := 22) rfl)
theorem gr_15_8 {sw : Bool} {g : Nat → Nat → Nat} (hG : Gok sw g) : g 15 8 = 22 := hG.1 ((15, 8), 22) (List.mem_of_getElem? (i := 23) rfl)
theorem gr_15_9 {sw : Bool} {g : Nat → Nat → Nat} (hG : Gok sw g) : g 15 9 = 23 := hG.1 ((15, 9), 23) (List.mem_of_getElem? (i := 24) rfl)
theorem gr_24_4 {sw : Bool} {g : Nat → Nat → Nat} (hG : Gok sw g) : g 24 4 = 25 := hG.1 ((24, 4), 25) (List.mem_of_getElem? (i := 25) rfl)
theorem gr_24_5 {sw : Bool} {g : Nat → Nat → Nat} (hG : Gok sw g) : g 24 5 = 26 := hG.1 ((24, 5), 26) (List.mem_of_getElem? (i := 26) rfl)
theorem gr_24_6 {sw : Bool} {g : Nat → Nat → Nat} (hG : Gok sw g) : g 24 6 = 27 := hG.1 ((24, 6), 27) (List.mem_of_getElem? (i := 27) rfl)
theorem gr_24_7 {sw : Bool} {g : Nat → Nat → Nat} (hG : Gok sw g) : g 24 7 = 28 := hG.1 ((24, 7), 28) (List.mem_of_getElem? (i := 28) rfl)
theorem gr_24_8 {sw : Bool} {g : Nat → Nat → Nat} (hG : Gok sw g) : g 24 8 = 29 := hG.1 ((24, 8), 29) (List.mem_of_getElem? (i := 29) rfl)
theorem gr_24_9 {sw : Bool} {g : Nat → Nat → Nat} (hG : Gok sw g) : g 24 9 = 30 := hG.1 ((24, 9), 30) (List.mem_of_getElem? (i := 30) rfl)
theorem gr_31_2 {sw : Bool} {g : Nat → Nat → Nat} (hG : Gok sw g) : g 31 2 = 32 := hG.1 ((31, 2), 32) (List.mem_of_getElem? (i := 31) rfl)
theorem gr_33_2 {sw : Bool} {g : Nat → Nat → Nat} (hG : Gok sw g) : g 33 2 = 34 := hG.1 ((33, 2), 34) (List.mem_of_getElem? (i := 32) rfl)
theorem gr_33_5 {sw : Bool} {g : Nat → Nat → Nat} (hG : Gok sw g) : g 33 5 = 35 := hG.1 ((33, 5), 35) (List.mem_of_getElem? (i := 33) rfl)
theorem gr_36_0 {sw : Bool} {g : Nat → Nat → Nat} (hG : Gok sw g) : g 36 0 = 37 := hG.1 ((36, 0), 37) (List.mem_of_getElem? (i := 34) rfl)
theorem gr_36_1 {sw : Bool} {g : Nat → Nat → Nat} (hG : Gok sw g) : g 36 1 = 38 := hG.1 ((36, 1), 38) (List.mem_of_getElem? (i := 35) rfl)
theorem gr_36_2 {sw : Bool} {g : Nat → Nat → Nat} (hG : Gok sw g) : g 36 2 = 39 := hG.1 ((36, 2), 39) (List.mem_of_getElem? (i := 36) rfl)
theorem gr_36_3 {sw : Bool} {g : Nat → Nat → Nat} (hG : Gok sw g) : g 36 3 = 40 := hG.1 ((36, 3), 40) (List.mem_of_getElem? (i := 37) rfl)
theorem gr_41_0 {sw : Bool} {g : Nat → Nat → Nat} (hG : Gok sw g) : g 41 0 = 42 := hG.1 ((41, 0), 42) (List.mem_of_getElem? (i := 38) rfl)
theorem gr_41_1 {sw : Bool} {g : Nat → Nat → Nat} (hG : Gok sw g) : g 41 1 = 51 := hG.1 ((41, 1), 51) (List.mem_of_getElem? (i := 39) rfl)
theorem gr_41_2 {sw : Bool} {g : Nat → Nat → Nat} (hG : Gok sw g) : g 41 2 = 58 := hG.1 ((41, 2), 58) (List.mem_of_getElem? (i := 40) rfl)
theorem gr_42_2 {sw : Bool} {g : Nat → Nat → Nat} (hG : Gok sw g) : g 42 2 = 43 := hG.1 ((42, 2), 43) (List.mem_of_getElem? (i := 41) rfl)
theorem gr_42_3 {sw : Bool} {g : Nat → Nat → Nat} (hG : Gok sw g) : g 42 3 = 44 := hG.1 ((42, 3), 44) (List.mem_of_getElem? (i := 42) rfl)
theorem gr_42_4 {sw : Bool} {g : Nat → Nat → Nat} (hG : Gok sw g) : g 42 4 = 45 := hG.1 ((42, 4), 45) (List.mem_of_getElem? (i := 43) rfl)
theorem gr_42_5 {sw : Bool} {g : Nat → Nat → Nat} (hG : Gok sw g) : g 42 5 = 46 := hG.1 ((42, 5), 46) (List.mem_of_getElem? (i := 44) rfl)
theorem gr_42_6 {sw : Bool} {g : Nat → Nat → Nat} (hG : Gok sw g) : g 42 6 = 47 := hG.1 ((42, 6), 47) (List.mem_of_getElem? (i := 45) rfl)
theorem gr_42_7 {sw : Bool} {g : Nat → Nat → Nat} (hG : Gok sw g) : g 42 7 = 48 := hG.1 ((42, 7), 48) (List.mem_of_getElem? (i := 46) rfl)
theorem gr_42_8 {sw : Bool} {g : Nat → Nat → Nat} (hG : Gok sw g) : g 42 8 = 49 := hG.1 ((42, 8), 49) (List.mem_of_getElem? (i := 47) rfl)
theorem gr_42_9 {sw : Bool} {g : Nat → Nat → Nat} (hG : Gok sw g) : g 42 9 = 50 := hG.1 ((42, 9), 50) (List.mem_of_getElem? (i := 48) rfl)
theorem gr_51_4 {sw : Bool} {g : Nat → Nat → Nat} (hG : Gok sw g) : g 51 4 = 52 := hG.1 ((51, 4), 52) (List.mem_of_getElem? (i := 49) rfl)
theorem gr_51_5 {sw : Bool} {g : Nat → Nat → Nat} (hG : Gok sw g) : g 51 5 = 53 := hG.1 ((51, 5), 53) (List.mem_of_getElem? (i := 50) rfl)
theorem gr_51_6 {sw : Bool} {g : Nat → Nat → Nat} (hG : Gok sw g) : g 51 6 = 54 := hG.1 ((51, 6), 54) (List.mem_of_getElem? (i := 51) rfl)
theorem gr_51_7 {sw : Bool} {g : Nat → Nat → Nat} (hG : Gok sw g) : g 51 7 = 55 := hG.1 ((51, 7), 55) (List.mem_of_getElem? (i := 52) rfl)
theorem gr_51_8 {sw : Bool} {g : Nat → Nat → Nat} (hG : Gok sw g) : g 51 8 = 56 := hG.1 ((51, 8), 56) (List.mem_of_getElem? (i := 53) rfl)
theorem gr_51_9 {sw : Bool} {g : Nat → Nat → Nat} (hG : Gok sw g) : g 51 9 = 57 := hG.1 ((51, 9), 57) (List.mem_of_getElem? (i := 54) rfl)
theorem gr_58_2 {sw : Bool} {g : Nat → Nat → Nat} (hG : Gok sw g) : g 58 2 = 59 := hG.1 ((58, 2), 59) (List.mem_of_getElem? (i := 55) rfl)
theorem gr_58_5 {sw : Bool} {g : Nat → Nat → Nat} (hG : Gok sw g) : g 58 5 = 60 := hG.1 ((58, 5), 60) (List.mem_of_getElem? (i := 56) rfl)
theorem gr_61_1 {sw : Bool} {g : Nat → Nat → Nat} (hG : Gok sw g) : g 61 1 = 62 := hG.1 ((61, 1), 62) (List.mem_of_getElem? (i := 57) rfl)
theorem gr_63_5 {sw : Bool} {g : Nat → Nat → Nat} (hG : Gok sw g) : g 63 5 = 64 := hG.1 ((63, 5), 64) (List.mem_of_getElem? (i := 58) rfl)
theorem gr_63_6 {sw : Bool} {g : Nat → Nat → Nat} (hG : Gok sw g) : g 63 6 = 65 := hG.1 ((63, 6), 65) (List.mem_of_getElem? (i := 59) rfl)
theorem gr_63_7 {sw : Bool} {g : Nat → Nat → Nat} (hG : Gok sw g) : g 63 7 = 66 := hG.1 ((63, 7), 66) (List.mem_of_getElem? (i := 60) rfl)
theorem gr_63_8 {sw : Bool} {g : Nat → Nat → Nat} (hG : Gok sw g) : g 63 8 = 67 := hG.1 ((63, 8), 67) (List.mem_of_getElem? (i := 61) rfl)
theorem gr_68_1 {sw : Bool} {g : Nat → Nat → Nat} (hG : Gok sw g) : g 68 1 = 69 := hG.1 ((68, 1), 69) (List.mem_of_getElem? (i := 62) rfl)
theorem gr_68_2 {sw : Bool} {g : Nat → Nat → Nat} (hG : Gok sw g) : g 68 2 = 70 := hG.1 ((68, 2), 70) (List.mem_of_getElem? (i := 63) rfl)
theorem gr_68_3 {sw : Bool} {g : Nat → Nat → Nat} (hG : Gok sw g) : g 68 3 = 71 := hG.1 ((68, 3), 71) (List.mem_of_getElem? (i := 64) rfl)
theorem gr_68_4 {sw : Bool} {g : Nat → Nat → Nat} (hG : Gok sw g) : g 68 4 = 72 := hG.1 ((68, 4), 72) (List.mem_of_getElem? (i := 65) rfl)
theorem gr_68_5 {sw : Bool} {g : Nat → Nat → Nat} (hG : Gok sw g) : g 68 5 = 73 := hG.1 ((68, 5), 73) (List.mem_of_getElem? (i := 66) rfl)
theorem gr_68_6 {sw : Bool} {g : Nat → Nat → Nat} (hG : Gok sw g) : g 68 6 = 74 := hG.1 ((68, 6), 74) (List.mem_of_getElem? (i := 67) rfl)
theorem gr_68_11 {sw : Bool} {g : Nat → Nat → Nat} (hG : Gok sw g) : g 68 11 = 75 := hG.1 ((68, 11), 75) (List.mem_of_getElem? (i := 68) rfl)
theorem gr_68_18 {sw : Bool} {g : Nat → Nat → Nat} (hG : Gok sw g) : g 68 18 = 76 := hG.1 ((68, 18), 76) (List.mem_of_getElem? (i := 69) rfl)
theorem gr_68_22 {sw : Bool} {g : Nat → Nat → Nat} (hG : Gok sw g) : g 68 22 = 77 := hG.1 ((68, 22), 77) (List.mem_of_getElem? (i := 70) rfl)
theorem gr_68_23 {sw : Bool} {g : Nat → Nat → Nat} (hG : Gok sw g) : g 68 23 = 78 := hG.1 ((68, 23), 78) (List.mem_of_getElem? (i := 71) rfl)
theorem gr_68_24 {sw : Bool} {g : Nat → Nat → Nat} (hG : Gok sw g) : g 68 24 = 79 := hG.1 ((68, 24), 79) (List.mem_of_getElem? (i := 72) rfl)
theorem gr_68_25 {sw : Bool} {g : Nat → Nat → Nat} (hG : Gok sw g) : g 68 25 = 80 := hG.1 ((68, 25), 80) (List.mem_of_getElem? (i := 73) rfl)
theorem gr_68_26 {sw : Bool} {g : Nat → Nat → Nat} (hG : Gok sw g) : g 68 26 = 81 := hG.1 ((68, 26), 81) (List.mem_of_getElem? (i := 74) rfl)
theorem gr_68_27 {sw : Bool} {g : Nat → Nat → Nat} (hG : Gok sw g) : g 68 27 = 82 := hG.1 ((68, 27), 82) (List.mem_of_getElem? (i := 75) rfl)
theorem gr_68_28 {sw : Bool} {g : Nat → Nat → Nat} (hG : Gok sw g) : g 68 28 = 83 := hG.1 ((68, 28), 83) (List.mem_of_getElem? (i := 76) rfl)
theorem gr_68_29 {sw : Bool} {g : Nat → Nat → Nat} (hG : Gok sw g) : g 68 29 = 84 := hG.1 ((68, 29), 84) (List.mem_of_getElem? (i := 77) rfl)
theorem gr_68_30 {sw : Bool} {g : Nat → Nat → Nat} (hG : Gok sw g) : g 68 30 = 85 := hG.1 ((68, 30), 85) (List.mem_of_getElem? (i := 78) rfl)
theorem gr_68_31 {sw : Bool} {g : Nat → Nat → Nat} (hG : Gok sw g) : g 68 31 = 86 := hG.1 ((68, 31), 86) (List.mem_of_getElem? (i := 79) rfl)
theorem gr_68_32 {sw : Bool} {g : Nat → Nat → Nat} (hG : Gok sw g) : g 68 32 = 87 := hG.1 ((68, 32), 87) (List.mem_of_getElem? (i := 80) rfl)
theorem gr_68_33 {sw : Bool} {g : Nat → Nat → Nat} (hG : Gok sw g) : g 68 33 = 88 := hG.1 ((68, 33), 88) (List.mem_of_getElem? (i := 81) rfl)
theorem gr_68_34 {sw : Bool} {g : Nat → Nat → Nat} (hG : Gok sw g) : g 68 34 = 89 := hG.1 ((68, 34), 89) (List.mem_of_getElem? (i := 82) rfl)
theorem gr_68_35 {sw : Bool} {g : Nat → Nat → Nat} (hG : Gok sw g) : g 68 35 = 90 := hG.1 ((68, 35), 90) (List.mem_of_getElem? (i := 83) rfl)
theorem gr_68_36 {sw : Bool} {g : Nat → Nat → Nat} (hG : Gok sw g) : g 68 36 = 91 := hG.1 ((68, 36), 91) (List.mem_of_getElem? (i := 84) rfl)
theorem gr_68_37 {sw : Bool} {g : Nat → Nat → Nat} (hG : Gok sw g) : g 68 37 = 92 := hG.1 ((68, 37), 92) (List.mem_of_getElem? (i := 85) rfl)
theorem gr_68_38 {sw : Bool} {g : Nat → Nat → Nat} (hG : Gok sw g) : g 68 38 = 93 := hG.1 ((68, 38), 93) (List.mem_of_getElem? (i := 86) rfl)
theorem gr_68_39 {sw : Bool} {g : Nat → Nat → Nat} (hG : Gok sw g) : g 68 39 = 94 := hG.1 ((68, 39), 94) (List.mem_of_getElem? (i := 87) rfl)
theorem gr_68_41 {sw : Bool} {g : Nat → Nat → Nat} (hG : Gok sw g) : g 68 41 = 95 := hG.1 ((68, 41), 95) (List.mem_of_getElem? (i := 88) rfl)
theorem gr_68_42 {sw : Bool} {g : Nat → Nat → Nat} (hG : Gok sw g) : g 68 42 = 96 := hG.1 ((68, 42), 96) (List.mem_of_getElem? (i := 89) rfl)
theorem gr_3_1 {sw : Bool} {g : Nat → Nat → Nat} (hG : Gok sw g) : g 3 1 = evO sw := hG.2.1
theorem gr_3_2 {sw : Bool} {g : Nat → Nat → Nat} (hG : Gok sw g) : g 3 2 = evD sw := hG.2.2
theorem mgE2 {x : Nat} {sw : Bool} {g : Nat → Nat → Nat} (h : EvId x) (hG : Gok sw g) : g x 2 = x + 1 := by
  rcases h with rfl | rfl | rfl
  · exact gr_6_2 hG
  · exact gr_15_2 hG
  · exact gr_42_2 hG
theorem mgE3 {x : Nat} {sw : Bool} {g : Nat → Nat → Nat} (h : EvId x) (hG : Gok sw g) : g x 3 = x + 2 := by
  rcases h with rfl | rfl | rfl
  · exact gr_6_3 hG
  · exact gr_15_3 hG
  · exact gr_42_3 hG
theorem mgE4 {x : Nat} {sw : Bool} {g : Nat → Nat → Nat} (h : EvId x) (hG : Gok sw g) : g x 4 = x + 3 := by
  rcases h with rfl | rfl | rfl
  · exact gr_6_4 hG
  · exact gr_15_4 hG
  · exact gr_42_4 hG
theorem mgE5 {x : Nat} {sw : Bool} {g : Nat → Nat → Nat} (h : EvId x) (hG : Gok sw g) : g x 5 = x + 4 := by
  rcases h with rfl | rfl | rfl
  · exact gr_6_5 hG
  · exact gr_15_5 hG
  · exact gr_42_5 hG
theorem mgE6 {x : Nat} {sw : Bool} {g : Nat → Nat → Nat} (h : EvId x) (hG : Gok sw g) : g x 6 = x + 5 := by
  rcases h with rfl | rfl | rfl
  · exact gr_6_6 hG
  · exact gr_15_6 hG
  · exact gr_42_6 hG
theorem mgE7 {x : Nat} {sw : Bool} {g : Nat → Nat → Nat} (h : EvId x) (hG : Gok sw g) : g x 7 = x + 6 := by
  rcases h with rfl | rfl | rfl
  · exact gr_6_7 hG
  · exact gr_15_7 hG
  · exact gr_42_7 hG
theorem mgE8 {x : Nat} {sw : Bool} {g : Nat → Nat → Nat} (h : EvId x) (hG : Gok sw g) : g x 8 = x + 7 := by
  rcases h with rfl | rfl | rfl
  · exact gr_6_8 hG
  · exact gr_15_8 hG
  · exact gr_42_8 hG
theorem mgE9 {x : Nat} {sw : Bool} {g : Nat → Nat → Nat} (h : EvId x) (hG : Gok sw g) : g x 9 = x + 8 := by
  rcases h with rfl | rfl | rfl
  · exact gr_6_9 hG
  · exact gr_15_9 hG
  · exact gr_42_9 hG
theorem mgA4 {x : Nat} {sw : Bool} {g : Nat → Nat → Nat} (h : LtId x) (hG : Gok sw g) : g x 4 = x + 1 := by
  rcases h with rfl | rfl
  · exact gr_24_4 hG
  · exact gr_51_4 hG
theorem mgA5 {x : Nat} {sw : Bool} {g : Nat → Nat → Nat} (h : LtId x) (hG : Gok sw g) : g x 5 = x + 2 := by
  rcases h with rfl | rfl
  · exact gr_24_5 hG
  · exact gr_51_5 hG
theorem mgA6 {x : Nat} {sw : Bool} {g : Nat → Nat → Nat} (h : LtId x) (hG : Gok sw g) : g x 6 = x + 3 := by
  rcases h with rfl | rfl
  · exact gr_24_6 hG
  · exact gr_51_6 hG
theorem mgA7 {x : Nat} {sw : Bool} {g : Nat → Nat → Nat} (h : LtId x) (hG : Gok sw g) : g x 7 = x + 4 := by
  rcases h with rfl | rfl
  · exact gr_24_7 hG
  · exact gr_51_7 hG
theorem mgA8 {x : Nat} {sw : Bool} {g : Nat → Nat → Nat} (h : LtId x) (hG : Gok sw g) : g x 8 = x + 5 := by
  rcases h with rfl | rfl
  · exact gr_24_8 hG
  · exact gr_51_8 hG
theorem mgA9 {x : Nat} {sw : Bool} {g : Nat → Nat → Nat} (h : LtId x) (hG : Gok sw g) : g x 9 = x + 6 := by
  rcases h with rfl | rfl
  · exact gr_24_9 hG
  · exact gr_51_9 hG
theorem mgS2 {x : Nat} {sw : Bool} {g : Nat → Nat → Nat} (h : SeId x) (hG : Gok sw g) : g x 2 = x + 1 := by
  rcases h with rfl | rfl
  · exact gr_33_2 hG
  · exact gr_58_2 hG
theorem mgS5 {x : Nat} {sw : Bool} {g : Nat → Nat → Nat} (h : SeId x) (hG : Gok sw g) : g x 5 = x + 2 := by
  rcases h with rfl | rfl
  · exact gr_33_5 hG
  · exact gr_58_5 hG
