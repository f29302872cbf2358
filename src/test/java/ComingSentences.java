/** Promises 14 to 20: what is uppermost by then, and who can be there. */
final class ComingSentences extends Sentences {
    // YES is UPPERMOST in the hours told, 14 or 11 at a time, and another WORD ahead of them.
    private static final String YES_FROM_96 = "rnnnny;s0,24,1;";
    private static final String YES_FROM_98 = "rnnnnnnny;s0,14,1;";
    private static final String YES_FROM_99 = "rnnnnnnnnny;s0,11,1;";
    private static final String YES_FROM_100 = "rnnnnny;s0,20,1;";

    // ---- 14, upper

    static void promise14Bounds() {
        says("UPPERMOST by n hours. BAD.");
        busy(anew()).refuses(BAD, "upper -1", "upper 201", "upper -200", "upper 202", "upper " + MIN, "upper " + MAX)
            .onlyAsks("upper 0", "upper 200");
        // 200 hours of 5 places each, and 8 times one more: 1008 is 12 times 84
        laid("rbyyyyyyyyyyn;s5,24,1;a0,0;").due("upper 200", B).due("upper 199", Y).due("upper 0", B);
    }

    static void promise14Hours() {
        says("UPPERMOST by n (0 to 200) hours from now on.");
        for (int[] law : new int[][] {{0, 24, 1}, {11, 1, 11}, {5, 7, 3}, {3, 23, 11}}) {
            String words = turned("ynpby", law[0], law[1], law[2], 223);
            String text = "rynpby;s" + law[0] + "," + law[1] + "," + law[2] + ";a0,0;";
            Oracle x = laid(text);
            for (int t = 0; t <= 200; t++) x.due("upper " + t, word(words.charAt(t)));
            Oracle later = laid(text).run("pass 23");
            for (int t = 0; t <= 200; t++) later.due("upper " + t, word(words.charAt(23 + t)));
        }
        Oracle x = laid("rynpb;s0,24,1;a0,0;").run("pass 23").due("upper 0", Y).due("upper 1", N)
            .due("upper 24", N).due("upper 25", P);
        x.due("upper 192", Y).due("upper 193", N).run("graze").due("upper 0", N).due("upper 200", P);
    }

    static void promise14Foot() {
        says("In an hour the WHEEL turns, but not under a FOOT");
        Oracle x = laid("rynpb;s1,12,1;a0,0;").run("foot 12").due("upper 0", Y).due("upper 12", Y)
            .due("upper 13", N).due("upper 23", B);
        // from hour 13 on 188 hours go by, and 24, 36, .., 192 and so on are 15 of X
        x.due("upper 24", N).due("upper 200", word("ynpb".charAt((188 + 15) % 4))).run("pass 11").due("upper 1", Y)
            .due("upper 2", N);
        laid("rynpb;s1,24,0;a0,0;").run("foot 1").uppers("yynpb");
    }

    // ---- 15, round

    static void promise15Fewest() {
        says("ROUND: the fewest hours n (1 to 288) such that for each m of 0 to 287 the same WORD is UPPERMOST behind m"
            + " and behind n and m hours");
        laid("rnnn;s1,24,0;a0,0;").due("round", 1);
        laid("rynp;s0,24,0;a0,0;").due("round", 1);
        for (int n = 2; n <= 12; n++) laid("rb" + "y".repeat(n - 1) + ";s1,24,0;a0,0;").due("round", n);
        laid("rynpbynpbynpb;s1,24,0;a0,0;").due("round", 4);
        laid("ryyyyyyyyyyn;s0,24,1;a0,0;").due("round", 264);
        laid("ryyyyyyyyyyyn;s0,23,1;a0,0;").due("round", 276);
        laid("ryyyyyyyyyyyn;s0,24,1;a0,0;").due("round", 288).run("pass 7").due("round", 288).run("pass 48, graze")
            .due("round", 288);
        // alike for nearly a day, and then not
        laid("ryn;s1,24,1;a0,0;").due("round", 48).run("pass 24").due("round", 48);
        laid("ryyyyyyyyyyyb;s1,24,1;a0,0;").due("round", 288);
        laid("ryyyyyyyyyyyb;s1,23,1;a0,0;").due("round", 23);
        busy(anew()).run("pass 4").due("count 5", 0).onlyAsks("round").due("round", 30);
    }

    static void promise15Foot() {
        says("ROUND. NONE (a FOOT is on, too).");
        Oracle x = laid("rynp;s1,24,0;a0,0;").due("round", 3).run("foot 12").refuses(NONE, "round")
            .run("pass 11").refuses(NONE, "round");
        x.run("pass 1").due("round", 3);
        laid("rynp;s1,24,0;a0,0;").run("foot 1").refuses(NONE, "round").run("undo").due("round", 3)
            .run("foot 1, pass 1").due("round", 3);
    }

    static void promise15NoneUnderAFoot() {
        says("none, if hours of a FOOT are left.");
        laid("rnn;a0,0;").run("foot 1").due("round", NONE).run("pass 2").due("round", 1);
        laid("ryn;s0,24,0;a0,0;").run("foot 5, pass 4").due("round", NONE).run("pass 1").due("round", 1);
        busy(anew()).refuses(NONE, "round");
    }

    // ---- 16, top

    static void promise16Fewest() {
        says("TOP of an ASKER: the fewest hours (0 to 99) behind which he can be on top, by WAYS and waiting");
        Oracle x = laid("h4;w0,1,0,12;w0,2,1,5;w0,0,2,9;w0,2,3,1;a0,0;a1,0;a2,0;a3,0;").onlyAsks("top 0", "top 3");
        x.due("top 0", 0).due("top 1", 12).due("top 2", 9).due("top 3", 10);
        laid("h1;a0,3;").due("top 0", 0);
        laid("h8;w0,7,6,12;w0,6,5,12;w0,5,4,12;w0,4,3,12;w0,3,2,12;w0,2,1,12;w0,1,0,12;a7,0;").due("top 0", 84);
    }

    static void promise16LastHour() {
        says("the fewest hours (0 to 99) behind which he can be on top");
        Oracle x = laid(YES_FROM_96 + "w3,1,0,3;w3,2,0,4;a1,0;a2,0;").due("top 0", 99).refuses(NONE, "top 1");
        x.run("pass 1").due("top 0", 98).due("top 1", 99);
        laid(YES_FROM_98 + "w3,1,0,1;w3,2,0,2;a1,0;a2,0;").due("top 0", 99).due("top 1", NONE);
        laid(YES_FROM_99 + "w3,1,0,1;a1,0;").refuses(NONE, "top 0").run("pass 1").due("top 0", 99);
        laid(YES_FROM_100 + "w3,1,0,1;a1,0;").refuses(NONE, "top 0").run("pass 1").due("top 0", NONE).run("pass 1")
            .due("top 0", 99);
    }

    static void promise16Waiting() {
        says("by WAYS and waiting");
        laid("w2,1,0,10;a1,0;").due("top 0", 11).run("pass 1").due("top 0", 10).run("pass 1").due("top 0", 10)
            .run("pass 1").due("top 0", 11);
        laid("w1,1,0,10;a1,0;").due("top 0", 10).run("pass 1").due("top 0", 11);
        laid("w1,1,0,1;a1,0;").due("top 0", 1).run("pass 1").due("top 0", 2);
        laid("rnpby;s1,24,0;w3,0,1,2;a1,0;").due("top 0", 5).run("pass 3").due("top 0", 2).run("pass 1")
            .due("top 0", 5);
        // he is at the stair by hour 3, and waits for hour 4; at the goats by hour 6, and waits for 7
        laid("w0,2,1,3;w1,1,0,5;a2,0;").due("top 0", 9).run("pass 1").due("top 0", 8);
        laid("w0,2,1,6;w2,1,0,5;a2,0;").due("top 0", 12).run("pass 2").due("top 0", 11);
    }

    static void promise16HourWhenBegun() {
        says("A WAY takes D hours either way, a STAIR twice as many, if it is an odd hour when it is begun; one of GOATS can not be begun");
        // by the hour in which he comes to it, whatever it is now
        for (int hours = 1; hours <= 6; hours++) {
            Oracle goats = laid("w0,2,1," + hours + ";w2,1,0,5;a2,0;");
            Oracle stair = laid("w0,2,1," + hours + ";w1,1,0,9;a2,0;");
            for (int hour = 0; hour <= 6; hour++) {
                int there = hour + hours;
                goats.due("top 0", hours + 5 + (there % 3 == 0 ? 1 : 0)).run("pass 1");
                stair.due("top 0", hours + 9 + (there % 2 == 1 ? 1 : 0)).run("pass 1");
            }
        }
    }

    static void promise16UnderWay() {
        says("(under way he goes on to where he is going first); none.");
        Oracle x = laid("w0,1,2,5;w0,1,0,3;w0,2,0,9;a1,0;").due("top 0", 3).run("setOut 0 0").due("top 0", 13)
            .run("pass 2").due("top 0", 11);
        x.run("pass 2").due("top 0", 9).run("pass 1").due("top 0", 8);
        laid("w1,1,0,12;a1,0;").run("pass 1, setOut 0 0").due("top 0", 24).run("pass 23").due("top 0", 1)
            .run("pass 1").due("top 0", 0);
        laid("w0,1,0,12;a0,0;").run("setOut 0 0").due("top 0", 24).run("pass 11").due("top 0", 13);
    }

    static void promise16None() {
        says("TOP. NONE; BAD.");
        laid("a3,0;").refuses(NONE, "top 0");
        laid("w0,1,2,1;w0,0,3,1;a1,0;a2,0;a3,0;").refuses(NONE, "top 0", "top 1").due("top 2", 1);
        laid("rnp;w3,1,0,1;a1,0;").refuses(NONE, "top 0");
        laid("ryn;s0,24,0;w3,1,2,5;w0,1,0,1;a1,0;").run("setOut 0 0").due("top 0", 11).run("graze")
            .refuses(NONE, "top 0");
    }

    static void promise16Bad() {
        says("BAD.");
        busy(anew()).refuses(BAD, "top -1", "top 3", "top 4", "top " + MIN, "top " + MAX);
        laid("a0,0;").due("top 0", 0).refuses(BAD, "top 1", "top -1");
        laid("a3,0;a3,0;a3,0;a0,0;").due("top 3", 0).refuses(BAD, "top 4");
    }

    static void promise16Foot() {
        says("In an hour the WHEEL turns, but not under a FOOT");
        laid("ryn;s1,24,0;w0,2,1,1;w3,1,0,1;a2,0;").due("top 0", 3).run("foot 1").due("top 0", 2);
        laid("ryn;s1,24,0;w3,1,0,1;a1,0;").run("pass 1, foot 12").due("top 0", 14).run("pass 12").due("top 0", 2);
    }

    // ---- 17, read

    static void promise17Fewest() {
        says("READ of a WORD: the fewest (0 to 99) behind which he can be there, and it is UPPERMOST");
        Oracle x = laid("rynpb;s1,24,0;w0,0,1,2;a1,0;a0,0;").due("read 0 0", 4).due("read 0 1", 5)
            .due("read 0 2", 2).due("read 0 3", 3);
        x.due("read 1 0", 0).due("read 1 1", 1).due("read 1 2", 2).due("read 1 3", 3).onlyAsks("read 0 3", "read 1 3");
        x.run("setOut 0 0, pass 1").due("read 0 1", 4).due("read 0 2", 1).due("read 1 1", 0).run("foot 3")
            .due("read 0 2", 4).due("read 0 1", 1);
    }

    static void promise17LastHour() {
        says("(0 to 99) behind which he can be there, and it is UPPERMOST");
        laid(YES_FROM_99 + "a0,0;").due("read 0 0", 99).due("read 0 1", 0).run("pass 1").due("read 0 0", 98);
        laid(YES_FROM_100 + "a0,0;").refuses(NONE, "read 0 0").run("pass 1").due("read 0 0", 99);
        // on top behind 99 hours: what is UPPERMOST ahead of that he does not read
        laid(YES_FROM_98 + "w3,1,0,1;a1,0;").due("read 0 0", 99).refuses(NONE, "read 0 1", "read 0 2");
        laid(YES_FROM_98 + "w3,1,0,2;a1,0;").refuses(NONE, "read 0 0", "read 0 1").run("pass 1").due("read 0 0", 99);
    }

    static void promise17None() {
        says("behind which he can be there, and it is UPPERMOST; none.");
        laid("ryn;a0,0;a3,0;").refuses(NONE, "read 0 2", "read 0 3", "read 1 0", "read 1 1").due("read 0 1", 1);
        laid("ryn;s0,24,0;a0,0;").due("read 0 0", 0).refuses(NONE, "read 0 1");
    }

    static void promise17Bad() {
        says("READ. NONE; BAD.");
        busy(anew()).refuses(BAD, "read -1 0", "read 3 0", "read 0 -1", "read 0 4", "read 0 5", "read 3 4",
            "read 2 " + MAX, "read 2 " + MIN);
        anew().refuses(BAD, "read " + MIN + " 0", "read " + MAX + " 0").onlyAsks("read 0 0", "read 2 3");
        laid("a0,0;a0,0;a0,0;a0,0;").due("read 3 0", 0).refuses(BAD, "read 4 0", "read 3 4");
    }

    // ---- 18, both

    static void promise18Fewest() {
        says("BOTH: the fewest (0 to 99) behind which each of two can be there, and the WORD is UPPERMOST");
        Oracle x = laid("rynpb;s1,24,0;w0,0,1,2;w0,2,0,5;a1,0;a2,0;a0,0;").onlyAsks("both 0 1 0", "both 2 1 3");
        x.due("both 0 1 1", 5).due("both 1 0 1", 5).due("both 0 1 2", 6).due("both 0 1 3", 7).due("both 0 1 0", 8)
            .due("both 1 0 0", 8);
        x.due("both 0 2 2", 2).due("both 2 0 2", 2).due("both 0 2 1", 5).due("both 2 0 0", 4).due("both 1 2 1", 5);
        x.run("setOut 0 0, pass 1, foot 2").due("both 0 2 1", 1).due("both 0 2 2", 3).run("pass 48")
            .due("both 0 2 2", 3);
        laid("ryn;s1,24,0;a0,0;a0,0;").due("both 0 1 0", 0).due("both 1 0 1", 1);
    }

    static void promise18LastHour() {
        says("(0 to 99) behind which each of two can be there");
        laid(YES_FROM_99 + "a0,0;a0,1;").due("both 0 1 0", 99).due("both 1 0 0", 99).due("both 0 1 1", 0);
        laid(YES_FROM_100 + "a0,0;a0,1;").refuses(NONE, "both 0 1 0").run("pass 1").due("both 0 1 0", 99);
        laid(YES_FROM_98 + "w3,1,0,1;w3,2,0,2;a1,0;a2,0;a0,0;").due("both 0 2 0", 99)
            .refuses(NONE, "both 0 2 1", "both 0 1 0", "both 1 2 0");
    }

    static void promise18None() {
        says("and the WORD is UPPERMOST; none.");
        laid("ryn;a0,0;a0,1;a3,0;a3,0;").refuses(NONE, "both 0 1 2", "both 0 2 0", "both 2 0 0", "both 2 3 0",
            "both 3 2 1");
    }

    static void promise18Bad() {
        says("BOTH. NONE; BAD (alike, too).");
        busy(anew()).refuses(BAD, "both 0 0 0", "both 1 1 0", "both 2 2 3", "both -1 0 0", "both 0 -1 0",
            "both 3 0 0", "both 0 3 0");
        busy(anew()).refuses(BAD, "both 0 1 -1", "both 0 1 4", "both 3 3 0", "both -1 -1 0", "both 0 0 4",
            "both 1 0 " + MAX);
        anew().refuses(BAD, "both " + MIN + " 0 0", "both 0 " + MAX + " 0", "both 0 1 " + MIN);
        laid("a0,0;".repeat(4)).due("both 3 2 0", 0).due("both 2 3 0", 0)
            .refuses(BAD, "both 4 3 0", "both 3 4 0", "both 3 3 0");
        laid("a0,0;").refuses(BAD, "both 0 0 0", "both 0 1 0", "both 1 0 0");
    }

    // ---- 19, hold

    static void promise19HowFew() {
        says("HOLD: for how few hours (0: for none; to 12) a FOOT has to be put on now so that, with it, what is UPPERMOST"
            + " at his TOP is what an ASKER wants");
        for (int n = 1; n <= 12; n++) {
            // at his TOP it turns for the first time, and a foot for less hours does not hold it
            laid("ryn;s0," + n + ",1;w0,1,0," + n + ";a1,0;a1,1;").due("hold 0", n).due("hold 1", 0).due("count 5", 0);
        }
        laid("ryn;s1,24,0;w0,1,0,4;a1,1;a1,0;").due("hold 0", 1).due("hold 1", 0).onlyAsks("hold 0", "hold 1");
        laid("rynpb;s1,24,0;w0,1,0,5;a1,0;a1,3;a1,2;a1,1;").due("hold 0", 1).due("hold 1", 2).due("hold 2", 3)
            .due("hold 3", 0);
        laid("ryn;s0,24,0;a0,0;a0,1;").due("hold 0", 0).due("hold 1", NONE);
        Oracle x = laid("ryn;s0,7,1;w0,1,0,9;a1,0;").run("setOut 0 0, pass 4").due("hold 0", 3).run("pass 2")
            .due("hold 0", 1);
        x.run("pass 1").due("hold 0", NONE);
    }

    static void promise19MostHours() {
        says("(0: for none; to 12)");
        laid("ryn;s0,13,1;w0,2,1,12;w0,1,0,1;a2,0;a2,1;").refuses(NONE, "hold 0").due("hold 1", 0).run("pass 1")
            .due("hold 0", 12);
        laid("ryn;s0,13,1;w0,2,1,12;w0,1,0,1;a2,0;").run("setOut 0 0, pass 1").due("hold 0", 12);
    }

    static void promise19WithIt() {
        says("with it, what is UPPERMOST at his TOP");
        // the foot moves TOP: he waits for YES as long as it is on, and reads N then, or goes sooner
        laid("rbyn;s1,24,0;w3,1,0,1;a1,3;a1,1;").due("hold 0", NONE).due("hold 1", 0);
        laid("rypn;s1,24,0;w0,2,1,1;w3,1,0,1;a2,0;a2,2;a2,1;").due("hold 0", 2).due("hold 1", 0).due("hold 2", NONE);
    }

    static void promise19None() {
        says("HOLD. NONE; BAD.");
        laid("a3,0;").refuses(NONE, "hold 0");
        laid("rnn;w0,1,0,3;a1,0;a0,0;").refuses(NONE, "hold 0", "hold 1");
        laid(YES_FROM_98 + "w3,1,0,1;w3,2,0,2;a1,0;a2,0;").due("hold 0", 0).refuses(NONE, "hold 1");
    }

    static void promise19PutOnBefore() {
        says("none (if it was put on before: 0, if it is so without, else none).");
        Oracle x = laid("ryn;s1,24,0;w0,1,0,5;a1,0;a1,1;").due("hold 0", 1).due("hold 1", 0).run("foot 2");
        // with two hours of it three are left to turn: N
        x.refuses(NONE, "hold 0").due("hold 1", 0).run("undo, foot 1").due("hold 0", 0).refuses(NONE, "hold 1");
        x.run("pass 1").due("hold 0", NONE).due("hold 1", 0).run("pass 1").due("hold 0", 0).due("hold 1", NONE);
        x.run("undo, undo, undo").due("hold 0", 1);
    }

    static void promise19Bad() {
        says("BAD.");
        busy(anew()).refuses(BAD, "hold -1", "hold 3", "hold 4", "hold " + MIN, "hold " + MAX);
        laid("a0,0;a0,0;a0,0;a0,0;").due("hold 3", 0).refuses(BAD, "hold 4", "hold -1");
    }

    // ---- 20, first

    static void promise20Lowest() {
        says("FIRST: the lowest WAY by which he can SET OUT now and be on top at TOP still");
        laid("w0,1,2,9;w0,1,0,9;w1,0,1,9;a1,0;").due("first 0", 1).onlyAsks("first 0");
        laid("w0,1,0,10;w0,1,0,9;w0,0,1,9;a1,0;").due("first 0", 1);
        laid("w0,1,0,9;w0,1,2,1;w0,2,0,8;a1,0;").due("first 0", 0);
        laid("w0,1,2,1;w0,1,0,9;w0,2,0,8;a1,0;").due("first 0", 0);
        laid("w0,1,2,1;w0,1,0,8;w0,2,0,8;a1,0;").due("first 0", 1);
        laid("h3;" + "w0,0,2,1;".repeat(9) + "w0,0,1,12;a1,0;a2,0;").due("first 0", 9).due("first 1", 0);
        laid("w0,2,0,1;w0,1,0,12;a1,0;").due("first 0", 1).run("setOut 0 1, pass 12").due("first 0", NONE);
        // a stair in an odd hour: at once or an hour later is the same by D of 1
        laid("w1,1,0,1;a1,0;").run("pass 1").due("first 0", 0);
        // there and back is in time for the YES of hour 8
        laid("rynnnnnnn;s1,24,0;w0,1,2,2;w3,1,0,3;a1,0;").run("pass 1").due("first 0", 0);
    }

    static void promise20HourWhenBegun() {
        says("one of GOATS can not be begun, if the hour is 0 modulo 3");
        // straight is as soon as by goats for whom he has to wait an hour, and an hour later than by others
        for (int hours = 1; hours <= 6; hours++) {
            Oracle x = laid("s0,24,0;w0,2,0," + (hours + 6) + ";w0,2,1," + hours + ";w2,1,0,5;a2,0;");
            for (int hour = 0; hour <= 6; hour++) x.due("first 0", (hour + hours) % 3 == 0 ? 0 : 1).run("pass 1");
        }
    }

    static void promise20Wait() {
        says("10, if there is none, and he has to wait");
        laid("w2,1,0,9;a1,0;").due("first 0", 10).run("pass 1").due("first 0", 0).run("pass 1").due("first 0", 0)
            .run("pass 1").due("first 0", 10);
        laid("rny;s1,24,0;w3,1,0,9;a1,0;").due("first 0", 10).run("pass 1").due("first 0", 0);
        laid("w1,1,0,2;a1,0;").due("first 0", 0).run("pass 1").due("first 0", 10);
        laid("w0,2,3,1;".repeat(9) + "w2,1,0,9;a1,0;").due("first 0", 10).run("pass 1").due("first 0", 9);
        laid(YES_FROM_98 + "w3,1,0,1;a1,0;").due("top 0", 99).due("first 0", 10).run("pass 48, pass 48, pass 1")
            .due("first 0", 10);
        // here he need not wait where he is
        laid(YES_FROM_98 + "w3,1,0,1;w0,2,1,1;a1,0;a2,0;").due("top 0", 99).due("first 0", 1).due("top 1", 99)
            .due("first 1", 1);
    }

    static void promise20None() {
        says("none (under way, on top, no TOP).");
        Oracle x = laid("w0,1,0,5;w0,0,2,1;a1,0;a0,0;a3,0;").refuses(NONE, "first 1", "first 2").due("first 0", 0)
            .run("setOut 0 0");
        x.refuses(NONE, "first 0").run("pass 4").refuses(NONE, "first 0").run("pass 1").refuses(NONE, "first 0")
            .due("top 0", 0);
        laid("w0,1,2,5;w0,1,0,5;a1,0;").run("setOut 0 0, pass 4").refuses(NONE, "first 0").run("pass 1")
            .due("first 0", 0);
        laid("w0,0,1,5;a0,0;").run("setOut 0 0, pass 4").refuses(NONE, "first 0").run("pass 1").due("first 0", 0);
        laid(YES_FROM_98 + "w3,2,0,2;a2,0;").refuses(NONE, "first 0").run("pass 1").due("first 0", 10);
        laid("w0,1,2,1;a1,0;").refuses(NONE, "first 0");
    }

    static void promise20Bad() {
        says("FIRST WAY. NONE; BAD.");
        busy(anew()).refuses(BAD, "first -1", "first 3", "first 4", "first " + MIN, "first " + MAX);
        laid("w0,1,0,1;" + "a1,0;".repeat(4)).due("first 3", 0).refuses(BAD, "first 4", "first -1");
    }
}
