/** Promises 9 to 13: hours that go by, askers that set out, a foot, goats, and undoing. */
final class HourSentences extends Sentences {

    // ---- 9, pass

    static void promise09Bounds() {
        says("n hours (1 to 48) go by: what is UPPERMOST.");
        laid("rynpb;s1,24,0;a0,0;").due("pass 1", N).due("count 4", 1).due("pass 48", N).due("count 4", 49)
            .due("pass 47", Y);
    }

    static void promise09Bad() {
        says("BAD.");
        busy(anew()).refuses(BAD, "pass 0", "pass 49", "pass -1", "pass 50", "pass " + MIN, "pass " + MAX);
        anew().refuses(BAD, "pass 0", "pass 49").due("count 4", 0);
    }

    static void promise09Turns() {
        says("it turns S (0 to 11) places in an hour, X (0 to 11) more, if the hour is 0 modulo E (1 to 24) behind it");
        for (int[] law : new int[][] {{0, 24, 1}, {1, 24, 0}, {11, 1, 11}, {0, 1, 1}, {5, 7, 3}, {3, 23, 11}, {11, 24, 11}, {0, 2, 5}}) {
            for (String ring : new String[] {"yn", "ynpb", "ynpby", "pyyyyyyyyyyb"}) {
                String words = turned(ring, law[0], law[1], law[2], 96);
                String text = "r" + ring + ";s" + law[0] + "," + law[1] + "," + law[2] + ";a0,0;";
                Oracle x = laid(text);
                for (int hour = 1; hour <= 49; hour++) x.due("pass 1", word(words.charAt(hour)));
                laid(text).due("pass 48", word(words.charAt(48))).due("pass 48", word(words.charAt(96)));
            }
        }
        laid("rynpb;s0,24,1;a0,0;").due("pass 23", Y).due("pass 1", N).due("pass 1", N).due("pass 22", N)
            .due("pass 1", P);
        laid("rynpb;s0,1,3;a0,0;").due("pass 1", B).due("pass 1", P).due("pass 1", N).due("pass 1", Y);
    }

    static void promise09Around() {
        says("a place on the next one is (behind the last one the first)");
        laid("ryn;s1,24,0;a0,0;").due("pass 1", N).due("pass 1", Y).due("pass 1", N);
        laid("ryyyyyyyyyyyb;s1,24,0;a0,0;").due("pass 11", B).due("pass 1", Y).due("pass 11", B).due("pass 12", B)
            .due("pass 1", Y);
        // 22 places in an hour, which are twice around and 10 more, or eleven times around
        laid("ryyyyyyyyyynb;s11,1,11;a0,0;").due("pass 1", N).due("pass 1", Y);
        laid("ryn;s11,1,11;a0,0;").due("pass 1", Y).due("pass 48", Y);
    }

    static void promise09Foot() {
        says("In an hour the WHEEL turns, but not under a FOOT, which can be put on for the next n (1 to 12) hours");
        laid("rynpb;s1,24,0;a0,0;").run("foot 1").due("pass 1", Y).due("pass 1", N);
        laid("rynpb;s1,24,0;a0,0;").run("foot 12").due("pass 12", Y).due("pass 1", N);
        laid("rynpb;s1,24,0;a0,0;").run("foot 12").due("pass 11", Y).due("pass 1", Y).due("pass 1", N);
        laid("rynpb;s1,24,0;a0,0;").run("foot 12").due("pass 13", N);
        laid("rynpb;s1,24,0;a0,0;").run("foot 3").due("pass 5", P);
        // what the hour of X would turn it more it does not turn under a foot, nor later
        laid("rynpb;s0,12,1;a0,0;").run("foot 12").due("pass 12", Y).due("pass 11", Y).due("pass 1", N);
        laid("rynpb;s0,12,1;a0,0;").run("foot 11").due("pass 12", N);
        laid("rynpb;s0,1,1;a0,0;").run("pass 1, foot 2").due("pass 4", B);
    }

    static void promise09UnderWay() {
        says("he is under way to its other end for as many hours");
        Oracle x = laid("w0,0,1,12;w0,1,0,3;a0,0;a1,0;").run("setOut 0 0, setOut 1 1, pass 3").due("asker 0 2", 9)
            .due("asker 1 2", 0);
        x.run("pass 8").due("asker 0 2", 1).run("pass 48").due("asker 0 2", 0).due("asker 1 2", 0);
    }

    // ---- 10, setOut

    static void promise10HowMany() {
        says("An ASKER SETS OUT by a WAY: how many hours it takes.");
        laid("w0,0,1,1;a0,0;").due("setOut 0 0", 1).due("asker 0 0", 1).due("asker 0 2", 1).due("count 4", 0)
            .due("count 8", 1);
        laid("w0,0,1,12;a0,0;").due("setOut 0 0", 12).due("asker 0 2", 12);
        Oracle x = laid("h8;w0,7,0,1;w0,7,0,2;a7,0;a7,0;a7,0;a7,0;").due("setOut 3 1", 2).due("setOut 0 0", 1);
        x.due("asker 1 2", 0).due("asker 2 0", 7).due("asker 3 0", 0).due("asker 0 0", 0);
    }

    static void promise10EitherWay() {
        says("A WAY takes D hours either way, a STAIR twice as many, if it is an odd hour when it is begun");
        laid("w0,0,3,7;a0,0;a3,0;").due("setOut 0 0", 7).due("setOut 1 0", 7).due("asker 0 0", 3).due("asker 1 0", 0);
        Oracle stair = laid("w1,0,1,12;a0,0;a1,0;").due("setOut 0 0", 12).due("setOut 1 0", 12);
        stair.run("undo, undo, pass 1").due("setOut 0 0", 24).due("setOut 1 0", 24);
        // by the hour when it is begun, not by those that it takes
        stair.run("pass 23").due("asker 0 2", 1).run("pass 1").due("asker 0 2", 0);
        laid("w1,0,1,1;a0,0;").run("pass 47").due("setOut 0 0", 2);
        laid("w1,0,1,1;a0,0;").run("pass 48").due("setOut 0 0", 1);
    }

    static void promise10CanBeBegun() {
        says("one of GOATS can not be begun, if the hour is 0 modulo 3; a LEE, if another WORD than YES is UPPERMOST");
        Oracle goats = laid("w2,1,0,5;a0,0;a1,0;");
        for (int hour = 0; hour <= 6; hour++) {
            if (hour % 3 == 0) goats.refuses(NO, "setOut 0 0", "setOut 1 0").run("pass 1");
            else goats.due("setOut 0 0", 5).due("setOut 1 0", 5).run("undo, undo, pass 1");
        }
        for (int w = Y; w <= B; w++) {
            Oracle lee = laid("r" + "ynpb".charAt(w) + "nypb;w3,1,0,5;a0,0;a1,0;");
            if (w == Y) lee.due("setOut 0 0", 5).due("setOut 1 0", 5);
            else lee.refuses(NO, "setOut 0 0", "setOut 1 0").run("pass 2").due("setOut 0 0", 5).due("setOut 1 0", 5);
        }
        // both can be gone on by whatever comes
        laid("w2,0,1,5;a0,0;").run("pass 1, setOut 0 0, pass 2").due("asker 0 2", 3).run("pass 3").due("asker 0 2", 0);
        laid("w3,0,1,5;a0,0;").run("setOut 0 0, pass 1").due("asker 0 2", 4).run("pass 4").due("asker 0 0", 1)
            .due("asker 0 2", 0);
    }

    static void promise10UnderWay() {
        says("NO: under way, not from his PLACE, it can not be begun.");
        Oracle x = laid("w0,0,1,12;w0,1,2,1;a0,0;").run("setOut 0 0").refuses(NO, "setOut 0 0", "setOut 0 1");
        x.run("pass 11").refuses(NO, "setOut 0 0", "setOut 0 1").run("pass 1").due("setOut 0 1", 1)
            .refuses(NO, "setOut 0 0", "setOut 0 1");
        x.run("pass 1").due("asker 0 0", 2).due("setOut 0 1", 1);
        busy(anew()).refuses(NO, "setOut 2 6", "setOut 2 0").due("setOut 0 5", 2);
    }

    static void promise10NotFromThere() {
        says("An ASKER that is not under way SETS OUT by a WAY from his PLACE, if it can be begun now");
        Oracle x = laid("h8;w0,6,7,1;w0,0,5,1;a5,0;a0,0;a3,0;")
            .refuses(NO, "setOut 0 0", "setOut 1 0", "setOut 2 0", "setOut 2 1");
        x.due("setOut 0 1", 1).due("setOut 1 1", 1).run("pass 1").due("asker 0 3", N).due("asker 1 0", 5);
        anew().refuses(NO, "setOut 0 0", "setOut 1 0", "setOut 2 0", "setOut 0 6", "setOut 1 2");
    }

    static void promise10Bad() {
        says("BAD; NO: under way");
        busy(anew()).refuses(BAD, "setOut -1 0", "setOut 3 0", "setOut 4 5", "setOut 0 -1", "setOut 0 7",
            "setOut 0 10", "setOut 3 7");
        anew().refuses(BAD, "setOut " + MIN + " 0", "setOut " + MAX + " 0", "setOut 0 " + MIN, "setOut 0 " + MAX);
        laid("a0,0;").refuses(BAD, "setOut 0 0", "setOut 0 -1", "setOut 1 0");
        laid("w0,0,1,1;".repeat(10) + "a0,0;".repeat(4)).due("setOut 3 9", 1)
            .refuses(BAD, "setOut 4 9", "setOut 0 10", "setOut 4 10");
    }

    // ---- 11, foot

    static void promise11Hours() {
        says("A FOOT is put on for n (1 to 12) hours: what is UPPERMOST.");
        for (int n = 1; n <= 12; n++) {
            Oracle x = laid("rynpb;s1,24,0;a0,0;").run("pass 1").due("foot " + n, N).due("count 5", n)
                .due("count 4", 1);
            x.due("pass " + n, N).due("count 5", 0).due("pass 1", P).due("count 5", 0);
        }
        laid("rbynp;s1,24,0;a0,0;").due("foot 5", B).run("pass 2").due("count 5", 3).run("pass 48").due("count 5", 0);
    }

    static void promise11Bounds() {
        says("BAD; NO: it was once.");
        anew().refuses(BAD, "foot 0", "foot 13", "foot -1", "foot -12", "foot 24", "foot " + MIN, "foot " + MAX)
            .due("foot 12", Y);
        busy(anew().run("pass 1, undo")).refuses(BAD, "foot 0", "foot 13", "foot " + MIN, "foot " + MAX);
    }

    static void promise11Once() {
        says("which can be put on for the next n (1 to 12) hours, once.");
        Oracle x = laid("rynpb;s1,24,0;a0,0;").run("foot 2").refuses(NO, "foot 1", "foot 2", "foot 12")
            .due("count 5", 2);
        x.run("pass 1").refuses(NO, "foot 12").run("pass 1").refuses(NO, "foot 1", "foot 12").run("pass 48")
            .refuses(NO, "foot 1");
        x.run("undo, undo, undo, undo").due("foot 1", Y).refuses(NO, "foot 1");
    }

    // ---- 12, graze

    static void promise12OnePlace() {
        says("GOATS turn the WHEEL one place: what is UPPERMOST.");
        Oracle x = laid("rynpb;s3,1,3;a0,0;").due("graze", N).due("graze", P).due("graze", B).due("count 4", 0)
            .due("count 8", 3);
        x.uppers("bnbn");
        laid("w0,0,1,2;a0,0;").run("setOut 0 0, graze").due("asker 0 2", 2);
    }

    static void promise12Around() {
        says("(behind the last one the first)");
        laid("ryn;a0,0;").due("graze", N).due("graze", Y).due("graze", N);
        Oracle x = laid("ryyyyyyyyyyyb;a0,0;");
        for (int i = 1; i <= 36; i++) x.due("graze", i % 12 == 11 ? B : Y);
    }

    static void promise12UnderAFoot() {
        says("GOATS turn the WHEEL one place (under a FOOT, too).");
        Oracle x = laid("rynpb;s1,24,0;a0,0;").run("foot 3").due("graze", N).due("count 5", 3).due("pass 1", N)
            .due("graze", P);
        x.due("count 5", 2).due("pass 2", P).due("graze", B).due("pass 1", Y);
    }

    // ---- 13, undo

    static void promise13HowMany() {
        says("UNDONE: how many more can be. NO.");
        anew().refuses(NO, "undo", "undo");
        Oracle x = anew().run("graze").due("undo", 0).refuses(NO, "undo").due("upper 0", Y);
        for (int i = 0; i < 8; i++) x.run("graze");
        for (int i = 7; i >= 0; i--) x.due("undo", i).due("count 8", i);
        x.refuses(NO, "undo").sameAs(anew());
        busy(anew()).due("undo", 6).due("undo", 5);
    }

    static void promise13Latest() {
        says("UNDONE are the latest hours, SETTING OUT, FOOT, GOATS");
        String[] calls = {"pass 5", "setOut 0 0", "foot 3", "graze", "pass 1"};
        for (int many = 1; many <= calls.length; many++) {
            Oracle x = laid("rynpb;w0,0,1,9;a0,0;");
            for (int i = 0; i < many; i++) x.run(calls[i]);
            x.due("undo", many - 1);
            Oracle y = laid("rynpb;w0,0,1,9;a0,0;");
            for (int i = 0; i < many - 1; i++) y.run(calls[i]);
            x.sameAs(y);
        }
        Oracle z = laid("w0,0,1,9;a0,0;").run("foot 3, undo").due("count 5", 0).due("foot 12", Y)
            .run("pass 2, undo").due("count 5", 12);
        z.run("undo, setOut 0 0, undo").due("asker 0 0", 0).due("asker 0 2", 0).due("setOut 0 0", 9)
            .run("pass 9, undo").due("asker 0 2", 9);
    }

    static void promise13AtOneTime() {
        says("(all that go by at one time are one; the last 8 can be)");
        Oracle x = laid("rynpb;a0,0;").run("pass 48").due("count 8", 1).due("undo", 0).due("count 4", 0)
            .due("upper 0", Y);
        x.run("pass 2, pass 3, pass 1").due("undo", 2).due("count 4", 5).due("undo", 1).due("count 4", 2)
            .due("undo", 0).due("count 4", 0);
    }

    static void promise13LastEight() {
        says("the last 8 can be");
        for (int many : new int[] {7, 8, 9, 16, 17, 40}) {
            Oracle x = laid("rynpb;a0,0;");
            for (int i = 0; i < many; i++) x.run("pass 1");
            int can = Math.min(many, 8);
            x.due("count 8", can);
            for (int i = can - 1; i >= 0; i--) x.due("undo", i).due("count 4", many - can + i)
                .due("upper 0", (many - can + i) % 4);
            x.refuses(NO, "undo").due("count 4", many - can);
        }
        Oracle x = laid("ryn;a0,0;").run("pass 1, pass 1, pass 1, pass 1, pass 1, pass 1, undo, undo")
            .due("count 4", 4).due("count 8", 4);
        x.run("pass 1, pass 1, pass 1, pass 1, pass 1, pass 1, pass 1").due("count 4", 11).due("count 8", 8);
        x.run("undo, undo, undo, undo, undo, undo, undo").due("count 4", 4).due("undo", 0).due("count 4", 3)
            .refuses(NO, "undo");
    }

    static void promise13NothingElse() {
        says("UNDONE are the latest hours");
        Oracle x = anew().run("see 0 0, keep").write("r").refuses(NO, "undo");
        x.run("pass 1, see 1 1, keep, undo").due("count 7", 2).due("count 9", 2).due("count 10", 1)
            .due("count 4", 0).refuses(NO, "undo");
        x.run("forget, wipe").refuses(NO, "undo").run("back").refuses(NO, "undo");
        x.ask("foot 13");
        x.ask("pass 49");
        x.ask("setOut 0 0");
        x.onlyAsks("year 5 60 1", "upper 9", "top 0", "hold 0", "first 0", "read 0 0", "both 0 1 0", "from 0 3",
            "grazing 0 4 3 1").refuses(NO, "undo");
    }
}
