import java.math.BigInteger;

/** Promises 25 to 29: goats by chance, years by draws, what is kept, and how many there are. */
final class YearSentences extends Sentences {

    // ---- 25, grazing

    private static void chance(Oracle x, String call, int above, int below) {
        x.due("grazing " + call + " 0", above).due("grazing " + call + " 1", below);
    }

    static void promise25Chance() {
        says("GRAZING: in each of n (0 to 8) hours from now on GOATS turn it one place more by x (0 to 10) of ten");
        Oracle x = laid("ryn;s1,24,0;a0,0;").onlyAsks("grazing 0 8 5 0", "grazing 0 8 5 1");
        chance(x, "0 1 3", 3, 10);
        chance(x, "1 1 3", 7, 10);
        chance(x, "0 1 7", 7, 10);
        chance(x, "0 2 3", 29, 50);
        // of the ring of 12 the ninth by 8 turns, the first by none
        Oracle y = laid("rpyyyyyyynbbb;s0,24,0;a0,0;");
        chance(y, "1 8 1", 1, 100000000);
        chance(y, "1 8 9", 43046721, 100000000);
        chance(y, "2 8 9", 1, 100000000);
        chance(y, "2 8 3", 5764801, 100000000);
        chance(y, "0 8 5", 127, 128);
        chance(y, "1 7 9", 0, 1);
        chance(y, "3 8 9", 0, 1);
    }

    static void promise25None() {
        says("in each of n (0 to 8) hours");
        Oracle x = laid("rynpb;s1,24,0;a0,0;").run("pass 1");
        for (int tenths = 0; tenths <= 10; tenths++) {
            chance(x, "1 0 " + tenths, 1, 1);
            chance(x, "0 0 " + tenths, 0, 1);
        }
    }

    static void promise25Sure() {
        says("by x (0 to 10) of ten");
        Oracle x = laid("rynpb;s1,24,0;a0,0;");
        for (int n = 0; n <= 8; n++) {
            for (int w = Y; w <= B; w++) {
                chance(x, w + " " + n + " 0", n % 4 == w ? 1 : 0, 1);
                chance(x, w + " " + n + " 10", 2 * n % 4 == w ? 1 : 0, 1);
            }
        }
    }

    static void promise25Behind() {
        says("the chance that a WORD is UPPERMOST behind them, in lowest terms");
        Oracle x = laid("rynpb;s2,24,0;a0,0;");
        chance(x, "2 1 3", 7, 10);
        chance(x, "3 1 3", 3, 10);
        chance(x, "0 1 3", 0, 1);
        chance(x, "2 1 5", 1, 2);
        chance(x, "2 1 2", 4, 5);
        // 6 places by the law; 512, 384, 96 and 8 of 1000 for no, one, two, three turns more
        chance(x, "2 3 2", 64, 125);
        chance(x, "3 3 2", 48, 125);
        chance(x, "0 3 2", 12, 125);
        chance(x, "1 3 2", 1, 125);
        // the hour of X, and a foot, under which goats turn it still
        Oracle later = laid("rynpb;s0,24,1;a0,0;").run("pass 23");
        chance(later, "1 1 3", 7, 10);
        chance(later, "2 1 3", 3, 10);
        Oracle foot = laid("rynpb;s1,24,0;a0,0;").run("foot 3");
        chance(foot, "0 2 5", 1, 4);
        chance(foot, "1 2 5", 1, 2);
        chance(foot, "1 4 0", 1, 1);
        Oracle law = laid("rynpb;s0,5,3;a0,0;");
        chance(law, "0 4 0", 1, 1);
        chance(law, "3 5 0", 1, 1);
        chance(law.run("pass 4"), "3 1 5", 1, 2);
        chance(law, "2 6 0", 1, 1);
        // turns that go around come together
        chance(laid("ryn;s0,24,0;a0,0;"), "0 8 5", 1, 2);
        chance(laid("rnnn;a0,0;"), "1 8 3", 1, 1);
        chance(laid("rnnn;a0,0;"), "0 8 3", 0, 1);
    }

    static void promise25Bad() {
        says("GRAZING: above (part = 0), below (1). BAD.");
        busy(anew()).refuses(BAD, "grazing -1 4 5 0", "grazing 4 4 5 0", "grazing 0 -1 5 0", "grazing 0 9 5 0",
            "grazing 0 4 -1 0");
        busy(anew()).refuses(BAD, "grazing 0 4 11 0", "grazing 0 4 5 -1", "grazing 0 4 5 2", "grazing 4 9 11 2",
            "grazing 0 0 11 1", "grazing 0 0 -1 1");
        anew().refuses(BAD, "grazing " + MIN + " 4 5 0", "grazing 0 " + MAX + " 5 0", "grazing 0 4 " + MIN + " 0",
            "grazing 0 4 5 " + MAX);
        anew().onlyAsks("grazing 0 0 0 0", "grazing 3 8 10 1");
    }

    // ---- 26, year

    private static int draw(int z, int k) {
        BigInteger x = BigInteger.valueOf(7919L * z + 6151L * k + 1);
        return x.multiply(x).mod(BigInteger.valueOf(65521)).intValue();
    }

    static void promise26Draws() {
        says("in the k-th (0 first) ASKER DRAW modulo as many as there are SETS OUT by WAY (DRAW by 4, cut) modulo as many as there"
            + " are, if he can, then an hour goes by, DRAW being (x times x) modulo 65521, x 7919 z, 6151 k and 1 together");
        for (int askers = 1; askers <= 4; askers++) {
            for (int ways = 1; ways <= 10; ways += 3) for (int z : new int[] {0, 1, 77, 5000, 9999}) yearOfSteps(askers, ways, z);
        }
        // the first draw by 0 is 1: asker 1 by way 0
        laid("ryn;s0,24,0;w0,0,1,12;w0,0,2,1;w0,2,0,1;a0,0;a0,1;").due("year 0 1 0", 1).due("year 0 1 1", 1);
        laid("ryn;s0,24,0;w0,0,1,12;w0,0,2,1;w0,2,0,1;a0,1;a0,0;").due("year 0 1 0", 1).due("year 0 1 1", 0);
    }

    /** All ways have two hours and lie between 0 and 1, but each third one is none of these. */
    private static void yearOfSteps(int askers, int ways, int z) {
        StringBuilder text = new StringBuilder("rny;s0,24,0;");
        for (int w = 0; w < ways; w++) text.append(w % 3 == 2 ? "w0,2,3,1;" : "w0,0,1,2;");
        for (int a = 0; a < askers; a++) text.append("a0,").append(a % 2).append(';');
        Oracle x = laid(text.toString());
        int[] place = new int[askers];
        int[] left = new int[askers];
        int often = 0;
        for (int k = 0; k < 60; k++) {
            int a = draw(z, k) % askers;
            if (left[a] == 0 && draw(z, k) / 4 % ways % 3 != 2) {
                left[a] = 2;
                place[a] = 1 - place[a];
            }
            int top = 0;
            for (int b = 0; b < askers; b++) {
                left[b] = Math.max(0, left[b] - 1);
                if (left[b] > 0 || place[b] != 0) continue;
                top++;
                often += b % 2;
            }
            x.due("year " + z + " " + (k + 1) + " 0", top).due("year " + z + " " + (k + 1) + " 1", often);
        }
    }

    static void promise26Bounds() {
        says("A YEAR: how many (what = 0), how often (1). BAD.");
        busy(anew()).refuses(BAD, "year -1 1 0", "year 10000 1 0", "year 0 0 0", "year 0 61 0", "year 0 1 -1",
            "year 0 1 2", "year -1 61 2");
        anew().refuses(BAD, "year " + MIN + " 1 0", "year " + MAX + " 1 0", "year 0 " + MIN + " 0",
            "year 0 " + MAX + " 0", "year 0 1 " + MAX);
        anew().onlyAsks("year 0 1 0", "year 9999 60 1");
    }

    static void promise26NothingChanges() {
        says("A YEAR by z (0 to 9999) of n (1 to 60) hours from now on (nothing changes by it)");
        busy(anew()).onlyAsks("year 0 1 0", "year 0 1 1", "year 9999 60 0", "year 9999 60 1", "year 5 60 1");
        Oracle x = laid("ryn;s1,24,0;h2;w0,1,0,3;a1,1;").due("year 7 3 0", 1).due("year 7 3 0", 1).due("year 7 3 1", 1);
        x.due("year 7 2 0", 0).due("year 7 60 0", 0).due("year 7 57 0", 1).due("year 7 9 1", 2).due("year 7 8 1", 1);
    }

    static void promise26Order() {
        says("SETS OUT by WAY (DRAW by 4, cut) modulo as many as there are, if he can, then an hour goes by");
        // away and on top again by turns, as a way of one hour is begun and ended in each
        laid("ryn;s0,24,0;w0,0,1,1;a1,0;").due("year 3 1 0", 1).due("year 3 1 1", 1).due("year 3 2 0", 0)
            .due("year 3 60 1", 30);
        // at hour 0 no goats, and a lee only by what is UPPERMOST ahead of the hour
        laid("ryn;s0,24,0;w2,0,1,12;a1,0;").due("year 3 12 0", 0).due("year 3 13 0", 1).due("year 3 13 1", 1)
            .run("pass 1").due("year 3 11 0", 0).due("year 3 12 0", 1);
        laid("ryn;s1,24,0;w3,0,1,1;a1,1;").due("year 3 1 0", 1).due("year 3 1 1", 1).run("pass 1")
            .due("year 3 1 0", 0).due("year 3 2 1", 1);
        laid("ryn;s0,24,0;w0,1,2,1;a0,0;a3,0;").due("year 3 60 0", 1).due("year 3 60 1", 60);
        laid("ryn;s0,24,0;a0,0;a0,1;a1,0;").due("year 3 60 0", 2).due("year 3 60 1", 60).due("year 0 1 0", 2)
            .due("year 0 1 1", 1);
    }

    static void promise26Reads() {
        says(": how many are on top then, not under way; how often one READ what he wants (each, behind each hour).");
        laid("ryn;s1,24,0;a0,0;a0,0;a0,1;").due("year 9 1 0", 3).due("year 9 1 1", 1).due("year 9 2 1", 3)
            .due("year 9 60 1", 90);
        laid("ryn;s1,24,0;a0,0;").run("foot 3").due("year 9 3 1", 3).due("year 9 4 1", 3).due("year 9 5 1", 4);
        laid("w0,1,0,12;a1,0;").due("year 9 11 0", 0).due("year 9 11 1", 0).due("year 9 12 0", 1)
            .due("year 9 12 1", 1).due("year 9 13 0", 0);
        laid("w0,1,0,12;a1,0;").run("setOut 0 0, pass 11").due("year 9 1 0", 1).due("year 9 1 1", 1)
            .due("year 9 2 0", 0);
    }

    // ---- 27, keep

    static void promise27HowMany() {
        says("KEPT: how many. FULL.");
        Oracle x = anew().due("keep", 1).due("count 9", 1).due("keep", 2).due("count 9", 2)
            .refuses(FULL, "keep", "keep").due("count 9", 2);
        x.due("back", 1).due("keep", 2).refuses(FULL, "keep").due("back", 1).due("back", 0).due("keep", 1);
        full().refuses(FULL, "keep");
        busy(anew()).refuses(FULL, "keep");
    }

    static void promise27AllAsItStands() {
        says("KEPT is all as it stands, but what is SEEN and THE TEXT");
        String calls = "see 0 0, setOut 2 6, pass 2, foot 6, pass 1, graze";
        String more = "graze, pass 9, undo, setOut 0 5, pass 48, graze";
        anew().run(calls).run("keep").run(more).run("back").sameAs(anew().run(calls).run("keep, back"));
        Oracle x = anew().run(calls).run("keep").due("count 4", 3).due("count 5", 5).due("asker 2 2", 6)
            .due("count 8", 5).run(more);
        x.due("back", 0).due("count 4", 3).due("count 5", 5).due("asker 2 2", 6).due("asker 0 0", 4)
            .refuses(NO, "foot 1");
        laid("ryn;a0,0;").run("keep, foot 3, pass 3, back").due("count 5", 0).due("foot 12", Y);
        laid("ryn;a0,0;").run("foot 3, keep, undo, back").due("count 5", 3).refuses(NO, "foot 1");
    }

    static void promise27MostKept() {
        says("2 at most");
        Oracle x = laid("rynpb;a0,0;").run("pass 1, keep, pass 1, keep, pass 1").due("keep", FULL).due("back", 1)
            .due("count 4", 2);
        x.due("back", 0).due("count 4", 1).refuses(NO, "back");
        // what is kept stays as it was, whatever is undone
        x.run("pass 1, keep, undo").due("count 4", 1).due("count 9", 1).run("back").due("count 4", 2);
    }

    // ---- 28, back

    static void promise28HowMany() {
        says("As KEPT last (it is KEPT no more then): how many are left; nothing is UNDONE then. NO.");
        anew().refuses(NO, "back", "back");
        Oracle x = laid("rynpb;a0,0;").run("keep, pass 1, keep, pass 5, graze").due("back", 1).due("count 9", 1)
            .due("count 4", 1);
        x.refuses(NO, "undo").run("pass 7").due("count 8", 1).due("back", 0).due("count 9", 0)
            .due("count 4", 0).refuses(NO, "undo");
        x.refuses(NO, "back").run("keep").due("back", 0).refuses(NO, "back");
        laid("a0,0;").run("keep").due("lay", 4).refuses(NO, "back");
    }

    static void promise28Stay() {
        says("(these stay by back(), behind which nothing can be UNDONE)");
        Oracle x = laid("ryn;a0,0;").run("see 0 0, keep, see 1 0, pass 2, graze, graze").write("h").due("back", 0);
        x.due("count 7", 2).due("laws 0", 0).due("count 10", 10).due("fault", 9).due("count 8", 0).refuses(NO, "undo");
        x.run("forget, wipe, see 0 0, keep, forget").write("ryn").run("back").due("count 7", 0).due("count 10", 3)
            .due("laws 0", 288);
        // not even what was done ahead of keeping
        laid("ryn;a0,0;").run("graze, pass 1, keep, back").due("count 8", 0).refuses(NO, "undo");
    }

    // ---- 29, count

    static void promise29HowMany() {
        says("How many: 0 PLACES, 1 WAYS, 2 ASKERS, 3 WORDS of the RING, 4 hours gone by, 5 hours a FOOT is on yet, 6 on top, 7 SEEN,"
            + " 8 that can be UNDONE, 9 KEPT, 10 letters of THE TEXT.");
        laid("h1;a0,0;").counts(1, 0, 1, 2, 0, 0, 1, 0, 0, 0, 8);
        Oracle x = laid("rynpbynpbynpb;h8;" + "w0,0,7,1;".repeat(10) + "a0,0;".repeat(4))
            .counts(8, 10, 4, 12, 0, 0, 4, 0, 0, 0, 127);
        x.run("see 0 0, see 0 0, see 0 0, see 0 0, see 0 0, see 0 0, keep, keep, setOut 0 0")
            .counts(8, 10, 4, 12, 0, 0, 3, 6, 1, 2, 127);
        x.run("foot 12").counts(8, 10, 4, 12, 0, 12, 3, 6, 2, 2).run("pass 1").counts(8, 10, 4, 12, 1, 11, 3, 6, 3, 2);
        x.run("setOut 0 0, pass 11").counts(8, 10, 4, 12, 12, 0, 4, 6, 5, 2).run("graze, graze, graze, pass 48")
            .counts(8, 10, 4, 12, 60, 0, 4, 6, 8, 2);
        x.onlyAsks("count 0", "count 10");
        written("~".repeat(200)).due("count 10", 200);
    }

    static void promise29OnTop() {
        says("6 on top");
        Oracle x = laid("w0,1,0,2;a1,0;a0,0;").due("count 6", 1).run("setOut 0 0").due("count 6", 1).run("pass 1")
            .due("count 6", 1);
        x.run("pass 1").due("count 6", 2).run("setOut 0 0, setOut 1 0").due("count 6", 0).run("pass 48")
            .due("count 6", 0);
    }

    static void promise29Bad() {
        says("BAD.");
        busy(anew()).refuses(BAD, "count -1", "count 11", "count 12", "count " + MIN, "count " + MAX);
    }
}
