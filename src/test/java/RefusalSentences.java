/** What is refused, for each call: of several the first of BAD, NO, NONE, FULL; and nothing changes. */
final class RefusalSentences extends Sentences {
    private static final String ORDER = "Of several the first in this order, whatever the order at a call; nothing changes then.";

    static void promise02Refused() {
        says(ORDER);
        full().due("count 10", 200).refuses(BAD, "write 31", "write 127", "write " + MAX)
            .refuses(FULL, "write 32", "write 126");
    }

    static void promise04Refused() {
        says("NONE: there is none.");
        busy(written("h1;")).refuses(NONE, "fault");
        full().due("fault", 90).onlyAsks("fault");
    }

    static void promise05Refused() {
        says("NO: not as things stand.");
        full().refuses(NO, "lay", "lay").due("count 4", 5);
    }

    static void promise06Refused() {
        says(ORDER);
        full().refuses(BAD, "word -1", "word " + MIN).refuses(NONE, "word 6", "word 12");
    }

    static void promise07Refused() {
        says(ORDER);
        // no way of theirs can be begun now, and what is asked of them is none
        full().refuses(NONE, "way 3 3", "way 6 3").refuses(BAD, "way 3 4", "way 6 -1", "way 7 3");
    }

    static void promise08Refused() {
        says(ORDER);
        full().refuses(NONE, "asker 0 3", "asker 1 3", "asker 2 3").refuses(BAD, "asker 0 4", "asker 3 3");
    }

    static void promise09Refused() {
        says(ORDER);
        full().refuses(BAD, "pass 0", "pass 49");
    }

    static void promise10Refused() {
        says(ORDER);
        Oracle x = full().refuses(NO, "setOut 2 6", "setOut 0 0", "setOut 0 6")
            .refuses(BAD, "setOut 2 7", "setOut 3 6", "setOut 2 -1", "setOut -1 6");
        x.due("setOut 1 4", 5);
    }

    static void promise11Refused() {
        says(ORDER);
        full().refuses(NO, "foot 1", "foot 12").refuses(BAD, "foot 0", "foot 13");
    }

    static void promise13Refused() {
        says(ORDER);
        anew().run("see 0 0, keep").write("x").refuses(NO, "undo");
        full().run("undo, undo, undo, undo, undo, undo, undo, undo").refuses(NO, "undo");
    }

    static void promise14Refused() {
        says(ORDER);
        full().refuses(BAD, "upper -1", "upper 201");
    }

    static void promise15Refused() {
        says("NONE: there is none.");
        full().refuses(NONE, "round");
    }

    static void promise16Refused() {
        says(ORDER);
        full().refuses(BAD, "top -1", "top 3");
        laid("a3,0;").refuses(NONE, "top 0").refuses(BAD, "top 1");
    }

    static void promise17Refused() {
        says(ORDER);
        full().refuses(BAD, "read 3 0", "read 0 4");
        laid("ryn;a3,0;a0,0;").refuses(NONE, "read 0 0", "read 1 2")
            .refuses(BAD, "read 0 4", "read 0 -1", "read 1 4", "read 2 2");
    }

    static void promise18Refused() {
        says(ORDER);
        full().refuses(BAD, "both 0 0 0", "both 0 3 0");
        laid("ryn;a3,0;a0,0;a0,0;").refuses(NONE, "both 0 1 0", "both 1 2 2")
            .refuses(BAD, "both 0 0 0", "both 0 1 4", "both 0 3 0", "both 1 1 2");
    }

    static void promise19Refused() {
        says(ORDER);
        full().refuses(BAD, "hold -1", "hold 3");
        laid("a3,0;").refuses(NONE, "hold 0").refuses(BAD, "hold 1");
    }

    static void promise20Refused() {
        says(ORDER);
        full().refuses(NONE, "first 2").refuses(BAD, "first 3", "first -1");
    }

    static void promise21Refused() {
        says(ORDER);
        full().refuses(FULL, "see 0 0", "see 3 99").refuses(BAD, "see 4 0", "see -1 0", "see 0 -1", "see 0 100");
    }

    static void promise23Refused() {
        says(ORDER);
        full().refuses(NONE, "laws 1").refuses(BAD, "laws 2", "laws -1");
    }

    static void promise24Refused() {
        says(ORDER);
        full().refuses(BAD, "from 4 0", "from 0 100").onlyAsks("from 0 99");
    }

    static void promise25Refused() {
        says(ORDER);
        full().refuses(BAD, "grazing 4 0 0 0", "grazing 0 9 0 0", "grazing 0 0 11 0", "grazing 0 0 0 2")
            .onlyAsks("grazing 0 8 5 0");
    }

    static void promise26Refused() {
        says(ORDER);
        full().refuses(BAD, "year 10000 1 0", "year 0 61 0", "year 0 1 2").onlyAsks("year 0 1 0", "year 9999 60 1");
    }

    static void promise27Refused() {
        says("FULL. Of several the first in this order");
        full().refuses(FULL, "keep").due("count 9", 2);
    }

    static void promise28Refused() {
        says(ORDER);
        full().run("back, back").refuses(NO, "back", "undo");
        full().run("back, graze, back").refuses(NO, "back");
    }

    static void promise29Refused() {
        says("BAD: a number is none that is told (PLACES, WAYS, ASKERS: such as there are; WORDS 0 to 3).");
        full().refuses(BAD, "count -1", "count 11");
    }
}
