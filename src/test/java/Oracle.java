import java.lang.reflect.InvocationTargetException;
import java.lang.reflect.Method;
import java.lang.reflect.Modifier;
import java.util.ArrayList;
import java.util.HashMap;
import java.util.List;
import java.util.Map;

/** An OracleWheel that is asked by calls in words ("setOut 0 5"), which are kept, so that they can be made anew. */
final class Oracle {
    static final int MOST_CALLS = 512;
    private static final Map<String, Method> FACE = face();

    private final OracleWheel wheel = new OracleWheel();
    private final List<String> story = new ArrayList<>();

    private static Map<String, Method> face() {
        Map<String, Method> face = new HashMap<>();
        for (Method m : OracleWheel.class.getDeclaredMethods()) {
            if (Modifier.isPublic(m.getModifiers())) face.put(m.getName(), m);
        }
        return face;
    }

    static Oracle anew() { return new Oracle(); }

    static Oracle written(String text) {
        Oracle x = new Oracle();
        return x.write(text);
    }

    static Oracle laid(String text) {
        Oracle x = written(text);
        int places = x.ask("lay");
        if (places < 1) Report.say("not laid: " + text);
        return x;
    }

    Oracle write(String text) {
        for (char c : text.toCharArray()) ask("write " + (int) c);
        return this;
    }

    int ask(String call) {
        if (story.size() == MOST_CALLS) throw new IllegalStateException("the test makes more than 512 calls");
        story.add(call);
        return answer(call);
    }

    /** Makes a call of which the document tells nothing any more: the answer is free, but there has to be one. */
    void askBehindTheEnd(String call) { answer(call); }

    private int answer(String call) {
        String[] parts = call.split(" ");
        Object[] arguments = new Object[parts.length - 1];
        for (int i = 0; i < arguments.length; i++) arguments[i] = Integer.valueOf(parts[i + 1]);
        try {
            return (Integer) FACE.get(parts[0]).invoke(wheel, arguments);
        } catch (InvocationTargetException e) {
            throw new IllegalStateException(call + " threw " + e.getCause(), e.getCause());
        } catch (IllegalAccessException e) {
            throw new IllegalStateException(e);
        }
    }

    /** Makes the calls, parted by ", ", none of which may be refused. */
    Oracle run(String calls) {
        for (String call : calls.split(", ")) {
            int got = ask(call);
            if (got < 0) Report.say(call + " was refused with " + got + ", but the test needs it");
        }
        return this;
    }

    Oracle due(String call, int want) {
        Report.due(call, ask(call), want);
        return this;
    }

    /** What is UPPERMOST by 0, 1, .. hours, as letters. */
    Oracle uppers(String words) {
        for (int t = 0; t < words.length(); t++) due("upper " + t, "ynpb".indexOf(words.charAt(t)));
        return this;
    }

    Oracle counts(int... want) {
        for (int what = 0; what < want.length; what++) due("count " + what, want[what]);
        return this;
    }

    /** Each of these calls answers so, and leaves everything as it was. */
    Oracle refuses(int want, String... calls) {
        int before = story.size();
        for (String call : calls) due(call, want);
        sameAsBefore(before);
        return this;
    }

    /** These calls are answered, and leave everything as it was. */
    Oracle onlyAsks(String... calls) {
        int before = story.size();
        for (String call : calls) {
            if (ask(call) < 0) Report.say(call + " was refused, but the test needs its answer");
        }
        sameAsBefore(before);
        return this;
    }

    /** Both answer alike, whatever was called before. */
    Oracle sameAs(Oracle other) {
        compare(told(story), told(other.story), "both ways");
        return this;
    }

    private void sameAsBefore(int before) {
        String after = String.join(", ", story.subList(before, story.size()));
        compare(told(story), told(story.subList(0, before)), after);
    }

    private static void compare(Oracle one, Oracle other, String after) {
        Report.same("behind " + after, one.picture(), other.picture());
        one.comparePast(other, after);
    }

    private static Oracle told(List<String> calls) {
        Oracle x = new Oracle();
        for (String call : calls) x.ask(call);
        return x;
    }

    /** Goes back through all that can be undone and is kept, as far as it looks alike. */
    private void comparePast(Oracle other, String after) {
        for (String call : new String[] {"undo", "foot 2", "undo", "back", "foot 2", "back"}) {
            for (int i = 0; i < 9; i++) {
                int got = ask(call);
                int want = other.ask(call);
                Report.same("behind " + after + ", " + call, List.of(got + outline()), List.of(want + other.outline()));
                if (got < 0 && want < 0 || !call.equals("undo")) break;
            }
        }
    }

    /** The answers of calls that change nothing. */
    private List<String> picture() {
        List<String> picture = new ArrayList<>();
        int ways = look(picture, "count 1");
        int askers = look(picture, "count 2");
        for (int what : new int[] {0, 3, 4, 5, 6, 7, 8, 9, 10}) look(picture, "count " + what);
        for (int k = 0; k < 12; k++) look(picture, "word " + k);
        for (int w = 0; w < ways; w++) for (int what = 0; what < 4; what++) look(picture, "way " + w + " " + what);
        for (int a = 0; a < askers; a++) for (int what = 0; what < 4; what++) look(picture, "asker " + a + " " + what);
        for (int t = 0; t < 26; t++) look(picture, "upper " + t);
        for (String call : new String[] {"fault", "laws 0", "laws 1", "round"}) look(picture, call);
        for (int a = 0; a < askers; a++) for (String what : new String[] {"top ", "first ", "hold "}) look(picture, what + a);
        return picture;
    }

    private int look(List<String> picture, String call) {
        int answer = ask(call);
        picture.add(call + " -> " + answer);
        return answer;
    }

    /** The little that undoing and taking back can change. */
    private String outline() {
        StringBuilder outline = new StringBuilder();
        for (String call : new String[] {"count 4", "count 5", "count 8", "count 9", "upper 0", "asker 0 0", "asker 0 2"}) {
            outline.append(", ").append(call).append(" -> ").append(ask(call));
        }
        return outline.toString();
    }
}
