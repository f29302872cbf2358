import java.util.ArrayDeque;
import java.util.ArrayList;
import java.util.Deque;
import java.util.HashSet;
import java.util.List;
import java.util.Set;
import java.util.TreeSet;
import java.util.regex.Matcher;
import java.util.regex.Pattern;

// Long runs of calls by a fixed row of numbers, each answer held against a model
// that is written from the document anew: hour by hour, with sets and patterns.
public final class ModelRuns {
    static final int BAD = -1, NO = -2, FULL = -3, NONE = -4;
    static final String FIRST = "rynpybn;s2,5,1;h6;w0,0,1,3;w1,1,2,4;w2,2,3,2;w3,0,3,6;w0,3,4,5;"
        + "w1,4,5,2;w3,5,0,9;a4,0;a3,1;a5,2;";

    /** What a text tells. */
    static final class Told {
        List<Integer> ring = List.of(0, 1);
        int s = 1, e = 24, x = 0, places = 4;
        List<int[]> ways = new ArrayList<>();
        List<int[]> askers = new ArrayList<>();
        int fault = NONE;

        static final String N = "(\\d\\d?)";
        static final Pattern RING = Pattern.compile("r([ynpb]{2,12});");
        static final Pattern LAW = Pattern.compile("s" + N + "," + N + "," + N + ";");
        static final Pattern PLACES = Pattern.compile("h" + N + ";");
        static final Pattern WAY = Pattern.compile("w" + N + "," + N + "," + N + "," + N + ";");
        static final Pattern ASKER = Pattern.compile("a" + N + "," + N + ";");

        Told(String text) {
            int at = 0;
            while (at < text.length()) {
                int end = item(text.substring(at));
                if (end == 0) {
                    fault = at;
                    return;
                }
                at += end;
            }
        }

        static int number(Matcher m, int group) {
            return Integer.parseInt(m.group(group));
        }

        int item(String rest) {
            Matcher m = RING.matcher(rest);
            if (m.lookingAt()) {
                ring = new ArrayList<>();
                for (char c : m.group(1).toCharArray()) {
                    ring.add(c == 'y' ? 0 : c == 'n' ? 1 : c == 'p' ? 2 : 3);
                }
                return m.end();
            }
            m = LAW.matcher(rest);
            if (m.lookingAt()) {
                s = number(m, 1);
                e = number(m, 2);
                x = number(m, 3);
                return s <= 11 && x <= 11 && e >= 1 && e <= 24 ? m.end() : 0;
            }
            m = PLACES.matcher(rest);
            if (m.lookingAt()) {
                places = number(m, 1);
                return places >= 1 && places <= 8 && ways.isEmpty() && askers.isEmpty() ? m.end() : 0;
            }
            m = WAY.matcher(rest);
            if (m.lookingAt()) {
                int[] w = {number(m, 1), number(m, 2), number(m, 3), number(m, 4)};
                ways.add(w);
                boolean so = w[0] <= 3 && w[1] != w[2] && w[1] < places && w[2] < places
                    && w[3] >= 1 && w[3] <= 12 && ways.size() <= 10;
                return so ? m.end() : 0;
            }
            m = ASKER.matcher(rest);
            if (m.lookingAt()) {
                int[] a = {number(m, 1), number(m, 2)};
                askers.add(a);
                return a[0] < places && a[1] <= 3 && askers.size() <= 4 ? m.end() : 0;
            }
            return 0;
        }
    }

    /** How it stands; one hour after the other. */
    static final class State {
        final Told told;
        final int s, e;
        int hour, spot, foot;
        boolean footUsed;
        int[] place, left;

        State(Told told) {
            this.told = told;
            s = told.s;
            e = told.e;
            place = new int[told.askers.size()];
            left = new int[place.length];
            for (int a = 0; a < place.length; a++) place[a] = told.askers.get(a)[0];
        }

        State(State o, int s, int e) {
            told = o.told;
            this.s = s;
            this.e = e;
            hour = o.hour;
            spot = o.spot;
            foot = o.foot;
            footUsed = o.footUsed;
            place = o.place.clone();
            left = o.left.clone();
        }

        State same() { return new State(this, s, e); }

        void hourGoesBy() {
            hour++;
            if (foot > 0) foot--;
            else {
                spot += s;
                if (hour % e == 0) spot += told.x;
            }
            for (int a = 0; a < left.length; a++) if (left[a] > 0) left[a]--;
        }

        State later(int n) {
            State later = same();
            for (int i = 0; i < n; i++) later.hourGoesBy();
            return later;
        }

        int word() { return told.ring.get(spot % told.ring.size()); }

        boolean onTop(int a) { return place[a] == 0 && left[a] == 0; }

        /** Hours of a way if begun now, or NONE. */
        int hoursNow(int w) {
            int[] way = told.ways.get(w);
            switch (way[0]) {
                case 1: return hour % 2 == 1 ? 2 * way[3] : way[3];
                case 2: return hour % 3 == 0 ? NONE : way[3];
                case 3: return word() == 0 ? way[3] : NONE;
                default: return way[3];
            }
        }

        int end(int w, int from) {
            int[] way = told.ways.get(w);
            return way[1] == from ? way[2] : way[2] == from ? way[1] : NONE;
        }

        int setOut(int a, int w) {
            if (left[a] > 0 || end(w, place[a]) == NONE || hoursNow(w) == NONE) return NO;
            left[a] = hoursNow(w);
            place[a] = end(w, place[a]);
            return left[a];
        }

        /** For each hour from 0 to 99 the places where one can be who is at place p, t hours on. */
        List<Set<Integer>> canBe(int p, int t) {
            List<Set<Integer>> at = new ArrayList<>();
            for (int i = 0; i <= 99; i++) at.add(new HashSet<>());
            if (t <= 99) at.get(t).add(p);
            State then = same();
            for (int i = 0; i <= 99; i++) {
                for (int q : new ArrayList<>(at.get(i))) {
                    if (i < 99) at.get(i + 1).add(q);
                    for (int w = 0; w < told.ways.size(); w++) {
                        int hours = then.hoursNow(w);
                        if (then.end(w, q) != NONE && hours != NONE && i + hours <= 99) {
                            at.get(i + hours).add(then.end(w, q));
                        }
                    }
                }
                then.hourGoesBy();
            }
            return at;
        }

        int topFrom(int p, int t) {
            List<Set<Integer>> at = canBe(p, t);
            for (int i = 0; i <= 99; i++) if (at.get(i).contains(0)) return i;
            return NONE;
        }

        int top(int a) { return topFrom(place[a], left[a]); }

        int meet(int[] who, int w) {
            for (int a : who) if (top(a) == NONE) return NONE;
            State then = same();
            for (int t = 0; t <= 99; t++) {
                boolean all = then.word() == w;
                for (int a : who) all &= top(a) <= t;
                if (all) return t;
                then.hourGoesBy();
            }
            return NONE;
        }

        boolean gets(int a) {
            int top = top(a);
            return top != NONE && later(top).word() == told.askers.get(a)[1];
        }
    }

    /** The whole class once more. */
    static final class Model {
        StringBuilder text = new StringBuilder();
        Told told = new Told(FIRST);
        State now = new State(told);
        Deque<State> past = new ArrayDeque<>();
        Deque<State> kept = new ArrayDeque<>();
        List<int[]> seen = new ArrayList<>();

        static boolean in(int v, int low, int high) { return v >= low && v <= high; }
        boolean isAsker(int a) { return in(a, 0, told.askers.size() - 1); }
        boolean isWay(int w) { return in(w, 0, told.ways.size() - 1); }

        void putBy() {
            past.addLast(now.same());
            if (past.size() > 8) past.removeFirst();
        }

        int call(String name, int[] v) {
            switch (name) {
                case "write":
                    if (!in(v[0], 32, 126)) return BAD;
                    if (text.length() == 200) return FULL;
                    text.append((char) v[0]);
                    return text.length();
                case "wipe": {
                    int length = text.length();
                    text.setLength(0);
                    return length;
                }
                case "fault": return new Told(text.toString()).fault;
                case "lay": {
                    Told laid = new Told(text.toString());
                    if (laid.fault != NONE || laid.askers.isEmpty()) return NO;
                    told = laid;
                    now = new State(told);
                    past.clear();
                    kept.clear();
                    seen.clear();
                    return told.places;
                }
                case "word": return v[0] < 0 ? BAD : v[0] < told.ring.size() ? told.ring.get(v[0]) : NONE;
                case "way":
                    if (!isWay(v[0]) || !in(v[1], 0, 3)) return BAD;
                    return v[1] == 3 ? now.hoursNow(v[0]) : told.ways.get(v[0])[v[1]];
                case "asker":
                    if (!isAsker(v[0]) || !in(v[1], 0, 3)) return BAD;
                    if (v[1] == 0) return now.place[v[0]];
                    if (v[1] == 1) return told.askers.get(v[0])[1];
                    if (v[1] == 2) return now.left[v[0]];
                    return now.onTop(v[0]) ? now.word() : NONE;
                case "pass":
                    if (!in(v[0], 1, 48)) return BAD;
                    putBy();
                    now = now.later(v[0]);
                    return now.word();
                case "setOut": {
                    if (!isAsker(v[0]) || !isWay(v[1])) return BAD;
                    State then = now.same();
                    int hours = then.setOut(v[0], v[1]);
                    if (hours == NO) return NO;
                    putBy();
                    now = then;
                    return hours;
                }
                case "foot":
                    if (!in(v[0], 1, 12)) return BAD;
                    if (now.footUsed) return NO;
                    putBy();
                    now.footUsed = true;
                    now.foot = v[0];
                    return now.word();
                case "graze":
                    putBy();
                    now.spot++;
                    return now.word();
                case "undo":
                    if (past.isEmpty()) return NO;
                    now = past.removeLast();
                    return past.size();
                case "upper": return in(v[0], 0, 200) ? now.later(v[0]).word() : BAD;
                case "round": return round();
                default: return later(name, v);
            }
        }

        int later(String name, int[] v) {
            switch (name) {
                case "top": return isAsker(v[0]) ? now.top(v[0]) : BAD;
                case "read":
                    if (!isAsker(v[0]) || !in(v[1], 0, 3)) return BAD;
                    return now.meet(new int[] {v[0]}, v[1]);
                case "both":
                    if (!isAsker(v[0]) || !isAsker(v[1]) || v[0] == v[1] || !in(v[2], 0, 3)) return BAD;
                    return now.meet(new int[] {v[0], v[1]}, v[2]);
                case "hold":
                    if (!isAsker(v[0])) return BAD;
                    for (int n = 0; n <= 12; n++) {
                        State then = now.same();
                        if (n > 0 && now.footUsed) return NONE;
                        if (n > 0) then.foot = n;
                        if (then.gets(v[0])) return n;
                    }
                    return NONE;
                case "first": return isAsker(v[0]) ? first(v[0]) : BAD;
                case "see":
                    if (!in(v[0], 0, 3) || !in(v[1], 0, 99)) return BAD;
                    if (seen.size() == 6) return FULL;
                    seen.add(new int[] {v[0], v[1]});
                    return seen.size();
                case "forget": {
                    int many = seen.size();
                    seen.clear();
                    return many;
                }
                case "laws": return in(v[0], 0, 1) ? laws(v[0]) : BAD;
                case "from": {
                    if (!in(v[0], 0, 3) || !in(v[1], 0, 99)) return BAD;
                    int bits = 0;
                    for (int p = 0; p < told.places && now.later(v[1]).word() == v[0]; p++) {
                        if (now.canBe(p, 0).get(v[1]).contains(0)) bits |= 1 << p;
                    }
                    return bits;
                }
                case "grazing":
                    if (!in(v[0], 0, 3) || !in(v[1], 0, 8) || !in(v[2], 0, 10) || !in(v[3], 0, 1)) return BAD;
                    return grazing(v[0], v[1], v[2], v[3]);
                case "year":
                    if (!in(v[0], 0, 9999) || !in(v[1], 1, 60) || !in(v[2], 0, 1)) return BAD;
                    return year(v[0], v[1], v[2]);
                case "keep":
                    if (kept.size() == 2) return FULL;
                    kept.addLast(now.same());
                    return kept.size();
                case "back":
                    if (kept.isEmpty()) return NO;
                    now = kept.removeLast();
                    past.clear();
                    return kept.size();
                default: return count(v[0]);
            }
        }

        int round() {
            if (now.foot > 0) return NONE;
            List<Integer> words = new ArrayList<>();
            State then = now.same();
            for (int t = 0; t < 576; t++) {
                words.add(then.word());
                then.hourGoesBy();
            }
            for (int n = 1; n <= 288; n++) if (words.subList(0, 288).equals(words.subList(n, n + 288))) return n;
            return NONE;
        }

        int first(int a) {
            int top = now.top(a);
            if (now.left[a] > 0 || now.place[a] == 0 || top == NONE) return NONE;
            for (int w = 0; w < told.ways.size(); w++) {
                State then = now.same();
                if (then.setOut(a, w) != NO && now.topFrom(then.place[a], then.left[a]) == top) return w;
            }
            return 10;
        }

        int laws(int what) {
            TreeSet<Integer> found = new TreeSet<>();
            for (int s = 0; s <= 11; s++) {
                for (int e = 1; e <= 24; e++) {
                    boolean fits = true;
                    for (int[] one : seen) fits = fits && new State(now, s, e).later(one[1]).word() == one[0];
                    if (fits) found.add(100 * s + e);
                }
            }
            return what == 0 ? found.size() : found.isEmpty() ? NONE : found.first();
        }

        int grazing(int w, int n, int x, int part) {
            long above = 0, below = 1;
            for (int i = 0; i < n; i++) below *= 10;
            for (int turns = 0; turns < 1 << n; turns++) {
                long weight = 1;
                for (int i = 0; i < n; i++) weight *= (turns >> i & 1) == 1 ? x : 10 - x;
                State then = now.later(n);
                then.spot += Integer.bitCount(turns);
                if (then.word() == w) above += weight;
            }
            for (long p : new long[] {2, 5}) {
                while (above % p == 0 && below % p == 0) {
                    above /= p;
                    below /= p;
                }
            }
            return (int) (part == 0 ? above : below);
        }

        int year(int z, int n, int what) {
            State then = now.same();
            int often = 0;
            for (int k = 0; k < n; k++) {
                long x = 7919L * z + 6151L * k + 1;
                int draw = (int) ((x * x) % 65521);
                if (!told.ways.isEmpty()) then.setOut(draw % told.askers.size(), draw / 4 % told.ways.size());
                then.hourGoesBy();
                for (int a = 0; a < then.place.length; a++) {
                    if (then.onTop(a) && then.word() == told.askers.get(a)[1]) often++;
                }
            }
            int top = 0;
            for (int a = 0; a < then.place.length; a++) if (then.onTop(a)) top++;
            return what == 0 ? top : often;
        }

        int count(int what) {
            int top = 0;
            for (int a = 0; a < now.place.length; a++) if (now.onTop(a)) top++;
            int[] all = {told.places, told.ways.size(), told.askers.size(), told.ring.size(), now.hour, now.foot,
                top, seen.size(), past.size(), kept.size(), text.length()};
            return in(what, 0, 10) ? all[what] : BAD;
        }
    }

    static int answer(OracleWheel x, String name, int[] v) {
        switch (name) {
            case "write": return x.write(v[0]);
            case "wipe": return x.wipe();
            case "fault": return x.fault();
            case "lay": return x.lay();
            case "word": return x.word(v[0]);
            case "way": return x.way(v[0], v[1]);
            case "asker": return x.asker(v[0], v[1]);
            case "pass": return x.pass(v[0]);
            case "setOut": return x.setOut(v[0], v[1]);
            case "foot": return x.foot(v[0]);
            case "graze": return x.graze();
            case "undo": return x.undo();
            case "upper": return x.upper(v[0]);
            case "round": return x.round();
            case "top": return x.top(v[0]);
            case "read": return x.read(v[0], v[1]);
            case "both": return x.both(v[0], v[1], v[2]);
            case "hold": return x.hold(v[0]);
            case "first": return x.first(v[0]);
            case "see": return x.see(v[0], v[1]);
            case "forget": return x.forget();
            case "laws": return x.laws(v[0]);
            case "from": return x.from(v[0], v[1]);
            case "grazing": return x.grazing(v[0], v[1], v[2], v[3]);
            case "year": return x.year(v[0], v[1], v[2]);
            case "keep": return x.keep();
            case "back": return x.back();
            default: return x.count(v[0]);
        }
    }

    // Each call with the highest number of each argument that is not BAD in every state.
    static final String[] CALLS = {"write 126", "wipe", "fault", "lay", "word 11", "way 9 3", "asker 3 3", "pass 48",
        "setOut 3 9", "foot 12", "graze", "undo", "upper 200", "round", "top 3", "read 3 3", "both 3 3 3", "hold 3",
        "first 3", "see 3 99", "forget", "laws 1", "from 3 99", "grazing 3 8 10 1", "year 9999 60 1", "keep", "back",
        "count 10"};
    static final String OFTEN = "setOut pass setOut pass setOut asker way top first hold foot see laws undo graze";

    static long seed;

    static int draw(int below) {
        seed = seed * 6364136223846793005L + 1442695040888963407L;
        return (int) ((seed >>> 33) % below);
    }

    static int argument(int high) {
        int luck = draw(60);
        if (luck == 0) return -1 - draw(3);
        if (luck == 1) return high + 1;
        if (luck == 2) return draw(2) == 0 ? Integer.MIN_VALUE : Integer.MAX_VALUE;
        if (luck == 3) return high;
        return high > 60 && draw(2) == 0 ? draw(30) : draw(high + 1);
    }

    static String drawText() {
        StringBuilder text = new StringBuilder();
        int places = 1 + draw(8);
        if (draw(5) > 0) {
            text.append('r');
            int many = draw(40) == 0 ? 13 : 2 + draw(11);
            for (int i = 0; i < many; i++) text.append("yyynpb".charAt(draw(6)));
            text.append(';');
        }
        if (draw(5) > 0) text.append("s" + draw(12) + "," + (1 + draw(24)) + "," + draw(12) + ";");
        if (draw(6) > 0) text.append("h" + places + ";");
        else places = 4;
        int ways = draw(30) == 0 ? 11 : draw(11);
        for (int i = 0; i < ways && places > 1; i++) {
            int a = draw(places), b = (a + 1 + draw(places - 1)) % places;
            text.append("w" + draw(4) + "," + a + "," + b + "," + (draw(9) == 0 ? "0" : "") + (1 + draw(9)) + ";");
        }
        int askers = draw(20) == 0 ? 5 : draw(20) == 0 ? 0 : 1 + draw(4);
        for (int i = 0; i < askers; i++) text.append("a" + draw(places) + "," + draw(4) + ";");
        if (draw(4) == 0 && text.length() > 0) {
            int at = draw(text.length());
            if (draw(2) == 0) text.setCharAt(at, "rshwa0123459;,ynpbx ".charAt(draw(20)));
            else text.deleteCharAt(at);
        }
        return text.toString();
    }

    static int wrong = 0;

    static void both(int run, OracleWheel x, Model model, String name, int[] v) {
        int got = answer(x, name, v), due = model.call(name, v);
        if (got != due) {
            wrong++;
            System.out.println("run " + run + ": " + name + java.util.Arrays.toString(v) + " answered " + got
                + ", due is " + due + ", text " + model.text);
        }
    }

    static void oneRun(int run) {
        OracleWheel x = new OracleWheel();
        Model model = new Model();
        String[] often = OFTEN.split(" ");
        int calls = 0;
        while (calls < 512 && wrong < 20) {
            if (calls > 0 && draw(70) == 0 || calls == 0 && run % 4 > 0) {
                String text = drawText();
                // behind 512 calls every answer is free
                if (calls + text.length() + 4 > 512) break;
                both(run, x, model, "wipe", new int[0]);
                for (char c : text.toCharArray()) both(run, x, model, "write", new int[] {c});
                both(run, x, model, "fault", new int[0]);
                both(run, x, model, "lay", new int[0]);
                calls += text.length() + 3;
            }
            String[] call = CALLS[draw(CALLS.length)].split(" ");
            if (draw(3) > 0) {
                String name = often[draw(often.length)];
                for (String one : CALLS) if (one.startsWith(name)) call = one.split(" ");
            }
            int[] v = new int[call.length - 1];
            for (int i = 0; i < v.length; i++) v[i] = argument(Integer.parseInt(call[i + 1]));
            if (call[0].equals("pass") && draw(3) > 0) v[0] = 1 + draw(4);
            if (call[0].equals("lay") && draw(4) > 0) continue;
            both(run, x, model, call[0], v);
            calls++;
        }
    }

    public static void main(String[] args) {
        int runs = args.length > 0 ? Integer.parseInt(args[0]) : 150;
        for (int run = 0; run < runs && wrong < 20; run++) {
            seed = 77 + run;
            oneRun(run);
        }
        System.out.println(wrong == 0 ? "ModelRuns: " + runs + " runs as the model" : wrong + " answers wrong");
        if (wrong != 0) System.exit(1);
    }
}
