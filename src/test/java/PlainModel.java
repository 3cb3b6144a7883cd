import java.util.ArrayList;
import java.util.Arrays;
import java.util.Collections;
import java.util.List;
import java.util.TreeSet;
import java.util.regex.Matcher;
import java.util.regex.Pattern;

/** The document in the plainest way: everything is tried, nothing is clever. Written apart from the class. */
final class PlainModel {
    private static final int NONE = -1, BAD = -2, NO = -3, FULL = -4;

    private static final class Person {
        int kind;
        int note;
        int room;
        int mate = NONE;

        Person(int kind, int note, int room) {
            this.kind = kind;
            this.note = note;
            this.room = room;
        }

        Person copy() {
            Person p = new Person(kind, note, room);
            p.mate = mate;
            return p;
        }
    }

    private record Chord(List<Integer> notes, int used) {
        int bits() {
            return notes.stream().mapToInt(n -> 1 << n).sum();
        }
    }

    private static final class State {
        final TreeSet<Integer> doors = new TreeSet<>();
        final TreeSet<Integer> hears = new TreeSet<>();
        final List<Person> people = new ArrayList<>();
        final List<Chord> chords = new ArrayList<>();
        int slack;
        final List<Integer> speech = new ArrayList<>();
        final List<Integer> holes = new ArrayList<>();

        State copy() {
            State s = new State();
            s.doors.addAll(doors);
            s.hears.addAll(hears);
            people.forEach(p -> s.people.add(p.copy()));
            s.chords.addAll(chords);
            s.slack = slack;
            s.speech.addAll(speech);
            s.holes.addAll(holes);
            return s;
        }
    }

    private State now = new State();
    private final StringBuilder text = new StringBuilder();
    private long above = 0;
    private long below = 1;
    private final int[] status = new int[3];
    private final State[] images = new State[2];

    // ---- refusals

    private int refuse(int answer) {
        status[answer == BAD ? 0 : answer == NO ? 1 : 2]++;
        return answer;
    }

    private int counted(int answer) {
        return answer == BAD || answer == NO || answer == FULL ? refuse(answer) : answer;
    }

    private static boolean in(int v, int from, int to) {
        return from <= v && v <= to;
    }

    private static boolean room(int r) {
        return in(r, 0, 5);
    }

    private boolean person(int p) {
        return in(p, 0, now.people.size() - 1);
    }

    private boolean set(int s) {
        return in(s, 0, (1 << now.people.size()) - 1);
    }

    private boolean isChord(int c) {
        return in(c, 0, now.chords.size() - 1);
    }

    private static List<Integer> members(int set) {
        List<Integer> m = new ArrayList<>();
        for (int p = 0; p < 31; p++) {
            if ((set & 1 << p) != 0) {
                m.add(p);
            }
        }
        return m;
    }

    private static int apart(int a, int b) {
        int d = Math.abs(a - b);
        return Math.min(d, 12 - d);
    }

    private static int pair(int a, int b) {
        return 10 * Math.min(a, b) + Math.max(a, b);
    }

    // ---- the items, on any state

    private static int addPair(TreeSet<Integer> pairs, int a, int b) {
        if (!room(a) || !room(b) || a == b) {
            return BAD;
        }
        return pairs.add(pair(a, b)) ? 1 : NO;
    }

    private static int addOne(State s, int kind, int note, int room) {
        if (!in(kind, 0, 5) || !in(note, 0, 11) || !room(room)) {
            return BAD;
        }
        if (s.people.size() == 7) {
            return FULL;
        }
        s.people.add(new Person(kind, note, room));
        return s.people.size() - 1;
    }

    private static int addMates(State s, int a, int b) {
        int last = s.people.size() - 1;
        if (!in(a, 0, last) || !in(b, 0, last) || a == b) {
            return BAD;
        }
        if (s.people.get(a).mate != NONE || s.people.get(b).mate != NONE) {
            return NO;
        }
        s.people.get(a).mate = b;
        s.people.get(b).mate = a;
        return 1;
    }

    private static int addChord(State s, int a, int b, int c, int used) {
        if (!in(a, 0, 11) || !in(b, 0, 11) || !in(c, 0, 11) || !in(used, 1, 9) || a >= b || b >= c) {
            return BAD;
        }
        List<Integer> notes = List.of(a, b, c);
        if (s.chords.stream().anyMatch(o -> o.notes.equals(notes))) {
            return BAD;
        }
        if (s.chords.size() == 8) {
            return FULL;
        }
        s.chords.add(new Chord(notes, used));
        return s.chords.size() - 1;
    }

    private static int setSlack(State s, int v) {
        if (!in(v, 0, 2)) {
            return BAD;
        }
        int was = s.slack;
        s.slack = v;
        return was;
    }

    int door(int a, int b) {
        return counted(addPair(now.doors, a, b));
    }

    int hears(int a, int b) {
        return counted(addPair(now.hears, a, b));
    }

    int one(int kind, int note, int room) {
        return counted(addOne(now, kind, note, room));
    }

    int mates(int a, int b) {
        return counted(addMates(now, a, b));
    }

    int goes(int p, int r) {
        if (!person(p) || !room(r)) {
            return refuse(BAD);
        }
        int was = now.people.get(p).room;
        now.people.get(p).room = r;
        return was;
    }

    int chord(int a, int b, int c, int used) {
        return counted(addChord(now, a, b, c, used));
    }

    int slack(int v) {
        return counted(setSlack(now, v));
    }

    // ---- sounds

    private static TreeSet<Integer> soundsIn(State s, int p, int set) {
        Person one = s.people.get(p);
        TreeSet<Integer> notes = new TreeSet<>();
        boolean alone = members(set).size() == 1;
        boolean withMate = one.mate != NONE && members(set).contains(one.mate);
        if (one.kind != 1 || alone) {
            notes.add(one.note);
        }
        if (one.kind == 1 && !alone || one.kind == 3 || one.kind == 4 || one.kind == 5) {
            notes.add((one.note + 1) % 12);
        }
        if (one.kind == 2 && withMate) {
            notes.add((one.note + 7) % 12);
        }
        if (one.kind == 5) {
            notes.add((one.note + 6) % 12);
        }
        return notes;
    }

    int sounds(int p, int set) {
        if (!person(p) || !set(set) || !members(set).contains(p)) {
            return refuse(BAD);
        }
        return soundsIn(now, p, set).stream().mapToInt(n -> 1 << n).sum();
    }

    private static boolean can(State s, int set, Chord chord) {
        return fill(s, set, chord, 0, new int[7]);
    }

    private static boolean fill(State s, int set, Chord chord, int i, int[] filled) {
        if (i == 3) {
            return true;
        }
        for (int p : members(set)) {
            int most = s.people.get(p).kind >= 4 ? 2 : 1;
            boolean fits = soundsIn(s, p, set).stream().anyMatch(n -> apart(n, chord.notes.get(i)) <= s.slack);
            if (fits && filled[p] < most) {
                filled[p]++;
                boolean rest = fill(s, set, chord, i + 1, filled);
                filled[p]--;
                if (rest) {
                    return true;
                }
            }
        }
        return false;
    }

    private boolean can(int set, int chord) {
        return can(now, set, now.chords.get(chord));
    }

    private static int saidBy(State s, int set) {
        int bits = 0;
        for (int c = 0; c < s.chords.size(); c++) {
            bits |= can(s, set, s.chords.get(c)) ? 1 << c : 0;
        }
        return bits;
    }

    private int inRoom(int r) {
        int set = 0;
        for (int p = 0; p < now.people.size(); p++) {
            set |= now.people.get(p).room == r ? 1 << p : 0;
        }
        return set;
    }

    int says(int set, int chord) {
        return !set(set) || !isChord(chord) ? refuse(BAD) : can(set, chord) ? 1 : 0;
    }

    int said(int r) {
        return room(r) ? saidBy(now, inRoom(r)) : refuse(BAD);
    }

    int byDoor(int a, int b) {
        if (!room(a) || !room(b)) {
            return refuse(BAD);
        }
        return now.doors.contains(pair(a, b)) ? saidBy(now, inRoom(a) | inRoom(b)) : refuse(NO);
    }

    int fewest(int set, int chord) {
        if (!set(set) || !isChord(chord)) {
            return refuse(BAD);
        }
        List<int[]> found = new ArrayList<>();
        for (int s = 0; s <= set; s++) {
            if ((s | set) == set && can(s, chord)) {
                found.add(new int[] {members(s).size(), s});
            }
        }
        return found.isEmpty() ? NONE : Collections.min(found, Arrays::compare)[1];
    }

    // ---- the speech

    int speak(int chord) {
        if (!isChord(chord)) {
            return refuse(BAD);
        }
        if (now.speech.size() == 6) {
            return refuse(FULL);
        }
        now.speech.add(chord);
        return now.speech.size();
    }

    int hush() {
        int had = now.speech.size();
        now.speech.clear();
        return had;
    }

    private int stepsBetween(int a, int b) {
        TreeSet<Integer> seen = new TreeSet<>(List.of(a));
        for (int steps = 0; steps < 7; steps++) {
            if (seen.contains(b)) {
                return steps;
            }
            for (int r : List.copyOf(seen)) {
                for (int n = 0; n < 6; n++) {
                    if (now.doors.contains(pair(r, n))) {
                        seen.add(n);
                    }
                }
            }
        }
        return 1000;
    }

    /** STEPS, ROOM, how many PEOPLE, bits; or null. */
    private int[] errand(int t) {
        List<int[]> found = new ArrayList<>();
        for (int set = 0; set < 1 << now.people.size(); set++) {
            int s = set;
            if (!now.speech.stream().allMatch(c -> can(s, c))) {
                continue;
            }
            for (int r = 0; r < 6; r++) {
                int sum = 0;
                int most = 0;
                for (int p : members(set)) {
                    int steps = stepsBetween(now.people.get(p).room, r);
                    sum += steps;
                    most = Math.max(most, steps);
                }
                if (most <= t) {
                    found.add(new int[] {sum, r, members(set).size(), set});
                }
            }
        }
        return found.isEmpty() ? null : Collections.min(found, Arrays::compare);
    }

    int fetch(int what) {
        if (!in(what, 0, 2)) {
            return refuse(BAD);
        }
        int[] best = errand(500);
        return best == null ? NONE : what == 0 ? best[0] : what == 1 ? best[1] : best[3];
    }

    int inTime(int t) {
        if (!in(t, 0, 9)) {
            return refuse(BAD);
        }
        int[] best = errand(t);
        return best == null ? NONE : best[0];
    }

    // ---- fog

    private boolean mixed(int a, int b, int fog) {
        List<Integer> x = now.chords.get(a).notes;
        List<Integer> y = now.chords.get(b).notes;
        int[][] orders = {{0, 1, 2}, {0, 2, 1}, {1, 0, 2}, {1, 2, 0}, {2, 0, 1}, {2, 1, 0}};
        for (int[] o : orders) {
            if (apart(x.get(0), y.get(o[0])) <= fog && apart(x.get(1), y.get(o[1])) <= fog
                && apart(x.get(2), y.get(o[2])) <= fog) {
                return true;
            }
        }
        return false;
    }

    int taken(int a, int b, int fog) {
        return !isChord(a) || !isChord(b) || a == b || !in(fog, 0, 3) ? refuse(BAD) : mixed(a, b, fog) ? 1 : 0;
    }

    int drop(int fog) {
        if (!in(fog, 0, 3)) {
            return refuse(BAD);
        }
        List<int[]> found = new ArrayList<>();
        int all = (1 << now.chords.size()) - 1;
        for (int s = 0; s <= all; s++) {
            boolean clear = true;
            for (int a : members(all & ~s)) {
                for (int b : members(all & ~s)) {
                    clear &= a == b || !mixed(a, b, fog);
                }
            }
            if (clear) {
                found.add(new int[] {members(s).size(), s});
            }
        }
        return Collections.min(found, Arrays::compare)[1];
    }

    // ---- news

    private void rows(List<Integer> row, int to, List<List<Integer>> found) {
        int last = row.get(row.size() - 1);
        if (last == to) {
            found.add(List.copyOf(row));
            return;
        }
        for (int n = 0; n < 6; n++) {
            if (now.hears.contains(pair(last, n)) && !row.contains(n)) {
                row.add(n);
                rows(row, to, found);
                row.remove(row.size() - 1);
            }
        }
    }

    private int sent(List<Integer> row) {
        int sent = 0;
        for (int i = 1; i < row.size() - 1; i++) {
            sent += inRoom(row.get(i)) == 0 ? 1 : 0;
        }
        return sent;
    }

    int news(int from, int to, int i) {
        if (!room(from) || !room(to) || i < NONE) {
            refuse(BAD);
            return -10;
        }
        List<List<Integer>> found = new ArrayList<>();
        rows(new ArrayList<>(List.of(from)), to, found);
        if (found.isEmpty()) {
            return NONE;
        }
        List<Integer> best = Collections.min(found, (x, y) -> sent(x) != sent(y) ? sent(x) - sent(y)
            : x.size() != y.size() ? x.size() - y.size() : x.toString().compareTo(y.toString()));
        return i == NONE ? sent(best) : i < best.size() ? best.get(i) : -5;
    }

    // ---- holes

    int hole(int notes) {
        if (!in(notes, 0, 4095) || members(notes).size() > 3) {
            return refuse(BAD);
        }
        if (now.holes.size() == 6) {
            return refuse(FULL);
        }
        now.holes.add(notes);
        return now.holes.size() - 1;
    }

    int whole() {
        int had = now.holes.size();
        now.holes.clear();
        return had;
    }

    private List<Integer> meantBy(int hole) {
        List<Integer> fit = new ArrayList<>();
        for (int c = 0; c < now.chords.size(); c++) {
            if (now.chords.get(c).notes.containsAll(members(now.holes.get(hole)))) {
                fit.add(c);
            }
        }
        return fit;
    }

    int meant(int hole) {
        if (!in(hole, 0, now.holes.size() - 1)) {
            return refuse(BAD);
        }
        return meantBy(hole).stream().mapToInt(c -> 1 << c).sum();
    }

    /** Adds up all rows: how many, by weight, by weight with the chord at the hole. */
    private void guess(List<List<Integer>> fits, int[] row, int at, int hole, int chord, long[] sums) {
        if (at == row.length) {
            long weight = 1;
            for (int c : row) {
                weight *= now.chords.get(c).used;
            }
            sums[0]++;
            sums[1] += weight;
            sums[2] += hole >= 0 && row[hole] == chord ? weight : 0;
            return;
        }
        for (int c : fits.get(at)) {
            if (at == 0 || row[at - 1] != c) {
                row[at] = c;
                guess(fits, row, at + 1, hole, chord, sums);
            }
        }
    }

    private long[] guess(int hole, int chord) {
        List<List<Integer>> fits = new ArrayList<>();
        for (int h = 0; h < now.holes.size(); h++) {
            fits.add(meantBy(h));
        }
        long[] sums = new long[3];
        guess(fits, new int[now.holes.size()], 0, hole, chord, sums);
        return sums;
    }

    int ways() {
        return (int) guess(NONE, NONE)[0];
    }

    private void fraction(long a, long b) {
        long d = java.math.BigInteger.valueOf(a).gcd(java.math.BigInteger.valueOf(b)).longValue();
        above = a / d;
        below = b / d;
    }

    int odds(int hole, int chord) {
        if (!in(hole, 0, now.holes.size() - 1) || !isChord(chord)) {
            return refuse(BAD);
        }
        long[] sums = guess(hole, chord);
        if (sums[0] == 0) {
            return refuse(NO);
        }
        fraction(sums[2], sums[1]);
        return 1;
    }

    // ---- motions, songs

    int block(int set, int chord) {
        if (!set(set) || !isChord(chord)) {
            return refuse(BAD);
        }
        if (!can(set, chord)) {
            return refuse(NO);
        }
        return members(set).stream().filter(p -> !can(set - (1 << p), chord)).mapToInt(p -> 1 << p).sum();
    }

    int swing(int set, int p, int chord) {
        if (!set(set) || !person(p) || !members(set).contains(p) || !isChord(chord)) {
            return refuse(BAD);
        }
        int all = 0;
        int swung = 0;
        for (int s = 0; s < 128; s++) {
            if ((s | set) == set && !members(s).contains(p)) {
                all++;
                swung += !can(s, chord) && can(s + (1 << p), chord) ? 1 : 0;
            }
        }
        fraction(swung, all);
        return 1;
    }

    private void sing(List<Integer> order, int left, int k, List<List<Integer>> found) {
        if (left == 0) {
            found.add(List.copyOf(order));
            return;
        }
        for (int p : members(left)) {
            int note = now.people.get(p).note;
            if (order.isEmpty() || apart(now.people.get(order.get(order.size() - 1)).note, note) <= k) {
                order.add(p);
                sing(order, left - (1 << p), k, found);
                order.remove(order.size() - 1);
            }
        }
    }

    int song(int set, int k, int i) {
        if (!set(set) || !in(k, 0, 6) || i < NONE) {
            refuse(BAD);
            return -10;
        }
        List<List<Integer>> found = new ArrayList<>();
        sing(new ArrayList<>(), set, k, found);
        if (i == NONE) {
            return found.size();
        }
        return found.isEmpty() || i >= found.get(0).size() ? -5 : found.get(0).get(i);
    }

    int couple(int set) {
        if (!set(set)) {
            return refuse(BAD);
        }
        List<int[]> found = new ArrayList<>();
        for (int a : members(set)) {
            for (int b : members(set)) {
                if (a < b && now.people.get(a).mate != b) {
                    State s = now.copy();
                    for (Person p : s.people) {
                        p.mate = p.mate == a || p.mate == b ? NONE : p.mate;
                    }
                    s.people.get(a).kind = 2;
                    s.people.get(b).kind = 2;
                    s.people.get(a).mate = b;
                    s.people.get(b).mate = a;
                    found.add(new int[] {-members(saidBy(s, set)).size(), a, b});
                }
            }
        }
        if (found.isEmpty()) {
            return NONE;
        }
        int[] best = Collections.min(found, Arrays::compare);
        return 10 * best[1] + best[2];
    }

    // ---- the text

    int type(long v, int n) {
        if (!in(n, 1, 8)) {
            return refuse(BAD);
        }
        if (text.length() + n > 200) {
            return refuse(FULL);
        }
        for (int i = 8 - n; i < 8; i++) {
            text.append((char) (java.nio.ByteBuffer.allocate(8).putLong(v).get(i) & 255));
        }
        return text.length();
    }

    int clear() {
        int had = text.length();
        text.setLength(0);
        return had;
    }

    int read() {
        List<String> words = List.of("door", "hears", "one", "mates", "chord", "slack");
        int[] arity = {2, 2, 3, 2, 4, 1};
        List<List<Integer>> items = new ArrayList<>();
        List<Integer> item = null;
        Matcher m = Pattern.compile("[a-z]+|[0-9]+|[^ ]", Pattern.DOTALL).matcher(text);
        while (m.find()) {
            String token = m.group();
            boolean stands;
            if (item == null) {
                stands = words.contains(token);
                item = new ArrayList<>(List.of(words.indexOf(token)));
            } else if (item.size() <= arity[item.get(0)]) {
                stands = token.matches("[0-9]{1,2}");
                item.add(stands ? Integer.parseInt(token) : 0);
            } else {
                stands = token.equals(";");
                items.add(item);
                item = null;
            }
            if (!stands) {
                return -10 - m.start();
            }
        }
        if (item != null) {
            return -10 - text.length();
        }
        State told = new State();
        for (int i = 0; i < items.size(); i++) {
            if (tell(told, items.get(i)) < 0) {
                return -1000 - i;
            }
        }
        now = told;
        return items.size();
    }

    private static int tell(State s, List<Integer> v) {
        return switch (v.get(0)) {
            case 0 -> addPair(s.doors, v.get(1), v.get(2));
            case 1 -> addPair(s.hears, v.get(1), v.get(2));
            case 2 -> addOne(s, v.get(1), v.get(2), v.get(3));
            case 3 -> addMates(s, v.get(1), v.get(2));
            case 4 -> addChord(s, v.get(1), v.get(2), v.get(3), v.get(4));
            default -> setSlack(s, v.get(1));
        };
    }

    // ---- what there is

    long part(int what) {
        return what == 0 ? above : what == 1 ? below : refuse(BAD);
    }

    int image(int i) {
        if (!in(i, 0, 1)) {
            return refuse(BAD);
        }
        images[i] = now.copy();
        return 1;
    }

    int from(int i) {
        if (!in(i, 0, 1)) {
            return refuse(BAD);
        }
        if (images[i] == null) {
            return refuse(NO);
        }
        now = images[i].copy();
        return 1;
    }

    int status(int what) {
        if (!in(what, 0, 2)) {
            refuse(BAD);
            return -1;
        }
        return status[what];
    }

    private List<Integer> counts() {
        return List.of(now.people.size(), now.chords.size(), now.speech.size(), now.holes.size(), text.length());
    }

    int count(int what) {
        return in(what, 0, 4) ? counts().get(what) : refuse(BAD);
    }

    long digest() {
        List<Long> values = new ArrayList<>();
        counts().forEach(c -> values.add((long) c));
        for (int a = 0; a < 6; a++) {
            for (int b = 0; b < a; b++) {
                values.add(now.doors.contains(pair(a, b)) ? 1L : 0L);
                values.add(now.hears.contains(pair(a, b)) ? 1L : 0L);
            }
        }
        now.people.forEach(p -> values.addAll(List.of((long) p.kind, (long) p.note, (long) p.room, (long) p.mate)));
        now.chords.forEach(c -> values.addAll(List.of((long) c.bits(), (long) c.used)));
        values.add((long) now.slack);
        now.speech.forEach(c -> values.add((long) c));
        now.holes.forEach(h -> values.add((long) h));
        values.add(above);
        values.add(below);
        long h = 677;
        for (long v : values) {
            h = 31 * h + v;
        }
        return h;
    }
}
