import java.util.Random;

/** Random runs of calls on the class and on the plain model, compared answer by answer. */
public final class ModelTest {
    private static final int RUNS = 600;
    private static final int CALLS = 300;
    /** An object is promised for 512 calls; one step of a run makes up to 30 (a text is typed and read). */
    private static final int MOST_CALLS = 470;
    private static final int CALL_KINDS = 38;

    private final Check check;
    private final Random random;
    private final OneNote real = new OneNote();
    private final PlainModel plain = new PlainModel();
    private int made;

    private ModelTest(Check check, int run) {
        this.check = check;
        this.random = new Random(run);
    }

    public static void main(String[] args) {
        Check check = new Check();
        for (int run = 0; run < RUNS; run++) {
            check.about("run " + run);
            new ModelTest(check, run).run(run);
        }
        check.end();
    }

    private void run(int run) {
        int building = run % 4 == 0 ? 0 : 40;
        int total = run % 10 == 1 ? CALLS : 120;
        for (int i = 0; i < total && made < MOST_CALLS; i++) {
            call(i < building && random.nextInt(10) > 0 ? random.nextInt(8) : random.nextInt(CALL_KINDS));
            if (i % 4 == 0) {
                due("call " + i + ", then digest()", real.digest(), plain.digest());
            }
        }
        for (int s = 0; s < 3; s++) {
            check.due("status(" + s + ")", real.status(s), plain.status(s));
        }
    }

    /** A number from 0 to one below the bound mostly, at times the bound, one below 0, or far off. */
    private int num(int bound) {
        return switch (random.nextInt(60)) {
            case 0 -> -1;
            case 1 -> bound;
            case 2 -> random.nextInt();
            case 3 -> bound + random.nextInt(5);
            case 4 -> random.nextBoolean() ? Integer.MAX_VALUE : Integer.MIN_VALUE;
            default -> random.nextInt(bound);
        };
    }

    private int person() {
        return num(Math.max(1, plain.count(0)));
    }

    private int chord() {
        return num(Math.max(1, plain.count(1)));
    }

    private int set() {
        int all = 1 << plain.count(0);
        return random.nextInt(3) == 0 ? all - 1 : num(all);
    }

    private int notes() {
        int notes = 0;
        for (int i = random.nextInt(5); i > 1; i--) {
            notes |= 1 << random.nextInt(12);
        }
        return random.nextInt(20) == 0 ? num(4096) : notes;
    }

    private void due(String call, long got, long want) {
        made++;
        check.due(call, got, want);
    }

    private void call(int kind) {
        int a = num(6);
        int b = num(6);
        switch (kind) {
            case 0 -> due("door(" + a + ", " + b + ")", real.door(a, b), plain.door(a, b));
            case 1 -> due("hears(" + a + ", " + b + ")", real.hears(a, b), plain.hears(a, b));
            case 2, 3 -> oneMore(num(6), num(12), random.nextInt(3) > 0 ? random.nextInt(2) : a);
            case 4 -> marry(person(), person());
            case 5, 6 -> newChord();
            case 7 -> {
                int v = num(3);
                due("slack(" + v + ")", real.slack(v), plain.slack(v));
            }
            case 8 -> {
                int p = person();
                due("goes(" + p + ", " + a + ")", real.goes(p, a), plain.goes(p, a));
            }
            default -> {
                if (kind < 24) {
                    ask(kind);
                } else {
                    askMore(kind);
                }
            }
        }
    }

    private void oneMore(int kind, int note, int room) {
        due("one(" + kind + ", " + note + ", " + room + ")", real.one(kind, note, room),
            plain.one(kind, note, room));
    }

    private void marry(int a, int b) {
        due("mates(" + a + ", " + b + ")", real.mates(a, b), plain.mates(a, b));
    }

    private void newChord() {
        int[] n = {random.nextInt(12), random.nextInt(12), random.nextInt(12)};
        if (random.nextInt(10) > 0) {
            java.util.Arrays.sort(n);
        } else {
            n[random.nextInt(3)] = num(12);
        }
        int used = random.nextInt(10) == 0 ? num(10) : 1 + random.nextInt(9);
        due("chord(" + n[0] + ", " + n[1] + ", " + n[2] + ", " + used + ")", real.chord(n[0], n[1], n[2], used),
            plain.chord(n[0], n[1], n[2], used));
    }

    private void ask(int kind) {
        int s = set();
        int p = person();
        int c = chord();
        int r = num(6);
        switch (kind) {
            case 9 -> due("sounds(" + p + ", " + s + ")", real.sounds(p, s), plain.sounds(p, s));
            case 10, 11 -> readSomething();
            case 12 -> due("says(" + s + ", " + c + ")", real.says(s, c), plain.says(s, c));
            case 13 -> due("said(" + r + ")", real.said(r), plain.said(r));
            case 14 -> {
                int other = num(6);
                due("byDoor(" + r + ", " + other + ")", real.byDoor(r, other), plain.byDoor(r, other));
            }
            case 15 -> due("fewest(" + s + ", " + c + ")", real.fewest(s, c), plain.fewest(s, c));
            case 16 -> due("speak(" + c + ")", real.speak(c), plain.speak(c));
            case 17 -> {
                if (random.nextInt(2) == 0) {
                    due("hush()", real.hush(), plain.hush());
                }
            }
            case 18 -> {
                int what = num(3);
                due("fetch(" + what + ")", real.fetch(what), plain.fetch(what));
            }
            case 19 -> {
                int t = random.nextBoolean() ? random.nextInt(3) : num(10);
                due("inTime(" + t + ")", real.inTime(t), plain.inTime(t));
            }
            case 20 -> {
                int d = chord();
                int fog = num(4);
                due("taken(" + c + ", " + d + ", " + fog + ")", real.taken(c, d, fog), plain.taken(c, d, fog));
            }
            case 21 -> {
                int fog = num(4);
                due("drop(" + fog + ")", real.drop(fog), plain.drop(fog));
            }
            case 22 -> {
                int to = num(6);
                int i = random.nextInt(3) == 0 ? -1 : num(7);
                due("news(" + r + ", " + to + ", " + i + ")", real.news(r, to, i), plain.news(r, to, i));
            }
            default -> {
                int notes = notes();
                due("hole(" + notes + ")", real.hole(notes), plain.hole(notes));
            }
        }
    }

    private void askMore(int kind) {
        int s = set();
        int c = chord();
        int h = num(Math.max(1, plain.count(3)));
        int few = num(3);
        switch (kind) {
            case 24 -> {
                if (random.nextInt(2) == 0) {
                    due("whole()", real.whole(), plain.whole());
                }
            }
            case 25 -> due("meant(" + h + ")", real.meant(h), plain.meant(h));
            case 26 -> due("ways()", real.ways(), plain.ways());
            case 27 -> due("odds(" + h + ", " + c + ")", real.odds(h, c), plain.odds(h, c));
            case 28 -> due("block(" + s + ", " + c + ")", real.block(s, c), plain.block(s, c));
            case 29 -> {
                int p = person();
                due("swing(" + s + ", " + p + ", " + c + ")", real.swing(s, p, c), plain.swing(s, p, c));
            }
            case 30 -> {
                int k = num(7);
                int i = random.nextInt(3) == 0 ? -1 : num(7);
                due("song(" + s + ", " + k + ", " + i + ")", real.song(s, k, i), plain.song(s, k, i));
            }
            case 31 -> due("couple(" + s + ")", real.couple(s), plain.couple(s));
            case 32 -> due("part(" + few + ")", real.part(few), plain.part(few));
            case 33 -> due("image(" + few + ")", real.image(few), plain.image(few));
            case 34 -> due("from(" + few + ")", real.from(few), plain.from(few));
            case 35 -> due("status(" + few + ")", real.status(few), plain.status(few));
            case 36 -> {
                int what = num(5);
                due("count(" + what + ")", real.count(what), plain.count(what));
            }
            default -> due("fetch(2)", real.fetch(2), plain.fetch(2));
        }
    }

    private void readSomething() {
        if (random.nextInt(4) == 0) {
            due("clear()", real.clear(), plain.clear());
            return;
        }
        if (random.nextInt(10) > 0) {
            due("clear()", real.clear(), plain.clear());
            typeAll(random.nextInt(3) == 0 ? spoilt(someText()) : someText());
        } else {
            int n = num(9);
            due("type(59, " + n + ")", real.type(59, n), plain.type(59, n));
        }
        due("read()", real.read(), plain.read());
    }

    private void typeAll(String text) {
        for (int at = 0; at < text.length(); ) {
            int n = Math.min(8, text.length() - at);
            long v = random.nextLong();
            for (int i = 0; i < n; i++) {
                v = v << 8 | text.charAt(at + i);
            }
            due("type of " + text, real.type(v, n), plain.type(v, n));
            at += n;
        }
    }

    private String someText() {
        StringBuilder text = new StringBuilder();
        String[] words = {"door", "hears", "one", "mates", "chord", "slack"};
        int[] order = {2, 2, 2, 4, 4, 0, 1, 3, 5};
        for (int items = random.nextInt(16); items > 0; items--) {
            int word = order[random.nextInt(order.length)];
            text.append(blanks(0)).append(words[word]);
            for (int n : numbersFor(word)) {
                text.append(blanks(random.nextInt(30) == 0 ? 0 : 1));
                text.append(random.nextInt(20) == 0 && n < 10 ? "0" : "").append(n);
            }
            text.append(blanks(0)).append(';');
        }
        return text.append(blanks(0)).toString();
    }

    private String blanks(int least) {
        return " ".repeat(least + (random.nextInt(10) == 0 ? random.nextInt(3) : 0));
    }

    private int[] numbersFor(int word) {
        int low = random.nextInt(10);
        return switch (word) {
            case 0, 1 -> new int[] {random.nextInt(6), random.nextInt(6)};
            case 2 -> new int[] {random.nextInt(6), random.nextInt(12), random.nextInt(6)};
            case 3 -> new int[] {random.nextInt(3), random.nextInt(3)};
            case 4 -> new int[] {low / 3, low / 2 + 1, low / 2 + 2 + random.nextInt(5), 1 + random.nextInt(9)};
            default -> new int[] {random.nextInt(3)};
        };
    }

    private String spoilt(String text) {
        if (text.isEmpty()) {
            return "!";
        }
        int at = random.nextInt(text.length());
        return switch (random.nextInt(4)) {
            case 0 -> text.substring(0, at);
            case 1 -> text.substring(0, at) + text.substring(at + 1);
            case 2 -> text.substring(0, at) + "ax;019 D".charAt(random.nextInt(8)) + text.substring(at);
            default -> text.substring(0, at) + (char) random.nextInt(256) + text.substring(at + 1);
        };
    }
}
