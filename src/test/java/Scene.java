import java.nio.charset.StandardCharsets;
import java.util.ArrayList;
import java.util.List;
import java.util.TreeSet;
import java.util.function.Consumer;
import java.util.function.ToLongFunction;

/**
 * A valley that can be made again and again: so one on which a call was refused can be laid beside its like, on
 * which it was not made, and all that can be asked of the two be compared.
 */
final class Scene {
    static final int SINGER = 0, LIAR = 1, WED = 2, CHILD = 3, TWIN = 4, MILLER = 5;
    static final int MAX = Integer.MAX_VALUE, MIN = Integer.MIN_VALUE;

    /** Valid, 200 bytes long, and unlike all that the scenes have. */
    private static final String LONGEST_TEXT = filledUp("one 5 11 5;one 2 3 4;one 2 10 0;mates 2 1;door 5 0;hears 3 4;"
        + "chord 0 1 2 9;chord 2 3 11 1;slack 2;", 200);

    private final Check check;
    private final String name;
    private final Consumer<OneNote> maker;

    /** A call with its numbers in a row. */
    interface Call {
        long of(OneNote x, int[] numbers);
    }

    Scene(Check check, String name, Consumer<OneNote> maker) {
        this.check = check;
        this.name = name;
        this.maker = maker;
    }

    static Scene empty(Check check) {
        return new Scene(check, "a new object", x -> { });
    }

    /** 3 PEOPLE, 2 CHORDS, a SPEECH of 1, 2 HOLES, an IMAGE, a TEXT, THE FRACTION 1 by 4. */
    static Scene some(Check check) {
        return new Scene(check, "some", Scene::makeSome);
    }

    /** All that can be full is full, both IMAGES are kept, THE FRACTION is 3 by 16, each STATUS is above 0. */
    static Scene fullest(Check check) {
        return new Scene(check, "the fullest", Scene::makeFullest);
    }

    private static void makeSome(OneNote x) {
        x.one(CHILD, 9, 3);
        x.image(0);
        x.read();
        x.one(SINGER, 0, 0);
        x.one(TWIN, 4, 1);
        x.one(WED, 7, 5);
        x.chord(0, 4, 7, 3);
        x.chord(4, 5, 7, 2);
        x.door(0, 1);
        x.hears(0, 1);
        x.hears(1, 5);
        x.speak(0);
        x.hole(1);
        x.hole(0);
        x.swing(7, 0, 0);
        write(x, "slack 2;");
    }

    private static void makeFullest(OneNote x) {
        x.one(SINGER, 0, 0);
        x.one(LIAR, 3, 0);
        x.image(0);
        x.one(WED, 9, 1);
        x.one(TWIN, 6, 1);
        x.one(WED, 2, 2);
        x.mates(2, 4);
        x.chord(0, 4, 9, 3);
        x.chord(6, 7, 9, 2);
        x.slack(1);
        x.door(4, 3);
        x.image(1);
        x.one(CHILD, 11, 3);
        x.one(MILLER, 5, 5);
        x.mates(0, 6);
        for (int c = 2; c < 8; c++) {
            x.chord(1, 2 + c, 11, c);
        }
        x.door(0, 1);
        x.door(1, 2);
        x.hears(0, 1);
        x.hears(1, 3);
        x.hears(3, 5);
        x.slack(2);
        x.slack(1);
        for (int i = 0; i < 6; i++) {
            x.speak(i % 2);
            x.hole(i == 2 ? 1 : 0);
        }
        x.swing(63, 1, 0);
        write(x, LONGEST_TEXT);
        x.door(0, 0);
        x.door(0, 1);
        x.one(0, 0, 0);
    }

    OneNote make() {
        OneNote x = new OneNote();
        maker.accept(x);
        return x;
    }

    void bad(String call, ToLongFunction<OneNote> asked) {
        answers(call, asked, OneNote.BAD, 0);
    }

    void no(String call, ToLongFunction<OneNote> asked) {
        answers(call, asked, OneNote.NO, 1);
    }

    void full(String call, ToLongFunction<OneNote> asked) {
        answers(call, asked, OneNote.FULL, 2);
    }

    /** A call that answers and changes nothing at all. */
    void asks(String call, ToLongFunction<OneNote> asked, long want) {
        answers(call, asked, want, 3);
    }

    /** A call that changes nothing but the one STATUS (3: none), which has one more. */
    void answers(String call, ToLongFunction<OneNote> asked, long want, int reason) {
        OneNote x = make();
        OneNote like = make();
        String where = name + ": " + call;
        check.due(where, asked.applyAsLong(x), want);
        for (int s = 0; s < 3; s++) {
            check.due(where + ", then status(" + s + ")", x.status(s), like.status(s) + (s == reason ? 1 : 0));
        }
        check.due(where + ", then all else is as it was", traces(x).equals(traces(like)) ? 1 : 0, 1);
    }

    /** Each number in turn is just outside its range (told by the least and the greatest), or far off: BAD. */
    void off(String call, Call asked, int[] fine, int... ranges) {
        offAnswers(call, asked, OneNote.BAD, fine, ranges);
    }

    void offAnswers(String call, Call asked, long want, int[] fine, int... ranges) {
        for (int i = 0; i < fine.length; i++) {
            for (int wrong : outside(ranges[2 * i], ranges[2 * i + 1])) {
                int[] numbers = fine.clone();
                numbers[i] = wrong;
                answers(call + java.util.Arrays.toString(numbers), x -> asked.of(x, numbers), want, 0);
            }
        }
        int[] none = new int[fine.length];
        java.util.Arrays.fill(none, MIN);
        answers(call + ", all wrong", x -> asked.of(x, none), want, 0);
    }

    /** The next ones, the farthest ones, and such as a shift or a narrower type would take for fine ones. */
    private static List<Integer> outside(int least, int greatest) {
        TreeSet<Integer> wrong = new TreeSet<>();
        for (int v : new int[] {least - 1, MIN, MIN | Math.max(least, 0), least - 256, least - 32}) {
            if (v < least) {
                wrong.add(v);
            }
        }
        if (greatest < MAX) {
            for (int v : new int[] {greatest + 1, MAX, least + 32, greatest + 32, least + 256, least + 65536}) {
                if (v > greatest) {
                    wrong.add(v);
                }
            }
        }
        return new ArrayList<>(wrong);
    }

    /** All that can be told of an object, IMAGES and THE TEXT too; it is not the same afterwards. */
    static List<Long> traces(OneNote x) {
        List<Long> told = new ArrayList<>();
        told.add(x.digest());
        for (int r = 0; r < 6; r++) {
            told.add((long) x.said(r));
            told.add((long) x.news(0, r, -1));
        }
        int all = (1 << x.count(0)) - 1;
        told.add((long) x.fetch(0));
        told.add((long) x.fetch(1));
        told.add((long) x.fetch(2));
        told.add((long) x.inTime(1));
        told.add((long) x.drop(2));
        told.add((long) x.ways());
        told.add((long) x.song(all, 6, -1));
        told.add((long) x.couple(all));
        told.add(x.part(0));
        told.add(x.part(1));
        for (int i = 0; i < 2; i++) {
            told.add((long) x.from(i));
            told.add(x.digest());
        }
        told.add((long) x.read());
        told.add(x.digest());
        told.add((long) x.clear());
        told.add(x.digest());
        return told;
    }

    // ---- what the tests of edges share

    /** THE TEXT becomes this one. */
    static void write(OneNote x, String text) {
        x.clear();
        append(x, text);
    }

    static void append(OneNote x, String text) {
        byte[] bytes = text.getBytes(StandardCharsets.ISO_8859_1);
        for (int at = 0; at < bytes.length; at += 8) {
            int n = Math.min(8, bytes.length - at);
            long v = 0;
            for (int i = 0; i < n; i++) {
                v = v << 8 | bytes[at + i] & 255;
            }
            x.type(v, n);
        }
    }

    static String filledUp(String text, int length) {
        return text + " ".repeat(length - text.length());
    }

    /** So many people in ROOM 0, told by KIND and NOTE in turn. */
    static OneNote people(int... kindsAndNotes) {
        OneNote x = new OneNote();
        for (int i = 0; i + 1 < kindsAndNotes.length; i += 2) {
            x.one(kindsAndNotes[i], kindsAndNotes[i + 1], 0);
        }
        return x;
    }

    static int bits(int... places) {
        int set = 0;
        for (int p : places) {
            set |= 1 << p;
        }
        return set;
    }

    static int apart(int a, int b) {
        int d = Math.abs(a - b);
        return Math.min(d, 12 - d);
    }

    /** The digest by the document's words. */
    static long digestOf(long... values) {
        long h = 677;
        for (long v : values) {
            h = 31 * h + v;
        }
        return h;
    }

    static void fraction(Check check, OneNote x, String call, long above, long below) {
        check.due(call + ", part(0)", x.part(0), above);
        check.due(call + ", part(1)", x.part(1), below);
    }
}
