import java.nio.charset.StandardCharsets;

/** Each promise of the document by hand. */
public final class PromiseTest {
    private static final int MAX = Integer.MAX_VALUE, MIN = Integer.MIN_VALUE;
    private static final int SINGER = 0, LIAR = 1, WED = 2, CHILD = 3, TWIN = 4, MILLER = 5;
    private static final Check check = new Check();

    public static void main(String[] args) {
        constants();
        aNewObject();
        door();
        hears();
        one();
        mates();
        goes();
        chord();
        slack();
        sounds();
        type();
        clear();
        read();
        readFaults();
        readRefusals();
        says();
        said();
        byDoor();
        fewest();
        speak();
        hush();
        fetch();
        inTime();
        taken();
        drop();
        news();
        newsRows();
        hole();
        whole();
        meant();
        ways();
        odds();
        block();
        swing();
        song();
        couple();
        part();
        image();
        from();
        status();
        count();
        digest();
        check.end();
    }

    private static void constants() {
        check.about("constants");
        check.due("NONE", OneNote.NONE, -1);
        check.due("BAD", OneNote.BAD, -2);
        check.due("NO", OneNote.NO, -3);
        check.due("FULL", OneNote.FULL, -4);
    }

    // ---- 1 to 12: a valley

    private static void aNewObject() {
        check.about("promise 1");
        OneNote x = new OneNote();
        for (int what = 0; what < 5; what++) {
            check.due("count(" + what + ")", x.count(what), 0);
        }
        for (int what = 0; what < 3; what++) {
            check.due("status(" + what + ")", x.status(what), 0);
        }
        check.due("part(0)", x.part(0), 0);
        check.due("part(1)", x.part(1), 1);
        check.due("digest()", x.digest(), digestOf(zerosAndThen(36, 0, 1)));
        check.due("slack(0)", x.slack(0), 0);
        check.due("ways()", x.ways(), 1);
        check.due("fetch(0)", x.fetch(0), 0);
        check.due("fetch(1)", x.fetch(1), 0);
        check.due("fetch(2)", x.fetch(2), 0);
        check.due("song(0, 0, -1)", x.song(0, 0, -1), 1);
        check.due("news(0, 5, -1)", x.news(0, 5, -1), -1);
        check.due("said(5)", x.said(5), 0);
        check.due("drop(3)", x.drop(3), 0);
        check.due("from(0)", x.from(0), -3);
        check.due("from(1)", x.from(1), -3);
        OneNote other = new OneNote();
        other.one(SINGER, 0, 0);
        check.due("count(0) of another object", x.count(0), 0);
    }

    private static void door() {
        check.about("promise 2");
        OneNote x = new OneNote();
        check.due("door(0, 5)", x.door(0, 5), 1);
        check.no(x, "door(0, 5)", () -> x.door(0, 5));
        check.no(x, "door(5, 0)", () -> x.door(5, 0));
        check.due("door(4, 1)", x.door(4, 1), 1);
        check.bad(x, "door(3, 3)", () -> x.door(3, 3));
        for (int off : new int[] {-1, 6, MAX, MIN}) {
            check.bad(x, "door(" + off + ", 2)", () -> x.door(off, 2));
            check.bad(x, "door(2, " + off + ")", () -> x.door(2, off));
            check.bad(x, "door(" + off + ", " + off + ")", () -> x.door(off, off));
        }
        check.asks(x, "byDoor(5, 0)", () -> x.byDoor(5, 0), 0);
        check.no(x, "byDoor(5, 1)", () -> x.byDoor(5, 1));
        check.asks(x, "news(0, 5, -1): a DOOR is not HEARS", () -> x.news(0, 5, -1), -1);
    }

    private static void hears() {
        check.about("promise 3");
        OneNote x = new OneNote();
        check.due("hears(0, 5)", x.hears(0, 5), 1);
        check.no(x, "hears(0, 5)", () -> x.hears(0, 5));
        check.no(x, "hears(5, 0)", () -> x.hears(5, 0));
        check.bad(x, "hears(3, 3)", () -> x.hears(3, 3));
        for (int off : new int[] {-1, 6, MAX, MIN}) {
            check.bad(x, "hears(" + off + ", 2)", () -> x.hears(off, 2));
            check.bad(x, "hears(2, " + off + ")", () -> x.hears(2, off));
        }
        check.asks(x, "news(5, 0, -1)", () -> x.news(5, 0, -1), 0);
        check.asks(x, "news(0, 5, -1)", () -> x.news(0, 5, -1), 0);
        check.no(x, "byDoor(0, 5): HEARS is no DOOR", () -> x.byDoor(0, 5));
        check.due("door(0, 5)", x.door(0, 5), 1);
    }

    private static void one() {
        check.about("promise 4");
        OneNote x = new OneNote();
        for (int kind : new int[] {-1, 6, MAX, MIN}) {
            check.bad(x, "one(" + kind + ", 0, 0)", () -> x.one(kind, 0, 0));
        }
        for (int note : new int[] {-1, 12, MAX, MIN}) {
            check.bad(x, "one(0, " + note + ", 0)", () -> x.one(0, note, 0));
        }
        for (int room : new int[] {-1, 6, MAX, MIN}) {
            check.bad(x, "one(0, 0, " + room + ")", () -> x.one(0, 0, room));
        }
        for (int p = 0; p < 7; p++) {
            check.due("one, " + p, x.one(p % 6, 11 - p, p % 6), p);
            check.due("count(0)", x.count(0), p + 1);
        }
        check.full(x, "one(0, 0, 0)", () -> x.one(0, 0, 0));
        check.bad(x, "one(6, 0, 0), full", () -> x.one(6, 0, 0));
        check.due("sounds(6, 64)", x.sounds(6, 64), 1 << 5);
        check.due("goes(5, 0)", x.goes(5, 0), 5);
    }

    private static void mates() {
        check.about("promise 5");
        OneNote x = new OneNote();
        people(x, WED, 0, SINGER, 1, WED, 2, WED, 3);
        check.due("mates(0, 1): of any KIND", x.mates(0, 1), 1);
        check.no(x, "mates(0, 2)", () -> x.mates(0, 2));
        check.no(x, "mates(2, 1)", () -> x.mates(2, 1));
        check.no(x, "mates(1, 0)", () -> x.mates(1, 0));
        check.bad(x, "mates(2, 2)", () -> x.mates(2, 2));
        check.bad(x, "mates(0, 0)", () -> x.mates(0, 0));
        check.bad(x, "mates(0, 4)", () -> x.mates(0, 4));
        check.bad(x, "mates(4, 2)", () -> x.mates(4, 2));
        check.bad(x, "mates(-1, 2)", () -> x.mates(-1, 2));
        check.bad(x, "mates(2, MAX)", () -> x.mates(2, MAX));
        check.bad(x, "mates(MIN, 2)", () -> x.mates(MIN, 2));
        check.due("sounds(0, 3): with MATE", x.sounds(0, 3), 1 | 1 << 7);
        check.due("mates(3, 2)", x.mates(3, 2), 1);
        check.due("sounds(2, 12)", x.sounds(2, 12), 1 << 2 | 1 << 9);
        check.due("sounds(3, 12)", x.sounds(3, 12), 1 << 3 | 1 << 10);
    }

    private static void goes() {
        check.about("promise 6");
        OneNote x = new OneNote();
        check.bad(x, "goes(0, 0), nobody", () -> x.goes(0, 0));
        x.one(TWIN, 0, 2);
        x.one(SINGER, 5, 3);
        x.chord(0, 1, 5, 1);
        check.due("goes(0, 5)", x.goes(0, 5), 2);
        check.due("goes(0, 5)", x.goes(0, 5), 5);
        check.due("said(5)", x.said(5), 0);
        check.due("goes(1, 5)", x.goes(1, 5), 3);
        check.due("said(5)", x.said(5), 1);
        check.bad(x, "goes(2, 0)", () -> x.goes(2, 0));
        check.bad(x, "goes(-1, 0)", () -> x.goes(-1, 0));
        check.bad(x, "goes(0, 6)", () -> x.goes(0, 6));
        check.bad(x, "goes(0, -1)", () -> x.goes(0, -1));
        check.bad(x, "goes(MAX, MIN)", () -> x.goes(MAX, MIN));
        check.due("goes(0, 0)", x.goes(0, 0), 5);
    }

    private static void chord() {
        check.about("promise 7");
        OneNote x = new OneNote();
        check.due("chord(0, 1, 11, 1)", x.chord(0, 1, 11, 1), 0);
        check.bad(x, "alike", () -> x.chord(0, 1, 11, 2));
        check.bad(x, "a = b", () -> x.chord(1, 1, 11, 1));
        check.bad(x, "b = c", () -> x.chord(0, 11, 11, 1));
        check.bad(x, "a above b", () -> x.chord(2, 1, 11, 1));
        check.bad(x, "b above c", () -> x.chord(0, 3, 2, 1));
        check.bad(x, "a below 0", () -> x.chord(-1, 3, 5, 1));
        check.bad(x, "c 12", () -> x.chord(0, 3, 12, 1));
        check.bad(x, "c MAX", () -> x.chord(0, 3, MAX, 1));
        check.bad(x, "a MIN", () -> x.chord(MIN, 3, 4, 1));
        check.bad(x, "USED 0", () -> x.chord(0, 3, 5, 0));
        check.bad(x, "USED 10", () -> x.chord(0, 3, 5, 10));
        check.bad(x, "USED MIN", () -> x.chord(0, 3, 5, MIN));
        for (int c = 1; c < 8; c++) {
            check.due("chord " + c, x.chord(0, c + 1, 11, 9), c);
            check.due("count(1)", x.count(1), c + 1);
        }
        check.full(x, "chord(3, 4, 5, 1)", () -> x.chord(3, 4, 5, 1));
        check.bad(x, "alike, full", () -> x.chord(0, 1, 11, 1));
        check.bad(x, "USED 0, full", () -> x.chord(3, 4, 5, 0));
    }

    private static void slack() {
        check.about("promise 8");
        OneNote x = new OneNote();
        people(x, SINGER, 0, SINGER, 4, SINGER, 8);
        x.chord(1, 5, 7, 1);
        x.chord(2, 6, 10, 1);
        check.due("says(7, 0)", x.says(7, 0), 0);
        check.due("slack(1)", x.slack(1), 0);
        check.due("says(7, 0)", x.says(7, 0), 1);
        check.due("says(7, 1)", x.says(7, 1), 0);
        check.due("slack(2)", x.slack(2), 1);
        check.due("says(7, 1)", x.says(7, 1), 1);
        for (int off : new int[] {-1, 3, MAX, MIN}) {
            check.bad(x, "slack(" + off + ")", () -> x.slack(off));
        }
        check.due("slack(0)", x.slack(0), 2);
        check.due("says(7, 0)", x.says(7, 0), 0);
    }

    private static void sounds() {
        check.about("promise 9");
        OneNote x = new OneNote();
        people(x, SINGER, 11, LIAR, 11, WED, 6, CHILD, 11, TWIN, 10, MILLER, 8, SINGER, 3);
        x.mates(2, 6);
        check.asks(x, "SINGER", () -> x.sounds(0, 127), 1 << 11);
        check.asks(x, "LIAR alone", () -> x.sounds(1, 2), 1 << 11);
        check.asks(x, "LIAR with others", () -> x.sounds(1, 3), 1);
        check.asks(x, "WED without MATE", () -> x.sounds(2, 63), 1 << 6);
        check.asks(x, "WED with MATE", () -> x.sounds(2, 68), 1 << 6 | 1 << 1);
        check.asks(x, "the SINGER who is a MATE", () -> x.sounds(6, 68), 1 << 3);
        check.asks(x, "CHILD", () -> x.sounds(3, 8), 1 << 11 | 1);
        check.asks(x, "TWIN", () -> x.sounds(4, 16), 1 << 10 | 1 << 11);
        check.asks(x, "MILLER", () -> x.sounds(5, 32), 1 << 8 | 1 << 9 | 1 << 2);
        x.slack(2);
        check.asks(x, "SLACK is no sound", () -> x.sounds(0, 1), 1 << 11);
        check.bad(x, "not in it", () -> x.sounds(0, 2));
        check.bad(x, "nobody in it", () -> x.sounds(0, 0));
        check.bad(x, "bits of nobody", () -> x.sounds(0, 129));
        check.bad(x, "bits below 0", () -> x.sounds(0, -1));
        check.bad(x, "person 7", () -> x.sounds(7, 127));
        check.bad(x, "person -1", () -> x.sounds(-1, 127));
        check.bad(x, "person 32", () -> x.sounds(32, 127));
        check.bad(x, "person MAX", () -> x.sounds(MAX, 127));
        OneNote few = new OneNote();
        people(few, SINGER, 0, SINGER, 1);
        check.bad(few, "bits of the third of two", () -> few.sounds(0, 5));
        check.bad(few, "the third of two", () -> few.sounds(2, 7));
    }

    private static void type() {
        check.about("promise 10");
        OneNote x = new OneNote();
        for (int n : new int[] {0, 9, -1, MAX, MIN}) {
            check.bad(x, "type(59, " + n + ")", () -> x.type(59, n));
        }
        check.due("type, 3 bytes", x.type(0x6f6e65L, 3), 3);
        check.due("type, the lowest one", x.type(0x41424320L, 1), 4);
        check.due("type, 8 bytes", x.type(0x352031312030203bL, 8), 12);
        check.due("read()", x.read(), 1);
        check.due("sounds(0, 1): MILLER 11", x.sounds(0, 1), 1 << 11 | 1 | 1 << 5);
        x.clear();
        for (int i = 1; i <= 24; i++) {
            check.due("type, " + i, x.type(-1, 8), 8 * i);
        }
        check.due("type, 199", x.type(-1, 7), 199);
        check.full(x, "type, 201", () -> x.type(-1, 2));
        check.bad(x, "type, full and 9", () -> x.type(-1, 9));
        check.due("type, 200", x.type(-1, 1), 200);
        check.full(x, "type, 201", () -> x.type(0, 1));
        check.due("count(4)", x.count(4), 200);
        check.due("read(): a byte that begins none", x.read(), -10);
    }

    private static void clear() {
        check.about("promise 11");
        OneNote x = new OneNote();
        check.due("clear()", x.clear(), 0);
        write(x, "slack 2;");
        check.due("clear()", x.clear(), 8);
        check.due("count(4)", x.count(4), 0);
        check.due("clear()", x.clear(), 0);
        write(x, "slack 1;");
        check.due("read()", x.read(), 1);
        check.due("slack(0)", x.slack(0), 1);
        check.due("clear(): THE TEXT stays when it is read", x.clear(), 8);
    }

    private static void read() {
        check.about("promise 12");
        OneNote x = new OneNote();
        people(x, SINGER, 0, SINGER, 0);
        x.mates(0, 1);
        x.chord(0, 1, 2, 1);
        x.door(4, 5);
        x.hears(4, 5);
        x.slack(2);
        x.speak(0);
        x.hole(1);
        x.odds(0, 0);
        x.image(1);
        String text = " door 0 1;hears 1 2 ; one 05 11 0;one 1 00 2;mates 1 0;chord 0 5 11 9;slack 1;slack 2;";
        write(x, text);
        check.due("read()", x.read(), 8);
        int[] told = new int[30];
        told[0] = 1;
        told[5] = 1;
        check.due("digest()", x.digest(), digestOf(join(new int[] {2, 1, 0, 0, text.length()}, told,
            new int[] {5, 11, 0, 1, 1, 0, 2, 0, 1 | 1 << 5 | 1 << 11, 9, 2, 1, 1})));
        check.due("from(1): IMAGES stay", x.from(1), 1);
        check.due("count(2)", x.count(2), 1);
        check.due("count(3)", x.count(3), 1);
        x.clear();
        check.due("read(), empty", x.read(), 0);
        check.due("digest(): empty, but THE FRACTION", x.digest(), digestOf(zerosAndThen(36, 1, 1)));
        write(x, "   ");
        check.due("read(), blanks", x.read(), 0);
        OneNote y = new OneNote();
        write(y, "one 0 0 0;one 0 1 0;one 0 2 0;one 0 3 0;one 0 4 0;one 0 5 0;one 0 6 0;");
        check.due("read()", y.read(), 7);
        check.due("read(): twice is once", y.read(), 7);
        check.due("count(0)", y.count(0), 7);
        y.chord(0, 1, 2, 1);
        y.speak(0);
        y.hole(0);
        y.couple(127);
        check.due("read()", y.read(), 7);
        check.due("count(2)", y.count(2), 0);
        check.due("count(3)", y.count(3), 0);
    }

    private static void readFaults() {
        check.about("promise 12, FAULT");
        fault("door", 4);
        fault("door 0", 6);
        fault("door 0 1", 8);
        fault("door 0 1 ", 9);
        fault("door 0 1;d", 9);
        fault("door 0 1;door 1", 15);
        fault("doors 0 1;", 0);
        fault("doorz 0 1;", 0);
        fault("xoor 0 1;", 0);
        fault("doo 0 1;", 0);
        fault("Door 0 1;", 0);
        fault("dOor 0 1;", 0);
        fault(" sing 0 1;", 1);
        fault(";", 0);
        fault("door 0 1;;", 9);
        fault("door 0;", 6);
        fault("door 0 1 2;", 9);
        fault("door door;", 5);
        fault("door 0 one;", 7);
        fault("one 0 100 0;", 6);
        fault("one 0 1 000;", 8);
        fault("one 0 1 0 00000000000000000;", 10);
        fault("slack 1,", 7);
        fault("slack -1;", 6);
        fault("slack\t1;", 5);
        fault("5 slack", 0);
        fault("slack 1;slack 1x;", 15);
        fault("hears 0 1;one 0 0;", 17);
        fault("chord 0 1 2;", 11);
        fault("mates 1;", 7);
        fault("slack ;", 6);
        fault("door 9 9;door 0 1", 17);
        fault("slack 1" + (char) 187, 7);
        fault((char) 255 + "", 0);
        fault((char) 0 + "", 0);
        fault("onetwo 0 0 0;", 0);
        fault("slack 1;" + " ".repeat(191) + "x", 199);
        fault("slack 1;" + " ".repeat(187) + "slack", 200);
        OneNote x = new OneNote();
        write(x, "one0 1 2;slack1;");
        check.due("read(): blanks may be none", x.read(), 2);
        write(x, "slack 100;");
        check.due("read()", x.read(), -16);
        write(x, "slack 1");
        check.due("read(): nothing is left of a longer text", x.read(), -17);
    }

    private static void readRefusals() {
        check.about("promise 12, ITEMS refused");
        refused("door 0 0;", 0);
        refused("door 0 1;door 1 0;", 1);
        refused("door 0 6;", 0);
        refused("hears 2 2;", 0);
        refused("hears 0 1;hears 0 1;", 1);
        refused("one 6 0 0;", 0);
        refused("one 0 12 0;", 0);
        refused("one 0 0 6;", 0);
        refused("one 0 0 0;mates 0 1;", 1);
        refused("one 0 0 0;mates 0 0;one 0 0 0;", 1);
        refused("one 0 0 0;one 0 0 0;mates 0 1;mates 0 1;", 3);
        refused("one 0 0 0;one 0 0 0;one 0 0 0;one 0 0 0;one 0 0 0;one 0 0 0;one 0 0 0;one 0 0 0;door 0 0;", 7);
        refused("chord 0 1 2 0;", 0);
        refused("chord 0 1 2 10;", 0);
        refused("chord 0 1 12 1;", 0);
        refused("chord 0 2 1 1;", 0);
        refused("slack 1;chord 0 1 2 1;chord 0 1 2 2;", 2);
        refused("chord 0 1 2 1;chord 0 1 3 1;chord 0 1 4 1;chord 0 1 5 1;chord 0 1 6 1;chord 0 1 7 1;"
            + "chord 0 1 8 1;chord 0 1 9 1;chord 0 1 10 1;", 8);
        refused("slack 3;", 0);
        refused("door 0 1;slack 99;slack 98;", 1);
    }

    private static void fault(String text, int place) {
        refusesText(text, -10 - place);
    }

    private static void refused(String text, int item) {
        refusesText(text, -1000 - item);
    }

    private static void refusesText(String text, int answer) {
        OneNote x = new OneNote();
        people(x, SINGER, 0, SINGER, 0);
        x.mates(0, 1);
        x.chord(0, 1, 2, 1);
        x.door(0, 1);
        x.slack(2);
        x.speak(0);
        x.hole(0);
        write(x, text);
        check.asks(x, "read() of " + text, x::read, answer);
    }

    // ---- 13 to 20: what is said

    private static void says() {
        check.about("promise 13");
        OneNote x = new OneNote();
        people(x, SINGER, 0, LIAR, 3, WED, 9, TWIN, 6, WED, 2);
        x.chord(0, 4, 9, 1);
        x.chord(6, 7, 9, 1);
        x.chord(5, 7, 8, 1);
        x.mates(2, 4);
        check.asks(x, "three fill a note each", () -> x.says(7, 0), 1);
        check.asks(x, "two of them", () -> x.says(5, 0), 0);
        check.asks(x, "MATES: one more way, but one note each", () -> x.says(20, 0), 0);
        check.asks(x, "MATES and the SINGER: 0; 9 or 4; 2 or 9", () -> x.says(21, 0), 1);
        check.asks(x, "a TWIN fills two", () -> x.says(12, 1), 1);
        check.asks(x, "but not three", () -> x.says(8, 1), 0);
        check.asks(x, "nobody", () -> x.says(0, 0), 0);
        x.slack(2);
        check.asks(x, "a TWIN is not three, with SLACK too", () -> x.says(8, 2), 0);
        check.asks(x, "TWIN 5, 7; WED 9 near 8", () -> x.says(12, 2), 1);
        check.bad(x, "says(32, 0)", () -> x.says(32, 0));
        check.bad(x, "says(-1, 0)", () -> x.says(-1, 0));
        check.bad(x, "says(MIN, 0)", () -> x.says(MIN, 0));
        check.bad(x, "says(7, 3)", () -> x.says(7, 3));
        check.bad(x, "says(7, -1)", () -> x.says(7, -1));
        check.bad(x, "says(7, MAX)", () -> x.says(7, MAX));
        OneNote y = new OneNote();
        people(y, CHILD, 0, CHILD, 0, SINGER, 5, MILLER, 11);
        y.chord(0, 1, 5, 1);
        y.chord(0, 5, 11, 1);
        check.asks(y, "CHILDREN 0 and 1", () -> y.says(7, 0), 1);
        check.asks(y, "one CHILD fills one", () -> y.says(5, 0), 0);
        check.asks(y, "MILLER 11, 5 and CHILD 0", () -> y.says(9, 1), 1);
        check.asks(y, "MILLER 5, 0 and nobody 11", () -> y.says(12, 1), 1);
        check.asks(y, "MILLER alone", () -> y.says(8, 1), 0);
    }

    private static void said() {
        check.about("promise 14");
        OneNote x = new OneNote();
        x.one(TWIN, 6, 1);
        x.one(SINGER, 9, 1);
        x.one(SINGER, 0, 2);
        x.chord(0, 6, 9, 1);
        x.chord(6, 7, 9, 1);
        x.chord(0, 1, 2, 1);
        check.asks(x, "said(1)", () -> x.said(1), 2);
        check.asks(x, "said(2)", () -> x.said(2), 0);
        check.asks(x, "said(5)", () -> x.said(5), 0);
        x.goes(2, 1);
        check.asks(x, "said(1)", () -> x.said(1), 3);
        for (int off : new int[] {-1, 6, 33, MAX, MIN}) {
            check.bad(x, "said(" + off + ")", () -> x.said(off));
        }
        x.image(0);
        people(x, SINGER, 1, SINGER, 2, SINGER, 3, SINGER, 4);
        x.chord(6, 8, 9, 1);
        x.slack(2);
        check.asks(x, "seven", () -> x.said(0), 4);
        check.asks(x, "with SLACK", () -> x.said(1), 11);
        x.from(0);
        x.slack(2);
        check.asks(x, "nobody and no CHORD of later ones", () -> x.said(0), 0);
        check.asks(x, "no CHORD of later ones", () -> x.said(1), 3);
    }

    private static void byDoor() {
        check.about("promise 15");
        OneNote x = new OneNote();
        x.one(TWIN, 6, 1);
        x.one(SINGER, 9, 3);
        x.one(SINGER, 9, 4);
        x.chord(6, 7, 9, 1);
        x.chord(6, 8, 9, 1);
        x.door(3, 1);
        x.door(3, 4);
        check.asks(x, "byDoor(1, 3)", () -> x.byDoor(1, 3), 1);
        check.asks(x, "byDoor(3, 1)", () -> x.byDoor(3, 1), 1);
        check.asks(x, "byDoor(3, 4)", () -> x.byDoor(3, 4), 0);
        check.no(x, "byDoor(1, 4)", () -> x.byDoor(1, 4));
        check.no(x, "byDoor(1, 1)", () -> x.byDoor(1, 1));
        for (int off : new int[] {-1, 6, MAX, MIN}) {
            check.bad(x, "byDoor(" + off + ", 1)", () -> x.byDoor(off, 1));
            check.bad(x, "byDoor(1, " + off + ")", () -> x.byDoor(1, off));
        }
    }

    private static void fewest() {
        check.about("promise 16");
        OneNote x = new OneNote();
        people(x, SINGER, 0, SINGER, 4, SINGER, 7, TWIN, 0, SINGER, 7, LIAR, 6);
        x.chord(0, 4, 7, 1);
        x.chord(0, 1, 7, 1);
        x.chord(0, 1, 6, 1);
        x.chord(2, 4, 7, 1);
        check.asks(x, "the least bits of like ones", () -> x.fewest(63, 0), 7);
        check.asks(x, "within the SET", () -> x.fewest(59, 0), 1 | 2 | 16);
        check.asks(x, "the fewest, not the least bits", () -> x.fewest(63, 1), 4 | 8);
        check.asks(x, "a LIAR among others", () -> x.fewest(40, 1), 40);
        check.asks(x, "a LIAR is at 7 then, not at 6", () -> x.fewest(63, 2), -1);
        check.asks(x, "none does", () -> x.fewest(63, 3), -1);
        check.asks(x, "fewest(0, 0)", () -> x.fewest(0, 0), -1);
        check.bad(x, "fewest(64, 0)", () -> x.fewest(64, 0));
        check.bad(x, "fewest(-1, 0)", () -> x.fewest(-1, 0));
        check.bad(x, "fewest(63, 4)", () -> x.fewest(63, 4));
        check.bad(x, "fewest(63, -1)", () -> x.fewest(63, -1));
        check.bad(x, "fewest(MAX, MIN)", () -> x.fewest(MAX, MIN));
    }

    private static void speak() {
        check.about("promise 17");
        OneNote x = new OneNote();
        check.bad(x, "speak(0), no CHORDS", () -> x.speak(0));
        x.chord(0, 1, 2, 1);
        x.chord(0, 1, 3, 1);
        for (int i = 1; i <= 6; i++) {
            check.due("speak, " + i, x.speak(i % 2), i);
        }
        check.full(x, "speak(1), full", () -> x.speak(1));
        check.bad(x, "speak(2), full", () -> x.speak(2));
        check.bad(x, "speak(-1)", () -> x.speak(-1));
        check.bad(x, "speak(MAX)", () -> x.speak(MAX));
        check.due("count(2)", x.count(2), 6);
    }

    private static void hush() {
        check.about("promise 18");
        OneNote x = new OneNote();
        x.chord(0, 1, 2, 1);
        check.due("hush()", x.hush(), 0);
        x.speak(0);
        x.speak(0);
        check.asks(x, "fetch(0)", () -> x.fetch(0), -1);
        check.due("hush()", x.hush(), 2);
        check.due("count(2)", x.count(2), 0);
        check.asks(x, "fetch(0)", () -> x.fetch(0), 0);
        check.due("speak(0)", x.speak(0), 1);
    }

    private static void fetch() {
        check.about("promise 19");
        OneNote x = new OneNote();
        x.one(SINGER, 0, 0);
        x.one(TWIN, 4, 2);
        x.chord(0, 4, 5, 1);
        x.speak(0);
        fetches(x, "no way", -1, -1, -1);
        x.door(0, 1);
        x.door(1, 2);
        fetches(x, "in the least ROOM", 2, 0, 3);
        x.one(SINGER, 0, 3);
        x.door(2, 3);
        fetches(x, "by fewer STEPS", 1, 2, 6);
        x.one(TWIN, 4, 0);
        fetches(x, "those who are there", 0, 0, 9);
        x.chord(3, 6, 7, 1);
        x.speak(1);
        fetches(x, "none SAYS all of THE SPEECH", -1, -1, -1);
        x.one(TWIN, 6, 5);
        x.one(SINGER, 3, 5);
        x.door(4, 5);
        fetches(x, "some cannot go there", -1, -1, -1);
        x.door(3, 4);
        fetches(x, "0 from 3, 4 from 2, and two from 5: in 3, 2 STEPS each way",
            5, 3, 1 << 1 | 1 << 2 | 1 << 4 | 1 << 5);
        for (int off : new int[] {-1, 3, MAX, MIN}) {
            check.bad(x, "fetch(" + off + ")", () -> x.fetch(off));
        }
        OneNote y = new OneNote();
        people(y, SINGER, 0, SINGER, 1, SINGER, 2, TWIN, 1, LIAR, 11);
        y.chord(0, 1, 2, 1);
        y.speak(0);
        fetches(y, "of like ones the fewest PEOPLE", 0, 0, 9);
        y.goes(3, 5);
        fetches(y, "then the least bits", 0, 0, 7);
        y.goes(0, 5);
        fetches(y, "a LIAR is one more here", 0, 0, 22);
        y.hush();
        fetches(y, "an empty SPEECH needs nobody", 0, 0, 0);
    }

    private static void fetches(OneNote x, String why, int steps, int room, int set) {
        check.asks(x, "fetch(0), " + why, () -> x.fetch(0), steps);
        check.asks(x, "fetch(1), " + why, () -> x.fetch(1), room);
        check.asks(x, "fetch(2), " + why, () -> x.fetch(2), set);
    }

    private static void inTime() {
        check.about("promise 20");
        OneNote x = new OneNote();
        for (int r = 0; r < 5; r++) {
            x.door(r, r + 1);
        }
        x.one(SINGER, 0, 0);
        x.one(TWIN, 4, 5);
        x.chord(0, 4, 5, 1);
        check.asks(x, "inTime(0), no SPEECH", () -> x.inTime(0), 0);
        x.speak(0);
        for (int t = 0; t < 10; t++) {
            int most = t;
            check.asks(x, "inTime(" + t + ")", () -> x.inTime(most), t < 3 ? -1 : 5);
        }
        x.one(SINGER, 0, 1);
        check.asks(x, "inTime(1)", () -> x.inTime(1), -1);
        check.asks(x, "inTime(2)", () -> x.inTime(2), 4);
        check.asks(x, "fetch(1): 4 STEPS by one", () -> x.fetch(1), 1);
        x.one(SINGER, 4, 1);
        x.one(SINGER, 5, 3);
        check.asks(x, "inTime(0)", () -> x.inTime(0), -1);
        check.asks(x, "inTime(1): 0 and 4 to ROOM 2, 5 too", () -> x.inTime(1), 3);
        check.asks(x, "inTime(2): 5 to ROOM 1", () -> x.inTime(2), 2);
        for (int off : new int[] {-1, 10, MAX, MIN}) {
            check.bad(x, "inTime(" + off + ")", () -> x.inTime(off));
        }
    }

    // ---- 21 to 28: fog, news, holes

    private static void taken() {
        check.about("promise 21");
        OneNote x = new OneNote();
        x.chord(0, 4, 8, 1);
        x.chord(1, 5, 9, 1);
        x.chord(0, 4, 11, 1);
        x.chord(0, 1, 2, 1);
        check.asks(x, "taken(0, 1, 0)", () -> x.taken(0, 1, 0), 0);
        check.asks(x, "taken(0, 1, 1)", () -> x.taken(0, 1, 1), 1);
        check.asks(x, "taken(1, 0, 1)", () -> x.taken(1, 0, 1), 1);
        check.asks(x, "taken(0, 2, 2)", () -> x.taken(0, 2, 2), 0);
        check.asks(x, "taken(0, 2, 3)", () -> x.taken(0, 2, 3), 1);
        check.asks(x, "over the ring: 11 and 1, 0 and 0, 4 and 2", () -> x.taken(2, 3, 2), 1);
        check.asks(x, "taken(2, 3, 1)", () -> x.taken(2, 3, 1), 0);
        check.asks(x, "not two to one: 0 4 8 and 0 1 2", () -> x.taken(0, 3, 3), 0);
        check.bad(x, "alike", () -> x.taken(1, 1, 1));
        check.bad(x, "taken(0, 4, 1)", () -> x.taken(0, 4, 1));
        check.bad(x, "taken(4, 0, 1)", () -> x.taken(4, 0, 1));
        check.bad(x, "taken(-1, 0, 1)", () -> x.taken(-1, 0, 1));
        check.bad(x, "taken(0, MIN, 1)", () -> x.taken(0, MIN, 1));
        check.bad(x, "taken(0, 1, 4)", () -> x.taken(0, 1, 4));
        check.bad(x, "taken(0, 1, -1)", () -> x.taken(0, 1, -1));
        x.slack(2);
        check.asks(x, "SLACK is no fog", () -> x.taken(0, 1, 0), 0);
    }

    private static void drop() {
        check.about("promise 22");
        OneNote x = new OneNote();
        check.asks(x, "no CHORDS", () -> x.drop(0), 0);
        x.chord(0, 4, 8, 1);
        check.asks(x, "one CHORD", () -> x.drop(3), 0);
        x.chord(0, 4, 9, 1);
        x.chord(0, 4, 10, 1);
        check.asks(x, "drop(0)", () -> x.drop(0), 0);
        check.asks(x, "the one in the middle", () -> x.drop(1), 2);
        check.asks(x, "two of three, the least bits", () -> x.drop(2), 3);
        x.chord(1, 2, 6, 1);
        x.chord(1, 2, 7, 1);
        check.asks(x, "drop(1)", () -> x.drop(1), 2 | 8);
        for (int off : new int[] {-1, 4, MAX, MIN}) {
            check.bad(x, "drop(" + off + ")", () -> x.drop(off));
        }
        OneNote y = new OneNote();
        for (int c = 2; c < 10; c++) {
            y.chord(0, 1, c, 1);
        }
        check.asks(y, "every other of eight in a row", () -> y.drop(1), 0x55);
        y.read();
        y.chord(0, 1, 2, 1);
        y.chord(0, 1, 3, 1);
        check.asks(y, "two", () -> y.drop(1), 1);
    }

    private static void news() {
        check.about("promise 23");
        OneNote x = new OneNote();
        x.hears(0, 1);
        x.hears(1, 2);
        x.hears(2, 3);
        x.hears(3, 0);
        check.asks(x, "to itself, SENT", () -> x.news(2, 2, -1), 0);
        check.asks(x, "to itself, ROW", () -> x.news(2, 2, 0), 2);
        check.asks(x, "to itself, no more", () -> x.news(2, 2, 1), -5);
        check.asks(x, "to the next: none between", () -> x.news(0, 1, -1), 0);
        check.asks(x, "over one", () -> x.news(0, 2, -1), 1);
        row(x, 0, 2, 0, 1, 2);
        row(x, 2, 0, 2, 1, 0);
        x.one(SINGER, 0, 3);
        check.asks(x, "over the one where somebody is", () -> x.news(0, 2, -1), 0);
        row(x, 0, 2, 0, 3, 2);
        check.asks(x, "no way", () -> x.news(0, 5, -1), -1);
        check.asks(x, "no way, ROW", () -> x.news(0, 5, 0), -1);
        check.asks(x, "no way, MAX", () -> x.news(0, 5, MAX), -1);
        check.asks(x, "MAX", () -> x.news(0, 2, MAX), -5);
        int[][] off = {{-1, 0, 0}, {6, 0, 0}, {0, -1, 0}, {0, 6, 0}, {0, 1, -2}, {0, 1, MIN}, {MAX, MIN, 0}};
        for (int[] o : off) {
            check.leaves(x, "news(" + o[0] + ", " + o[1] + ", " + o[2] + ")",
                () -> x.news(o[0], o[1], o[2]), -10, 0);
        }
    }

    private static void newsRows() {
        check.about("promise 23, ROW");
        OneNote x = new OneNote();
        x.hears(0, 5);
        x.hears(5, 1);
        x.hears(0, 4);
        x.hears(4, 3);
        x.hears(3, 2);
        x.hears(2, 1);
        row(x, 0, 1, 0, 5, 1);
        x.one(SINGER, 0, 4);
        x.one(SINGER, 0, 3);
        check.asks(x, "one SENT either way", () -> x.news(0, 1, -1), 1);
        row(x, 0, 1, 0, 5, 1);
        x.one(SINGER, 0, 2);
        check.asks(x, "none SENT on the long way", () -> x.news(0, 1, -1), 0);
        row(x, 0, 1, 0, 4, 3, 2, 1);
        row(x, 1, 0, 1, 2, 3, 4, 0);
        x.hears(2, 4);
        row(x, 0, 1, 0, 4, 2, 1);
        x.one(SINGER, 0, 5);
        row(x, 0, 1, 0, 5, 1);
        x.hears(4, 1);
        row(x, 0, 1, 0, 4, 1);
        OneNote y = new OneNote();
        for (int r = 0; r < 6; r++) {
            if (r != 3) {
                y.hears(r, 3);
            }
        }
        check.asks(y, "over ROOM 3 where nobody is", () -> y.news(4, 5, -1), 1);
        for (int r = 0; r < 6; r++) {
            int between = r;
            OneNote z = new OneNote();
            z.hears((r + 1) % 6, r);
            z.hears(r, (r + 2) % 6);
            z.one(SINGER, 0, (r + 1) % 6);
            check.asks(z, "over ROOM " + r, () -> z.news((between + 1) % 6, (between + 2) % 6, -1), 1);
            z.goes(0, r);
            check.asks(z, "over ROOM " + r + ", somebody", () -> z.news((between + 1) % 6, (between + 2) % 6, -1), 0);
            z.goes(0, (r + 2) % 6);
            check.asks(z, "over ROOM " + r + ", left", () -> z.news((between + 1) % 6, (between + 2) % 6, -1), 1);
        }
    }

    private static void row(OneNote x, int from, int to, int... rooms) {
        for (int i = 0; i < rooms.length; i++) {
            int place = i;
            check.asks(x, "news(" + from + ", " + to + ", " + i + ")", () -> x.news(from, to, place), rooms[i]);
        }
        check.asks(x, "news(" + from + ", " + to + "), no more", () -> x.news(from, to, rooms.length), -5);
    }

    private static void hole() {
        check.about("promise 24");
        OneNote x = new OneNote();
        for (int off : new int[] {-1, 15, 4096, 4097, 1 << 20, MAX, MIN}) {
            check.bad(x, "hole(" + off + ")", () -> x.hole(off));
        }
        int[] notes = {0, 1 << 11, 3, 7, 7, 0xe00};
        for (int i = 0; i < 6; i++) {
            check.due("hole(" + notes[i] + ")", x.hole(notes[i]), i);
            check.due("count(3)", x.count(3), i + 1);
        }
        check.full(x, "hole(0), full", () -> x.hole(0));
        check.bad(x, "hole(15), full", () -> x.hole(15));
    }

    private static void whole() {
        check.about("promise 25");
        OneNote x = new OneNote();
        check.due("whole()", x.whole(), 0);
        x.hole(1);
        x.hole(2);
        check.asks(x, "ways()", x::ways, 0);
        check.due("whole()", x.whole(), 2);
        check.due("count(3)", x.count(3), 0);
        check.asks(x, "ways()", x::ways, 1);
        check.bad(x, "meant(0)", () -> x.meant(0));
        check.due("hole(4)", x.hole(4), 0);
    }

    private static void meant() {
        check.about("promise 26");
        OneNote x = new OneNote();
        x.hole(0);
        check.asks(x, "no CHORDS", () -> x.meant(0), 0);
        x.chord(0, 4, 7, 1);
        x.chord(0, 4, 9, 1);
        x.chord(1, 4, 9, 1);
        x.hole(1 << 4);
        x.hole(1 | 1 << 9);
        x.hole(1 << 1 | 1 << 4 | 1 << 9);
        x.hole(1 << 11);
        int[] due = {7, 7, 2, 4, 0};
        for (int i = 0; i < 5; i++) {
            int at = i;
            check.asks(x, "meant(" + i + ")", () -> x.meant(at), due[i]);
        }
        for (int off : new int[] {-1, 5, 6, MAX, MIN}) {
            check.bad(x, "meant(" + off + ")", () -> x.meant(off));
        }
    }

    private static void ways() {
        check.about("promise 27");
        OneNote x = new OneNote();
        check.asks(x, "no HOLES", x::ways, 1);
        for (int c = 0; c < 8; c++) {
            x.chord(0, 1, c + 2, 9);
        }
        int due = 8;
        for (int h = 0; h < 6; h++) {
            x.hole(0);
            check.asks(x, "HOLES " + (h + 1), x::ways, due);
            due *= 7;
        }
        x.whole();
        x.hole(1 << 2);
        x.hole(1 << 2);
        check.asks(x, "none as the one ahead", x::ways, 0);
        x.whole();
        x.hole(1 << 2);
        x.hole(0);
        x.hole(1 << 2);
        check.asks(x, "but as the one before that", x::ways, 7);
        x.hole(1 << 11);
        check.asks(x, "of none", x::ways, 0);
    }

    private static void odds() {
        check.about("promise 28");
        OneNote x = new OneNote();
        x.chord(0, 1, 2, 3);
        x.chord(0, 1, 3, 2);
        x.chord(0, 1, 4, 5);
        x.hole(0);
        check.due("odds(0, 0)", x.odds(0, 0), 1);
        fraction(x, 3, 10);
        check.due("odds(0, 2)", x.odds(0, 2), 1);
        fraction(x, 1, 2);
        x.hole(1 << 2);
        check.due("odds(0, 1): 2 3 of 2 3, 5 3", x.odds(0, 1), 1);
        fraction(x, 2, 7);
        check.due("odds(0, 0): none, but there are ways", x.odds(0, 0), 1);
        fraction(x, 0, 1);
        check.due("odds(1, 0)", x.odds(1, 0), 1);
        fraction(x, 1, 1);
        check.bad(x, "odds(2, 0)", () -> x.odds(2, 0));
        check.bad(x, "odds(-1, 0)", () -> x.odds(-1, 0));
        check.bad(x, "odds(0, 3)", () -> x.odds(0, 3));
        check.bad(x, "odds(0, -1)", () -> x.odds(0, -1));
        check.bad(x, "odds(MAX, MIN)", () -> x.odds(MAX, MIN));
        x.hole(1 << 11);
        check.no(x, "there is no way", () -> x.odds(0, 0));
        check.bad(x, "BAD comes first", () -> x.odds(3, 0));
        OneNote y = new OneNote();
        for (int c = 0; c < 8; c++) {
            y.chord(0, 1, c + 2, 9);
        }
        for (int h = 0; h < 6; h++) {
            y.hole(0);
        }
        check.due("odds(5, 7)", y.odds(5, 7), 1);
        fraction(y, 1, 8);
    }

    // ---- 29 to 32: motions, songs

    private static void block() {
        check.about("promise 29");
        OneNote x = new OneNote();
        people(x, SINGER, 0, SINGER, 4, SINGER, 7, SINGER, 7, LIAR, 2);
        x.chord(0, 4, 7, 1);
        x.chord(3, 4, 7, 1);
        check.asks(x, "all three", () -> x.block(7, 0), 7);
        check.asks(x, "7 is there twice", () -> x.block(15, 0), 3);
        check.asks(x, "the LIAR is not needed", () -> x.block(31, 0), 3);
        check.asks(x, "the LIAR is needed", () -> x.block(30, 1), 18);
        check.no(x, "not SAID", () -> x.block(15, 1));
        check.no(x, "nobody", () -> x.block(0, 0));
        check.bad(x, "block(32, 0)", () -> x.block(32, 0));
        check.bad(x, "block(-1, 0)", () -> x.block(-1, 0));
        check.bad(x, "block(7, 2)", () -> x.block(7, 2));
        check.bad(x, "block(7, -1)", () -> x.block(7, -1));
        check.bad(x, "block(MAX, MIN)", () -> x.block(MAX, MIN));
    }

    private static void swing() {
        check.about("promise 30");
        OneNote x = new OneNote();
        people(x, SINGER, 0, SINGER, 4, SINGER, 7, SINGER, 7, TWIN, 6);
        x.chord(0, 4, 7, 1);
        x.chord(0, 6, 7, 1);
        check.due("swing(7, 0, 0)", x.swing(7, 0, 0), 1);
        fraction(x, 1, 4);
        check.due("swing(15, 0, 0): with 1 and one of 2, 3", x.swing(15, 0, 0), 1);
        fraction(x, 3, 8);
        check.due("swing(15, 2, 0): with 0, 1 and not 3", x.swing(15, 2, 0), 1);
        fraction(x, 1, 8);
        check.due("swing(17, 4, 1): a TWIN", x.swing(17, 4, 1), 1);
        fraction(x, 1, 2);
        check.due("swing(1, 0, 0): none", x.swing(1, 0, 0), 1);
        fraction(x, 0, 1);
        check.bad(x, "not of the SET", () -> x.swing(14, 0, 0));
        check.bad(x, "bits of nobody", () -> x.swing(33, 0, 0));
        check.bad(x, "swing(-1, 0, 0)", () -> x.swing(-1, 0, 0));
        check.bad(x, "swing(7, -1, 0)", () -> x.swing(7, -1, 0));
        check.bad(x, "swing(31, 5, 0)", () -> x.swing(31, 5, 0));
        check.bad(x, "swing(31, 32, 0)", () -> x.swing(31, 32, 0));
        check.bad(x, "swing(7, 0, 2)", () -> x.swing(7, 0, 2));
        check.bad(x, "swing(7, 0, -1)", () -> x.swing(7, 0, -1));
        check.bad(x, "swing(MAX, MIN, MAX)", () -> x.swing(MAX, MIN, MAX));
    }

    private static void song() {
        check.about("promise 31");
        OneNote x = new OneNote();
        people(x, SINGER, 6, LIAR, 11, SINGER, 4, MILLER, 1, SINGER, 9, SINGER, 6, WED, 0);
        check.asks(x, "nobody: one order", () -> x.song(0, 0, -1), 1);
        check.asks(x, "nobody: no first", () -> x.song(0, 0, 0), -5);
        check.asks(x, "one", () -> x.song(4, 0, -1), 1);
        sung(x, 4, 0, 2);
        check.asks(x, "6 and 6", () -> x.song(33, 0, -1), 2);
        sung(x, 33, 0, 0, 5);
        check.asks(x, "6 and 4, 0 APART", () -> x.song(5, 0, -1), 0);
        check.asks(x, "none, the first", () -> x.song(5, 0, 0), -5);
        check.asks(x, "6, 11, 4, 1, 9, by 3", () -> x.song(31, 3, -1), 10);
        sung(x, 31, 3, 0, 2, 3, 1, 4);
        check.asks(x, "11 and 1 by 2, over the ring", () -> x.song(10, 2, -1), 2);
        check.asks(x, "11 and 1 by 1", () -> x.song(10, 1, -1), 0);
        check.asks(x, "11, 1 and 0 by 1", () -> x.song(74, 1, -1), 2);
        sung(x, 74, 1, 1, 6, 3);
        check.asks(x, "6, 4, 9 by 3: 6 is between", () -> x.song(21, 3, -1), 2);
        sung(x, 21, 3, 2, 0, 4);
        check.asks(x, "all", () -> x.song(127, 6, -1), 5040);
        sung(x, 127, 6, 0, 1, 2, 3, 4, 5, 6);
        check.asks(x, "MAX", () -> x.song(127, 6, MAX), -5);
        int[][] off = {{128, 6, 0}, {-1, 6, 0}, {1, 7, 0}, {1, -1, 0}, {1, 6, -2}, {1, 6, MIN}, {MIN, MAX, 0}};
        for (int[] o : off) {
            check.leaves(x, "song(" + o[0] + ", " + o[1] + ", " + o[2] + ")",
                () -> x.song(o[0], o[1], o[2]), -10, 0);
        }
    }

    private static void sung(OneNote x, int set, int k, int... people) {
        for (int i = 0; i < people.length; i++) {
            int place = i;
            check.asks(x, "song(" + set + ", " + k + ", " + i + ")", () -> x.song(set, k, place), people[i]);
        }
        check.asks(x, "song(" + set + ", " + k + "), no more", () -> x.song(set, k, people.length), -5);
    }

    private static void couple() {
        check.about("promise 32");
        OneNote x = new OneNote();
        people(x, SINGER, 0, SINGER, 1, TWIN, 4, SINGER, 5);
        x.chord(0, 4, 7, 1);
        check.asks(x, "nobody", () -> x.couple(0), -1);
        check.asks(x, "one", () -> x.couple(4), -1);
        check.asks(x, "none SAID by any: the first", () -> x.couple(6), 12);
        check.asks(x, "0 and 7: none is left for it but 0, 1 (TWIN 4)", () -> x.couple(7), 1);
        x.chord(4, 5, 8, 1);
        check.asks(x, "1 and 2: 1 or 8, 4 or 11, and 5: the first of like ones", () -> x.couple(14), 12);
        check.asks(x, "the TWIN is none then: 4 and 5 are not both there", () -> x.couple(6), 12);
        check.asks(x, "0 and 1: 4 5 8, not 0 4 7; no two SAY both", () -> x.couple(15), 1);
        x.mates(0, 1);
        check.asks(x, "MATES already", () -> x.couple(3), -1);
        check.asks(x, "the others of three", () -> x.couple(7), 2);
        check.asks(x, "0 and 2 SAY none, 0 and 3 SAY 0 4 7", () -> x.couple(15), 3);
        check.bad(x, "couple(16)", () -> x.couple(16));
        check.bad(x, "couple(-1)", () -> x.couple(-1));
        check.bad(x, "couple(MIN)", () -> x.couple(MIN));
        OneNote y = new OneNote();
        people(y, WED, 0, WED, 1, WED, 2, WED, 3);
        y.chord(7, 8, 9, 1);
        y.chord(0, 1, 9, 1);
        y.mates(0, 1);
        y.mates(2, 3);
        check.asks(y, "as it is", () -> y.says(15, 1), 1);
        check.asks(y, "0 with 2: 1 and 3 have none then", () -> y.couple(15), 2);
        check.asks(y, "nothing has changed", () -> y.says(15, 1), 1);
        OneNote z = new OneNote();
        people(z, WED, 0, WED, 1, SINGER, 4);
        z.mates(0, 1);
        z.chord(0, 4, 8, 1);
        check.asks(z, "0 with 2: 1 is at 8 no more", () -> z.couple(7), 12);
        OneNote w = new OneNote();
        people(w, SINGER, 4, WED, 0, WED, 1);
        w.mates(1, 2);
        w.chord(0, 4, 8, 1);
        check.asks(w, "0 with 1: 2 is at 8 no more", () -> w.couple(7), 2);
    }

    // ---- 33 to 38: what there is

    private static void part() {
        check.about("promise 33");
        OneNote x = new OneNote();
        fraction(x, 0, 1);
        people(x, SINGER, 0, SINGER, 1, SINGER, 2);
        x.chord(0, 1, 2, 1);
        x.swing(7, 1, 0);
        fraction(x, 1, 4);
        for (int off : new int[] {-1, 2, MAX, MIN}) {
            check.bad(x, "part(" + off + ")", () -> x.part(off));
        }
        check.bad(x, "a refused swing", () -> x.swing(6, 0, 0));
        fraction(x, 1, 4);
    }

    private static void image() {
        check.about("promise 34");
        OneNote x = new OneNote();
        people(x, SINGER, 0);
        check.asks(x, "image(0)", () -> x.image(0), 1);
        people(x, SINGER, 1);
        check.asks(x, "image(1)", () -> x.image(1), 1);
        people(x, SINGER, 2);
        check.due("from(0)", x.from(0), 1);
        check.due("count(0)", x.count(0), 1);
        check.due("from(1)", x.from(1), 1);
        check.due("count(0)", x.count(0), 2);
        people(x, SINGER, 3);
        check.asks(x, "image(0), again", () -> x.image(0), 1);
        check.due("from(1)", x.from(1), 1);
        check.due("from(0)", x.from(0), 1);
        check.due("count(0)", x.count(0), 3);
        for (int off : new int[] {-1, 2, 32, MAX, MIN}) {
            check.bad(x, "image(" + off + ")", () -> x.image(off));
        }
    }

    private static void from() {
        check.about("promise 35");
        OneNote x = new OneNote();
        people(x, WED, 0, WED, 1, SINGER, 2);
        x.mates(0, 1);
        x.chord(0, 1, 2, 3);
        x.door(0, 1);
        x.hears(1, 2);
        x.slack(1);
        x.speak(0);
        x.hole(7);
        long kept = x.digest();
        check.no(x, "from(0), none kept", () -> x.from(0));
        x.image(0);
        check.no(x, "from(1), none kept", () -> x.from(1));
        x.goes(2, 5);
        x.one(CHILD, 3, 3);
        x.chord(0, 1, 3, 4);
        x.door(2, 3);
        x.hears(2, 3);
        x.slack(2);
        x.hush();
        x.speak(1);
        x.whole();
        x.hole(1);
        check.due("from(0)", x.from(0), 1);
        check.due("digest()", x.digest(), kept);
        x.whole();
        x.hole(2);
        check.due("from(0), twice", x.from(0), 1);
        check.due("digest()", x.digest(), kept);
        write(x, "slack 9;");
        x.odds(0, 0);
        check.due("from(0)", x.from(0), 1);
        fraction(x, 1, 1);
        check.due("count(4): THE TEXT stays", x.count(4), 8);
        check.due("status(1): STATUS stays", x.status(1), 2);
        for (int off : new int[] {-1, 2, 32, MAX, MIN}) {
            check.bad(x, "from(" + off + ")", () -> x.from(off));
        }
    }

    private static void status() {
        check.about("promise 36");
        OneNote x = new OneNote();
        x.door(0, 0);
        x.door(0, 9);
        x.news(9, 9, 0);
        x.song(9, 9, 9);
        x.part(2);
        x.door(0, 1);
        x.door(0, 1);
        for (int p = 0; p < 9; p++) {
            x.one(0, 0, 0);
        }
        x.one(9, 9, 9);
        x.fewest(1, 0);
        check.due("status(0)", x.status(0), 7);
        check.due("status(1)", x.status(1), 1);
        check.due("status(2)", x.status(2), 2);
        for (int off : new int[] {-1, 3, MAX, MIN}) {
            check.leaves(x, "status(" + off + ")", () -> x.status(off), -1, 0);
        }
        write(x, "door 0 0;");
        x.read();
        write(x, "!");
        x.read();
        x.news(0, 5, 0);
        x.song(0, 0, 0);
        x.couple(0);
        check.due("status(0): NONE, -5, FAULT, ITEMS are none", x.status(0), 11);
        check.due("status(1)", x.status(1), 1);
        check.due("status(2)", x.status(2), 2);
    }

    private static void count() {
        check.about("promise 37");
        OneNote x = new OneNote();
        people(x, SINGER, 0, SINGER, 1, SINGER, 2, SINGER, 3, SINGER, 4);
        x.chord(0, 1, 2, 1);
        x.chord(0, 1, 3, 1);
        x.chord(0, 1, 4, 1);
        x.chord(0, 1, 5, 1);
        x.speak(0);
        x.speak(0);
        x.speak(0);
        x.hole(0);
        x.hole(0);
        x.type(59, 1);
        for (int what = 0; what < 5; what++) {
            int asked = what;
            check.asks(x, "count(" + what + ")", () -> x.count(asked), 5 - what);
        }
        for (int off : new int[] {-1, 5, MAX, MIN}) {
            check.bad(x, "count(" + off + ")", () -> x.count(off));
        }
    }

    private static void digest() {
        check.about("promise 38");
        OneNote x = new OneNote();
        people(x, SINGER, 3, LIAR, 4, WED, 5);
        x.goes(1, 4);
        x.mates(0, 2);
        x.chord(0, 1, 2, 8);
        x.chord(9, 10, 11, 7);
        x.slack(2);
        x.speak(1);
        x.speak(0);
        x.speak(1);
        x.hole(9);
        x.type(1, 2);
        x.door(3, 1);
        x.hears(5, 4);
        x.swing(1, 0, 0);
        int[] links = new int[30];
        links[2 * (3 + 1)] = 1;
        links[29] = 1;
        check.asks(x, "digest()", x::digest, digestOf(join(new int[] {3, 2, 3, 1, 2}, links,
            new int[] {0, 3, 0, 2, 1, 4, 4, -1, 2, 5, 0, 0, 7, 8, 7 << 9, 7, 2, 1, 0, 1, 9, 0, 1})));
    }

    // ---- helpers

    /** People in ROOM 0, told by KIND and NOTE in turn. */
    private static void people(OneNote x, int... kindsAndNotes) {
        for (int i = 0; i + 1 < kindsAndNotes.length; i += 2) {
            x.one(kindsAndNotes[i], kindsAndNotes[i + 1], 0);
        }
    }

    private static void write(OneNote x, String text) {
        x.clear();
        for (byte b : text.getBytes(StandardCharsets.ISO_8859_1)) {
            x.type(b, 1);
        }
    }

    private static void fraction(OneNote x, long above, long below) {
        check.asks(x, "part(0)", () -> x.part(0), above);
        check.asks(x, "part(1)", () -> x.part(1), below);
    }

    private static long digestOf(int[] values) {
        long h = 677;
        for (int v : values) {
            h = 31 * h + v;
        }
        return h;
    }

    private static int[] zerosAndThen(int zeros, int... more) {
        return join(new int[zeros], more);
    }

    private static int[] join(int[]... parts) {
        return java.util.Arrays.stream(parts).flatMapToInt(java.util.Arrays::stream).toArray();
    }
}
