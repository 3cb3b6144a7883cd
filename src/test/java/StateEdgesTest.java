import java.util.ArrayList;
import java.util.List;

/** The edges of promises 33 to 38 (what there is), of the order of refusals and of 512 calls. */
public final class StateEdgesTest {
    private static final int SINGER = Scene.SINGER, TWIN = Scene.TWIN;
    private static final Check check = new Check();
    private static final Scene empty = Scene.empty(check), some = Scene.some(check), fullest = Scene.fullest(check);
    private static final Scene[] scenes = {empty, some, fullest};

    public static void main(String[] args) {
        partRefused();
        partAtFirst();
        partStays();
        imageRefused();
        imageKeptAgain();
        imageOfNothing();
        imageKeepsAll();
        imageKeepsNotTheRest();
        imagesKeepNoImages();
        imageIsNotChanged();
        fromRefused();
        fromNoneKept();
        statusRefused();
        statusCountsEachReason();
        statusOfOtherAnswers();
        statusOfEachCall();
        countRefused();
        countEdges();
        digestOfTheFullest();
        digestOfNothing();
        badAheadOfNo();
        badAheadOfFull();
        nothingIsLeftOfAnEarlierValley();
        fiveHundredAndTwelveCalls();
        check.end();
    }

    // ---- 33 part

    private static void partRefused() {
        check.about("promise 33: BAD: what is not 0, 1");
        for (Scene scene : scenes) {
            scene.off("part", (x, n) -> x.part(n[0]), new int[] {0}, 0, 1);
        }
    }

    private static void partAtFirst() {
        check.about("terms: THE FRACTION is 0 by 1 at first; below above 0");
        empty.asks("part(0)", x -> x.part(0), 0);
        empty.asks("part(1)", x -> x.part(1), 1);
        OneNote x = some.make();
        Scene.fraction(check, x, "swing", 1, 4);
        check.due("swing(1, 0, 0)", x.swing(1, 0, 0), 1);
        Scene.fraction(check, x, "none: 0 by 1 again", 0, 1);
    }

    private static void partStays() {
        check.about("promise 33: a refused call leaves THE FRACTION");
        OneNote x = some.make();
        check.due("swing(6, 0, 0)", x.swing(6, 0, 0), -2);
        check.due("swing(7, 0, 2)", x.swing(7, 0, 2), -2);
        check.due("odds(2, 0)", x.odds(2, 0), -2);
        check.due("odds(0, 2)", x.odds(0, 2), -2);
        x.hole(1 << 11);
        check.due("odds(0, 0)", x.odds(0, 0), -3);
        check.due("part(2)", x.part(2), -2);
        Scene.fraction(check, x, "after all", 1, 4);
    }

    // ---- 34, 35 image, from

    private static void imageRefused() {
        check.about("promise 34: BAD: IMAGES 0, 1");
        for (Scene scene : scenes) {
            scene.off("image", (x, n) -> x.image(n[0]), new int[] {0}, 0, 1);
        }
    }

    private static void imageKeptAgain() {
        check.about("promise 34: an IMAGE is kept: 1; the one that was there is gone");
        OneNote x = fullest.make();
        check.due("image(0)", x.image(0), 1);
        check.due("from(1)", x.from(1), 1);
        check.due("count(0): the other one stays", x.count(0), 5);
        check.due("image(1), as it is", x.image(1), 1);
        check.due("from(0)", x.from(0), 1);
        check.due("count(0)", x.count(0), 7);
        check.due("count(1)", x.count(1), 8);
        check.due("from(1)", x.from(1), 1);
        check.due("count(0)", x.count(0), 5);
    }

    private static void imageOfNothing() {
        check.about("promise 34: an IMAGE of nothing is one");
        OneNote x = new OneNote();
        check.due("image(1)", x.image(1), 1);
        x.one(SINGER, 0, 0);
        x.slack(2);
        x.door(0, 1);
        check.due("from(0)", x.from(0), -3);
        check.due("from(1)", x.from(1), 1);
        check.due("count(0)", x.count(0), 0);
        check.due("digest()", x.digest(), new OneNote().digest());
    }

    private static void imageKeepsAll() {
        check.about("terms: IMAGES keep all");
        OneNote x = fullest.make();
        long before = x.digest();
        x.image(0);
        x.goes(0, 5);
        x.mates(1, 5);
        x.door(4, 5);
        x.hears(4, 5);
        x.slack(0);
        x.hush();
        x.speak(7);
        x.whole();
        x.hole(7);
        check.due("it is not the same", x.digest() != before ? 1 : 0, 1);
        check.due("from(0)", x.from(0), 1);
        check.due("digest()", x.digest(), before);
        String text = "slack 1;";
        Scene.write(x, text);
        x.read();
        check.due("count(1)", x.count(1), 0);
        check.due("from(0)", x.from(0), 1);
        for (int what = 0; what < 4; what++) {
            check.due("count(" + what + ")", x.count(what), what == 0 ? 7 : what == 1 ? 8 : 6);
        }
    }

    private static void imageKeepsNotTheRest() {
        check.about("terms: but them, THE TEXT, THE FRACTION and STATUS");
        OneNote x = some.make();
        x.image(1);
        Scene.write(x, "slack 0; ");
        x.swing(1, 0, 0);
        x.door(0, 1);
        x.door(0, 0);
        int bad = x.status(0);
        int no = x.status(1);
        check.due("from(1)", x.from(1), 1);
        check.due("count(4)", x.count(4), 9);
        Scene.fraction(check, x, "from(1)", 0, 1);
        check.due("status(0)", x.status(0), bad);
        check.due("status(1)", x.status(1), no);
        check.due("read(): THE TEXT is the new one", x.read(), 1);
        check.due("slack(0)", x.slack(0), 0);
    }

    private static void imagesKeepNoImages() {
        check.about("terms: IMAGES do not keep them");
        OneNote x = new OneNote();
        x.image(0);
        x.one(SINGER, 0, 0);
        x.image(1);
        check.due("from(0)", x.from(0), 1);
        check.due("from(1): it was kept after the other one", x.from(1), 1);
        check.due("count(0)", x.count(0), 1);
        OneNote y = new OneNote();
        y.image(0);
        y.from(0);
        check.due("from(1): none was kept", y.from(1), -3);
    }

    private static void imageIsNotChanged() {
        check.about("promise 35: an IMAGE stays as it was kept");
        OneNote x = some.make();
        x.image(1);
        long before = x.digest();
        for (int round = 0; round < 3; round++) {
            x.one(SINGER, round, 0);
            x.chord(0, 1, 2 + round, 1);
            x.door(2, 3);
            x.hears(2, 3);
            x.mates(0, 1);
            x.goes(0, 4);
            x.slack(2);
            x.speak(0);
            x.hole(0);
            x.couple(15);
            check.due("from(1)", x.from(1), 1);
            check.due("digest(), round " + round, x.digest(), before);
        }
    }

    private static void fromRefused() {
        check.about("promise 35: BAD: IMAGES 0, 1; BAD ahead of NO");
        for (Scene scene : scenes) {
            scene.off("from", (x, n) -> x.from(n[0]), new int[] {0}, 0, 1);
        }
    }

    private static void fromNoneKept() {
        check.about("promise 35: NO: none was kept");
        empty.no("from(0)", x -> x.from(0));
        empty.no("from(1)", x -> x.from(1));
        some.no("from(1), the other one was", x -> x.from(1));
        Scene other = new Scene(check, "IMAGE 1 alone", x -> x.image(1));
        other.no("from(0), the other one was", x -> x.from(0));
        OneNote x = some.make();
        check.due("from(0)", x.from(0), 1);
        check.due("count(0)", x.count(0), 1);
    }

    // ---- 36 status

    private static void statusRefused() {
        check.about("promise 36: -1: another what (counts as BAD)");
        for (Scene scene : scenes) {
            scene.offAnswers("status", (x, n) -> x.status(n[0]), -1, new int[] {0}, 0, 2);
        }
        OneNote x = new OneNote();
        for (int i = 1; i <= 5; i++) {
            check.due("status(3)", x.status(3), -1);
            check.due("status(0)", x.status(0), i);
        }
    }

    private static void statusCountsEachReason() {
        check.about("terms: STATUS: how many calls were refused as BAD, NO, FULL");
        OneNote x = fullest.make();
        int[] at = {x.status(0), x.status(1), x.status(2)};
        for (int i = 1; i <= 4; i++) {
            x.door(9, 9);
            x.from(9);
            check.due("status(0)", x.status(0), at[0] + 2 * i);
            x.door(0, 1);
            x.mates(2, 4);
            x.block(0, 0);
            check.due("status(1)", x.status(1), at[1] + 3 * i);
            x.one(0, 0, 0);
            check.due("status(2)", x.status(2), at[2] + i);
        }
        check.due("status(0), in the end", x.status(0), at[0] + 8);
        x.from(0);
        x.read();
        x.clear();
        check.due("status(0) stays", x.status(0), at[0] + 8);
        check.due("status(1) stays", x.status(1), at[1] + 12);
        check.due("status(2) stays", x.status(2), at[2] + 4);
    }

    private static void statusOfOtherAnswers() {
        check.about("terms: STATUS: each answer told so is such a one: NONE, -5, FAULT, 0 are none");
        some.asks("fewest: NONE", x -> x.fewest(1, 0), -1);
        some.asks("fetch: NONE", x -> x.fetch(0), -1);
        some.asks("inTime: NONE", x -> x.inTime(9), -1);
        some.asks("news: NONE", x -> x.news(0, 2, 0), -1);
        some.asks("news: -5", x -> x.news(0, 1, 2), -5);
        some.asks("song: -5", x -> x.song(7, 0, 0), -5);
        some.asks("couple: NONE", x -> x.couple(1), -1);
        some.asks("says: 0", x -> x.says(1, 0), 0);
        Scene fault = new Scene(check, "a FAULT", x -> Scene.write(x, "slack 1"));
        fault.asks("read: FAULT", OneNote::read, -17);
        Scene refused = new Scene(check, "an ITEM refused", x -> Scene.write(x, "slack 3;"));
        refused.asks("read: refused", OneNote::read, -1000);
    }

    private static void statusOfEachCall() {
        check.about("terms: STATUS: every call that can be refused counts once");
        OneNote x = new OneNote();
        int[] answers = {x.door(6, 0), x.hears(6, 0), x.one(6, 0, 0), x.mates(0, 1), x.goes(0, 0), x.chord(0, 0, 0, 0),
            x.slack(3), x.sounds(0, 0), x.type(0, 0), x.says(0, 0), x.said(6), x.byDoor(6, 0), x.fewest(0, 0),
            x.speak(0), x.fetch(3), x.inTime(10), x.taken(0, 0, 0), x.drop(4), x.hole(15), x.meant(0), x.odds(0, 0),
            x.block(0, 0), x.swing(0, 0, 0), x.couple(1), (int) x.part(2), x.image(2), x.from(2), x.count(5)};
        for (int i = 0; i < answers.length; i++) {
            check.due("answer " + i, answers[i], -2);
        }
        check.due("status(0)", x.status(0), answers.length);
        check.due("news", x.news(6, 0, 0), -10);
        check.due("song", x.song(1, 0, 0), -10);
        check.due("status(3)", x.status(3), -1);
        check.due("status(0)", x.status(0), answers.length + 3);
        check.due("status(1)", x.status(1), 0);
        check.due("status(2)", x.status(2), 0);
        OneNote y = some.make();
        int no = y.status(1);
        y.hole(1 << 11);
        y.mates(0, 1);
        int[] nos = {y.door(1, 0), y.hears(1, 0), y.mates(0, 2), y.byDoor(2, 3), y.odds(0, 0), y.block(1, 0), y.from(1)};
        for (int i = 0; i < nos.length; i++) {
            check.due("NO " + i, nos[i], -3);
        }
        check.due("status(1)", y.status(1), no + nos.length);
        OneNote z = fullest.make();
        int full = z.status(2);
        int[] fulls = {z.one(0, 0, 0), z.chord(0, 1, 2, 1), z.type(0, 1), z.speak(0), z.hole(0)};
        for (int i = 0; i < fulls.length; i++) {
            check.due("FULL " + i, fulls[i], -4);
        }
        check.due("status(2)", z.status(2), full + fulls.length);
    }

    // ---- 37 count

    private static void countRefused() {
        check.about("promise 37: BAD: what is not 0 .. 4");
        for (Scene scene : scenes) {
            scene.off("count", (x, n) -> x.count(n[0]), new int[] {0}, 0, 4);
        }
    }

    private static void countEdges() {
        check.about("promise 37: how many: none, some, all");
        int[] few = {3, 2, 1, 2, 8};
        int[] most = {7, 8, 6, 6, 200};
        for (int what = 0; what < 5; what++) {
            int asked = what;
            empty.asks("count(" + what + ")", x -> x.count(asked), 0);
            some.asks("count(" + what + ")", x -> x.count(asked), few[what]);
            fullest.asks("count(" + what + ")", x -> x.count(asked), most[what]);
        }
    }

    // ---- 38 digest

    private static void digestOfNothing() {
        check.about("promise 38: of nothing");
        List<Long> v = new ArrayList<>();
        addAll(v, new long[36]);
        addAll(v, 0, 1);
        empty.asks("digest()", OneNote::digest, digestOf(v));
    }

    private static void digestOfTheFullest() {
        check.about("promise 38: of the fullest, MATE (NONE), wrap-around");
        List<Long> v = new ArrayList<>();
        addAll(v, 7, 8, 6, 6, 200);
        long[] doors = new long[36];
        long[] hears = new long[36];
        for (int[] d : new int[][] {{4, 3}, {1, 0}, {2, 1}}) {
            doors[6 * d[0] + d[1]] = 1;
        }
        for (int[] h : new int[][] {{1, 0}, {3, 1}, {5, 3}}) {
            hears[6 * h[0] + h[1]] = 1;
        }
        for (int a = 0; a < 6; a++) {
            for (int b = 0; b < a; b++) {
                addAll(v, doors[6 * a + b], hears[6 * a + b]);
            }
        }
        addAll(v, 0, 0, 0, 6, 1, 3, 0, -1, 2, 9, 1, 4, 4, 6, 1, -1, 2, 2, 2, 2, 3, 11, 3, -1, 5, 5, 5, 0);
        addAll(v, Scene.bits(0, 4, 9), 3, Scene.bits(6, 7, 9), 2);
        for (int c = 2; c < 8; c++) {
            addAll(v, Scene.bits(1, 2 + c, 11), c);
        }
        addAll(v, 1, 0, 1, 0, 1, 0, 1, 0, 0, 1, 0, 0, 0, 3, 16);
        fullest.asks("digest()", OneNote::digest, digestOf(v));
    }

    private static void addAll(List<Long> to, long... values) {
        for (long v : values) {
            to.add(v);
        }
    }

    private static long digestOf(List<Long> values) {
        return Scene.digestOf(values.stream().mapToLong(Long::longValue).toArray());
    }

    // ---- the order of refusals, the calls of an object

    private static void badAheadOfNo() {
        check.about("terms: the first of: BAD, NO");
        fullest.bad("door: alike, and others are there", x -> x.door(0, 0));
        fullest.bad("mates: alike, who has a MATE", x -> x.mates(0, 0));
        fullest.bad("mates: one has a MATE, the other is nobody", x -> x.mates(0, 7));
        fullest.bad("byDoor: no DOOR to no ROOM", x -> x.byDoor(0, 6));
        fullest.bad("block: nobody SAYS no CHORD", x -> x.block(0, 8));
        some.bad("from: not one of IMAGES", x -> x.from(2));
        some.bad("odds: no hole", x -> x.odds(2, 0));
    }

    private static void badAheadOfFull() {
        check.about("terms: the first of: BAD, FULL");
        fullest.bad("one", x -> x.one(6, 0, 0));
        fullest.bad("chord: USED", x -> x.chord(0, 1, 2, 10));
        fullest.bad("chord: alike", x -> x.chord(0, 4, 9, 1));
        fullest.bad("speak", x -> x.speak(8));
        fullest.bad("hole", x -> x.hole(15));
        fullest.bad("type", x -> x.type(0, 9));
    }

    private static void nothingIsLeftOfAnEarlierValley() {
        check.about("all is asked of what there is, not of what there was");
        String[] texts = {"", "one 1 3 2;chord 0 1 2 1;", "one 0 0 0;one 4 1 0;one 2 5 1;chord 0 1 2 1;chord 0 1 5 3;",
            "one 0 0 5;one 0 4 5;one 0 8 5;door 4 5;hears 0 5;chord 0 4 8 2;slack 1;"};
        for (String text : texts) {
            OneNote used = fullest.make();
            askAll(used);
            Scene.write(used, text);
            used.read();
            OneNote fresh = new OneNote();
            Scene.write(fresh, text);
            fresh.read();
            check.due("all answers after '" + text + "'", askAll(used).equals(askAll(fresh)) ? 1 : 0, 1);
        }
    }

    /** Questions that take all PEOPLE, all CHORDS, all ROOMS. */
    private static List<Long> askAll(OneNote x) {
        List<Long> told = new ArrayList<>();
        int people = x.count(0);
        int chords = x.count(1);
        int all = (1 << people) - 1;
        for (int c = 0; c < chords; c++) {
            addAll(told, x.says(all, c), x.fewest(all, c), x.block(all, c));
        }
        for (int r = 0; r < 6; r++) {
            addAll(told, x.said(r), x.byDoor(r, 5 - r), x.news(r, 5, -1), x.news(5, r, 1), x.song(all, r + 1, -1),
                x.song(all, r + 1, 0), x.inTime(r));
        }
        for (int i = 0; i < 4; i++) {
            addAll(told, x.drop(i), i < 3 ? x.fetch(i) : 0, x.ways(), x.couple(all));
        }
        return told;
    }

    private static void fiveHundredAndTwelveCalls() {
        check.about("an object is used for at most 512 calls");
        OneNote bad = new OneNote();
        for (int i = 1; i < 512; i++) {
            bad.slack(3);
        }
        check.due("status(0), the 512th call", bad.status(0), 511);
        OneNote typed = new OneNote();
        for (int i = 0; i < 170; i++) {
            check.due("type", typed.type(0x736c61636b20313bL, 8), 8);
            check.due("read", typed.read(), 1);
            check.due("clear", typed.clear(), 8);
        }
        check.due("slack(0), the 511th call", typed.slack(0), 1);
        check.due("slack(0), the 512th call", typed.slack(0), 0);
        OneNote spoken = new OneNote();
        spoken.chord(0, 1, 2, 1);
        for (int i = 0; i < 255; i++) {
            check.due("speak", spoken.speak(0), 1);
            check.due("hush", spoken.hush(), 1);
        }
        check.due("speak, the 512th call", spoken.speak(0), 1);
        OneNote images = new OneNote();
        images.one(TWIN, 0, 0);
        for (int i = 0; i < 255; i++) {
            check.due("image", images.image(i % 2), 1);
            check.due("from", images.from(i % 2), 1);
        }
        check.due("count(0), the 512th call", images.count(0), 1);
        OneNote holes = new OneNote();
        for (int i = 0; i < 256; i++) {
            check.due("hole", holes.hole(0), 0);
            check.due("whole", holes.whole(), 1);
        }
    }
}
