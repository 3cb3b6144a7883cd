import java.util.List;

/** The edges of promises 10 to 12 (type, clear, read), a sentence of the document each. */
public final class TextEdgesTest {
    private static final Check check = new Check();
    private static final Scene empty = Scene.empty(check), some = Scene.some(check), fullest = Scene.fullest(check);
    private static final Scene[] scenes = {empty, some, fullest};
    private static final String[] WORDS = {"door", "hears", "one", "mates", "chord", "slack"};
    private static final int[] NUMBERS = {2, 2, 3, 2, 4, 1};
    /** Each ITEM once, none refused. */
    private static final String ALL_ITEMS = "one 1 10 5;one 02 0 4 ; mates 0 1; door 2 3;hears 03 2;chord 0 10 11 9;slack 2;";

    public static void main(String[] args) {
        typeRange();
        typeLowestBytesHighestFirst();
        typeFull();
        clearEdges();
        emptyText();
        longestText();
        mostItems();
        toldAnew();
        toldAnewEachTime();
        whatReadingLeaves();
        blanks();
        figures();
        wordsThatAreNone();
        bytesThatBeginNone();
        tokensThatCanNotStand();
        endsTooEarly();
        faultAheadOfRefusal();
        itemsRefusedAsBad();
        itemsRefusedAsNo();
        itemsRefusedAsFull();
        itemsRefusedAreNoRefusedCalls();
        firstRefusedItem();
        check.end();
    }

    /** A valley with something of everything, and this TEXT. */
    private static Scene with(String text) {
        return new Scene(check, "'" + text + "'", x -> {
            x.one(5, 11, 5);
            x.one(2, 0, 0);
            x.one(2, 6, 1);
            x.mates(1, 2);
            x.chord(0, 4, 7, 3);
            x.chord(0, 4, 8, 5);
            x.door(0, 5);
            x.hears(1, 4);
            x.slack(2);
            x.image(1);
            x.speak(1);
            x.hole(3);
            x.swing(7, 0, 0);
            Scene.write(x, text);
        });
    }

    private static void fault(String text, int place) {
        with(text).asks("read()", OneNote::read, -10 - place);
    }

    private static void refused(String text, int item) {
        with(text).asks("read()", OneNote::read, -1000 - item);
    }

    private static OneNote told(String text, int items) {
        OneNote x = with(text).make();
        check.due("read() of '" + text + "'", x.read(), items);
        return x;
    }

    // ---- 10 type

    private static void typeRange() {
        check.about("promise 10: BAD: n not 1 .. 8; BAD ahead of FULL");
        for (Scene scene : scenes) {
            scene.off("type", (x, n) -> x.type(0x736c61636b20313bL, n[0]), new int[] {8}, 1, 8);
            scene.bad("type(0, 0)", x -> x.type(0, 0));
            scene.bad("type(MIN, 9)", x -> x.type(Long.MIN_VALUE, 9));
        }
        OneNote x = new OneNote();
        int length = 0;
        for (int n = 1; n <= 8; n++) {
            length += n;
            check.due("type(32, " + n + ")", x.type(32, n), length);
            check.due("count(4)", x.count(4), length);
        }
    }

    private static void typeLowestBytesHighestFirst() {
        check.about("promise 10: the lowest n bytes of v, the highest of them first");
        OneNote x = new OneNote();
        check.due("type, 8", x.type(0x736c61636b20323bL, 8), 8);
        check.due("read()", x.read(), 1);
        check.due("slack(0)", x.slack(0), 2);
        x.clear();
        String text = "slack 1;";
        for (int cut = 0; cut < 8; cut++) {
            x.clear();
            Scene.append(x, text.substring(0, cut));
            long v = -1;
            for (char c : text.substring(cut).toCharArray()) {
                v = v << 8 | c;
            }
            check.due("type, higher bytes are none", x.type(v, 8 - cut), 8);
            check.due("read()", x.read(), 1);
            check.due("slack(0)", x.slack(0), 1);
        }
        x.clear();
        check.due("type(-1, 8)", x.type(-1, 8), 8);
        check.due("read()", x.read(), -10);
        x.clear();
        x.type(0x207fL, 2);
        check.due("read(): 32 is ahead of 127", x.read(), -11);
        x.clear();
        x.type(Long.MIN_VALUE | 0x20, 7);
        check.due("read(): bytes of 0", x.read(), -10);
        x.clear();
        x.type(Long.MIN_VALUE | 0x20, 1);
        check.due("read(): the lowest alone", x.read(), 0);
    }

    private static void typeFull() {
        check.about("promise 10: FULL: 200 bytes at most");
        for (int n = 1; n <= 8; n++) {
            int bytes = n;
            fullest.full("type(59, " + n + ")", x -> x.type(59, bytes));
        }
        for (int left = 1; left <= 7; left++) {
            String text = Scene.filledUp(ALL_ITEMS, 200 - left);
            int room = left;
            for (int n = 1; n <= 8; n++) {
                int bytes = n;
                if (n > left) {
                    with(text).full("type(59, " + n + ")", x -> x.type(59, bytes));
                } else {
                    check.due(left + " left, type " + n, with(text).make().type(32, n), 200 - room + n);
                }
            }
        }
        OneNote x = new OneNote();
        for (int i = 1; i <= 200; i++) {
            check.due("type(32, 1), " + i, x.type(32, 1), i);
        }
        check.due("type(32, 1), 201", x.type(32, 1), -4);
        check.due("count(4)", x.count(4), 200);
        check.due("clear()", x.clear(), 200);
        check.due("type(59, 8)", x.type(59, 8), 8);
    }

    // ---- 11 clear

    private static void clearEdges() {
        check.about("promise 11: THE TEXT is empty: how many it had");
        empty.asks("clear(), empty", OneNote::clear, 0);
        OneNote x = fullest.make();
        check.due("clear(), full", x.clear(), 200);
        check.due("count(4)", x.count(4), 0);
        check.due("clear(), again", x.clear(), 0);
        check.due("read(): nothing is left of it", x.read(), 0);
        check.due("type: the first byte again", x.type(59, 1), 1);
        check.due("read()", x.read(), -10);
        OneNote y = some.make();
        y.clear();
        Scene.append(y, "slack 1");
        check.due("read(): the ; of the longer one is gone", y.read(), -17);
        OneNote z = some.make();
        z.clear();
        check.due("count(0): the valley stays", z.count(0), 3);
    }

    // ---- 12 read

    private static void emptyText() {
        check.about("promise 12: an empty one: no FAULT, nothing is told");
        OneNote x = told("", 0);
        long[] none = new long[38];
        none[36] = x.part(0);
        none[37] = x.part(1);
        check.due("digest()", x.digest(), Scene.digestOf(none));
        check.due("slack(0)", x.slack(0), 0);
    }

    private static void longestText() {
        check.about("promise 12: a TEXT of 200 bytes");
        String tail = "slack 1;";
        told(" ".repeat(192) + tail, 1);
        fault(" ".repeat(193) + "slack 1", 200);
        fault(" ".repeat(199) + "x", 199);
        fault(" ".repeat(199) + ";", 199);
        fault("x" + " ".repeat(199), 0);
        fault(" ".repeat(195) + "slack", 200);
        fault(" ".repeat(193) + "slack 1", 200);
        fault("z".repeat(200), 0);
        fault("slack " + "0".repeat(194), 6);
        fault(" ".repeat(194) + "door 0", 200);
        told(" ".repeat(200), 0);
    }

    private static void mostItems() {
        check.about("promise 12: how many ITEMS");
        told("slack1;".repeat(28), 28);
        told("slack0;", 1);
        refused("slack1;".repeat(27) + "slack3;", 27);
        refused("slack1;".repeat(27) + "slack30;", 27);
        fault("slack1;".repeat(28) + "s", 196);
        for (int n = 1; n < 28; n++) {
            OneNote x = new OneNote();
            Scene.write(x, "slack1;".repeat(n));
            check.due("ITEMS " + n, x.read(), n);
        }
    }

    private static void toldAnew() {
        check.about("promise 12: told anew by these alone (no SPEECH, HOLES), in their order");
        OneNote x = told(ALL_ITEMS, 7);
        long[] due = new long[5 + 30 + 8 + 2 + 1 + 2];
        due[0] = 2;
        due[1] = 1;
        due[4] = ALL_ITEMS.length();
        due[5 + 2 * 5] = 1;
        due[5 + 2 * 5 + 1] = 1;
        long[] rest = {1, 10, 5, 1, 2, 0, 4, 0, Scene.bits(0, 10, 11), 9, 2, x.part(0), x.part(1)};
        System.arraycopy(rest, 0, due, 35, rest.length);
        check.due("digest()", x.digest(), Scene.digestOf(due));
        check.due("count(2)", x.count(2), 0);
        check.due("count(3)", x.count(3), 0);
        OneNote order = told("slack 2;slack 1;one 3 3 3;one 4 4 4;", 4);
        check.due("slack(0): the last one holds", order.slack(0), 1);
        check.due("goes(0, 0): the first came first", order.goes(0, 0), 3);
        OneNote again = told("one 0 0 0;one 0 0 0;one 0 0 0;one 0 0 0;one 0 0 0;one 0 0 0;one 0 0 0;", 7);
        check.due("read(), again", again.read(), 7);
        check.due("count(0)", again.count(0), 7);
        OneNote only = told("slack 0;", 1);
        check.due("door(0, 5): DOORS are gone", only.door(0, 5), 1);
        check.due("hears(4, 1): HEARS is gone", only.hears(4, 1), 1);
        check.due("chord(0, 4, 7, 1): CHORDS are gone", only.chord(0, 4, 7, 1), 0);
        check.due("goes(0, 0): PEOPLE are gone", only.goes(0, 0), -2);
        OneNote wed = told("one 2 0 0;one 2 1 0;one 2 2 0;", 3);
        check.due("sounds(1, 7): MATES are gone", wed.sounds(1, 7), 2);
        check.due("mates(1, 2)", wed.mates(1, 2), 1);
    }

    private static void toldAnewEachTime() {
        check.about("promise 12: told anew, whatever was read or refused or asked ahead of it");
        for (String text : new String[] {ALL_ITEMS, "", "slack 1;", "one 0 0 0;", "chord 0 10 11 1;", "door 2 3;hears 3 2;"}) {
            OneNote fresh = new OneNote();
            Scene.write(fresh, text);
            int items = fresh.read();
            OneNote x = new OneNote();
            for (String ahead : new String[] {text, ALL_ITEMS, ALL_ITEMS + "slack 3;", ALL_ITEMS + "x", "one 0 0 0;one 9 9 9;"}) {
                Scene.write(x, ahead);
                x.read();
                Scene.write(x, text);
                check.due("read() of '" + text + "' behind '" + ahead + "'", x.read(), items);
                check.due("digest()", x.digest(), fresh.digest());
                check.due("read(), again", x.read(), items);
                check.due("digest(), again", x.digest(), fresh.digest());
            }
            OneNote asked = with(text).make();
            asked.couple(7);
            asked.swing(1, 0, 0);
            check.due("read() of '" + text + "' behind couple", asked.read(), items);
            check.due("digest()", asked.digest(), fresh.digest());
        }
    }

    private static void whatReadingLeaves() {
        check.about("promise 12: IMAGES, THE TEXT, THE FRACTION and STATUS are none of THE VALLEY");
        OneNote x = with("slack 1;").make();
        x.door(0, 0);
        x.door(0, 5);
        long above = x.part(0);
        long below = x.part(1);
        check.due("THE FRACTION is not 0 by 1", below > 1 ? 1 : 0, 1);
        check.due("read()", x.read(), 1);
        Scene.fraction(check, x, "read()", above, below);
        check.due("status(0)", x.status(0), 1);
        check.due("status(1)", x.status(1), 1);
        check.due("count(4)", x.count(4), 8);
        check.due("from(1)", x.from(1), 1);
        check.due("count(0)", x.count(0), 3);
        check.due("from(0)", x.from(0), -3);
        check.due("read(), again", x.read(), 1);
        check.due("clear()", x.clear(), 8);
    }

    private static void blanks() {
        check.about("promise 12: blanks (32) between");
        told("   door   0   1   ;   slack   1   ;   ", 2);
        told("door0 1;slack1;one0 0 0;", 3);
        told("slack 1 ;", 1);
        told(" slack 1;", 1);
        told("slack 1; ", 1);
        fault("sla ck 1;", 0);
        fault("door01;", 6);
        refused("one 0 1 2;slack 1 ;one 0 12 1;", 2);
        fault("one 0 1 2 1;", 10);
        for (char c : new char[] {0, 9, 10, 11, 12, 13, 31, 33, 95, 127, 133, 160}) {
            fault("slack" + c + "1;", 5);
            fault(c + "slack 1;", 0);
            fault("slack 1;" + c, 8);
        }
    }

    private static void figures() {
        check.about("promise 12: figures (1 or 2 are one number), a third figure's number is at FAULT");
        OneNote x = told("one 5 11 5;one 05 09 00;one 0 10 01;", 3);
        check.due("sounds(0, 1)", x.sounds(0, 1), Scene.bits(11, 0, 5));
        check.due("sounds(1, 2)", x.sounds(1, 2), Scene.bits(9, 10, 3));
        check.due("sounds(2, 4)", x.sounds(2, 4), Scene.bits(10));
        check.due("goes(1, 0)", x.goes(1, 0), 0);
        check.due("goes(2, 0)", x.goes(2, 0), 1);
        fault("slack 100;", 6);
        fault("slack 001;", 6);
        fault("slack 0000;", 6);
        fault("slack 1000;", 6);
        fault("slack 4294967297;", 6);
        fault("slack 18446744073709551617;", 6);
        fault("one 0 0 100;", 8);
        fault("one 0 011 0;", 6);
        fault("one 000 0 0;", 4);
        fault("slack 1;slack 111", 14);
        fault("slack001;", 5);
        refused("slack 99;", 0);
        refused("slack 10;", 0);
        refused("one 10 0 0;", 0);
        refused("one 0 20 0;", 0);
        refused("one 0 0 10;", 0);
        for (char c : new char[] {'/', ':', '0' + 128, '9' + 128, 178}) {
            fault("slack " + c + ";", 6);
            fault("slack 1" + c + ";", 7);
        }
        fault("slack -1;", 6);
        fault("slack +1;", 6);
        fault("slack 1.0;", 7);
    }

    private static void wordsThatAreNone() {
        check.about("promise 12: a word that is none is at FAULT, at its first byte");
        for (int w = 0; w < 6; w++) {
            String word = WORDS[w];
            String numbers = " 0 1 2 3".substring(0, 2 * NUMBERS[w]) + ";";
            for (int at = 0; at < word.length(); at++) {
                String left = word.substring(0, at);
                String right = word.substring(at + 1);
                fault(left + right + numbers, 0);
                fault(left + 'q' + right + numbers, 0);
                fault(left + word.charAt(at) + word.charAt(at) + right + numbers, 0);
                fault(left + (char) (word.charAt(at) - 32) + right + numbers, 0);
            }
            fault(word + "s" + numbers, 0);
            fault("s" + word + numbers, 0);
            fault(word + word + numbers, 0);
            fault("slack 1; " + word + "x" + numbers, 9);
        }
        fault("q", 0);
        fault("goes 0 0;", 0);
        fault("type 0 0;", 0);
        fault("speak 0;", 0);
        fault("hole 0;", 0);
        fault("zzzzz 1;", 0);
        fault("aaaaa 1;", 0);
    }

    private static void bytesThatBeginNone() {
        check.about("promise 12: a byte that begins none is at FAULT");
        for (int b = 0; b < 256; b++) {
            char c = (char) b;
            boolean blank = c == ' ';
            boolean letter = c >= 'a' && c <= 'z';
            boolean figure = c >= '0' && c <= '9';
            if (!blank) {
                fault(c + "slack 1;", 0);
                fault("slack 1;" + c, 8);
                fault("slack 1; " + c + "; ", 9);
            }
            if (!blank && !figure) {
                fault("slack " + c + ";", 6);
                if (c != ';') {
                    fault("slack 1" + c, 7);
                }
            }
            if (!blank && !letter && !figure) {
                fault("slack" + c + "1;", 5);
            }
            if (letter) {
                fault("slack" + c + "1;", 0);
            }
        }
    }

    private static void tokensThatCanNotStand() {
        check.about("promise 12: the first TOKEN that can not stand there");
        for (int w = 0; w < 6; w++) {
            String head = WORDS[w];
            for (int many = 0; many <= NUMBERS[w]; many++) {
                if (many < NUMBERS[w]) {
                    fault(head + ";", head.length());
                    fault(head + " ;", head.length() + 1);
                } else {
                    fault(head + " 0;", head.length() + 1);
                    fault(head + "  00;", head.length() + 2);
                }
                for (String word : WORDS) {
                    fault(head + " " + word + " 0 0;", head.length() + 1);
                }
                head += " " + many;
            }
        }
        fault(";", 0);
        fault(" ;", 1);
        fault("slack 1;;", 8);
        fault("0;", 0);
        fault("00 slack 1;", 0);
        fault("000 slack 1;", 0);
        fault("slack 1;2;", 8);
        fault("slack 1 2 3 4;", 8);
        fault("slack x y z", 6);
        fault("x slack", 0);
    }

    private static void endsTooEarly() {
        check.about("promise 12: the TEXT's length, if it ends too early");
        int items = 0;
        int wordFrom = -1;
        for (int cut = 1; cut <= ALL_ITEMS.length(); cut++) {
            String text = ALL_ITEMS.substring(0, cut);
            char last = text.charAt(cut - 1);
            boolean letter = last >= 'a' && last <= 'z';
            items += last == ';' ? 1 : 0;
            if (!letter) {
                wordFrom = -1;
            } else if (wordFrom < 0) {
                wordFrom = cut - 1;
            }
            if (letter && !List.of(WORDS).contains(text.substring(wordFrom))) {
                fault(text, wordFrom);
            } else if (text.trim().endsWith(";")) {
                told(text, items);
            } else {
                fault(text, cut);
                fault(text + " ", cut + 1);
                fault(text + "  ", cut + 2);
            }
        }
        fault("slack", 5);
        fault("slack 1", 7);
        fault("slack 11", 8);
        fault("slack 111", 6);
        fault("door 0 1;door 0 2", 17);
    }

    private static void faultAheadOfRefusal() {
        check.about("promise 12: a VALLEY without a FAULT is told: FAULT ahead of what is refused");
        fault("door 0 0;x", 9);
        fault("door 0 0;slack 1", 16);
        fault("slack 9;slack 9;;", 16);
        fault("one 9 9 9;slack 100;", 16);
        refused("door 0 0; ", 0);
    }

    private static void itemsRefusedAsBad() {
        check.about("promise 12: an ITEM that is refused (as its call is): BAD");
        for (String word : new String[] {"door", "hears"}) {
            refused(word + " 0 6;", 0);
            refused(word + " 6 0;", 0);
            refused(word + " 0 99;", 0);
            for (int r = 0; r < 6; r++) {
                refused("slack 1;" + word + " " + r + " " + r + ";", 1);
            }
            told(word + " 0 5;" + word + " 5 4;", 2);
        }
        refused("one 6 0 0;", 0);
        refused("one 0 12 0;", 0);
        refused("one 0 0 6;", 0);
        refused("one 99 99 99;", 0);
        told("one 5 11 5;", 1);
        told("one 0 0 0;", 1);
        refused("mates 0 1;", 0);
        refused("one 2 0 0;mates 0 1;one 2 0 0;", 1);
        refused("one 2 0 0;mates 1 0;one 2 0 0;", 1);
        refused("one 2 0 0;one 2 0 0;mates 0 0;", 2);
        refused("one 2 0 0;one 2 0 0;mates 0 2;", 2);
        refused("chord 0 1 2 0;", 0);
        refused("chord 0 1 2 10;", 0);
        refused("chord 0 1 12 1;", 0);
        refused("chord 0 0 1 1;", 0);
        refused("chord 0 1 1 1;", 0);
        refused("chord 1 0 2 1;", 0);
        refused("chord 0 2 1 1;", 0);
        refused("chord 0 1 2 1;chord 0 1 2 1;", 1);
        refused("chord 0 1 2 1;chord 0 1 2 9;", 1);
        told("chord 0 1 2 1;chord 9 10 11 9;", 2);
        refused("slack 3;", 0);
        told("slack 0;slack 1;slack 2;", 3);
    }

    private static void itemsRefusedAsNo() {
        check.about("promise 12: an ITEM that is refused (as its call is): NO");
        refused("door 0 1;door 0 1;", 1);
        refused("door 0 1;door 1 0;", 1);
        refused("hears 4 5;hears 4 5;", 1);
        refused("hears 4 5;hears 5 4;", 1);
        told("door 4 5;hears 4 5;", 2);
        refused("one 0 0 0;one 0 0 0;one 0 0 0;mates 0 1;mates 1 0;", 4);
        refused("one 0 0 0;one 0 0 0;one 0 0 0;mates 0 1;mates 1 2;", 4);
        refused("one 0 0 0;one 0 0 0;one 0 0 0;mates 0 1;mates 2 0;", 4);
        told("door 0 5;hears 1 4;chord 0 4 7 3;", 3);
    }

    private static void itemsRefusedAsFull() {
        check.about("promise 12: an ITEM that is refused (as its call is): FULL");
        String seven = "one 0 0 0;".repeat(7);
        told(seven, 7);
        refused(seven + "one 0 0 0;", 7);
        refused(seven + "slack 1;one 5 11 5;slack 2;", 8);
        StringBuilder eight = new StringBuilder();
        for (int c = 0; c < 8; c++) {
            eight.append("chord 0 1 ").append(c + 2).append(" 1;");
        }
        told(eight.toString(), 8);
        refused(eight + "chord 0 1 10 1;", 8);
        refused(eight + "door 0 1;chord 0 2 10 1;", 9);
    }

    private static void itemsRefusedAreNoRefusedCalls() {
        check.about("terms: STATUS: ITEMS are none");
        OneNote x = new OneNote();
        for (String text : new String[] {"door 0 0;", "door 0 1;door 0 1;", "one 0 0 0;".repeat(8), "x", "slack 9;", "slack"}) {
            Scene.write(x, text);
            check.due("read() of " + text + " is refused", x.read() < 0 ? 1 : 0, 1);
        }
        for (int what = 0; what < 3; what++) {
            check.due("status(" + what + ")", x.status(what), 0);
        }
    }

    private static void firstRefusedItem() {
        check.about("promise 12: the number of the first ITEM that is refused (0 on): nothing changes");
        for (int ahead = 0; ahead < 20; ahead++) {
            refused("slack 1;".repeat(ahead) + "slack 3;slack 9;", ahead);
        }
        refused("one 3 3 3;door 1 2;hears 2 3;chord 3 4 5 6;slack 0;one 0 0 6;", 5);
        OneNote x = with("one 3 3 3;slack 3;").make();
        check.due("read()", x.read(), -1001);
        x.clear();
        Scene.append(x, "one 3 3 3;slack 2;");
        check.due("read()", x.read(), 2);
        check.due("count(0): nobody is left of what was refused", x.count(0), 1);
    }
}
