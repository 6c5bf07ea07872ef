import java.util.Random;

/** Promises 2 to 5: the tape, texts and their faults, by hand and against the plain model. */
public final class TextTest {
    private static final int RANDOM_TEXTS = 60000;
    // A text is 100 calls and some looks at most: so many stay under the 512 that are promised.
    private static final int TEXTS_AN_OBJECT = 3;
    private static final String ABCD = "wire a;wire b;wire c;wire d;";
    private static final Check CHECK = new Check("TextTest");

    public static void main(String[] args) {
        tape();
        rightTexts();
        syntax();
        room();
        names();
        numbers();
        firstFault();
        nothingChanges();
        allIsReplaced();
        againstModel();
        CHECK.end();
    }

    private static void fault(String text, int number, int place) {
        BackLogic x = new BackLogic();
        CHECK.due("read of " + text, Check.read(x, text), number);
        CHECK.due("place of " + text, x.place(), place);
        CHECK.due("tape behind " + text, x.count(6), 0);
    }

    private static void right(String text) {
        fault(text, 0, BackLogic.NONE);
    }

    private static String repeat(String text, int times) {
        return text.repeat(times);
    }

    private static void tape() {
        BackLogic x = new BackLogic();
        CHECK.due("place at first", x.place(), -1);
        for (int i = 1; i <= 100; i++) {
            CHECK.due("feed " + i, x.feed(0x20202020, 0x20202020, 0x20202020, 0x20202020, 0x20202020), 20 * i);
        }
        CHECK.due("feed on a full tape", x.feed(0, 0, 0, 0, 0), -1);
        CHECK.due("full tape", x.count(6), 2000);
        CHECK.due("back below 0", x.back(-1), -1);
        CHECK.due("back least", x.back(Integer.MIN_VALUE), -1);
        CHECK.due("back of too many", x.back(2001), -1);
        CHECK.due("back 0", x.back(0), 2000);
        CHECK.due("back 1", x.back(1), 1999);
        CHECK.due("feed with 19 free", x.feed(0, 0, 0, 0, 0), -1);
        CHECK.due("back 19", x.back(19), 1980);
        CHECK.due("feed with 20 free", x.feed(-1, -1, -1, -1, -1), 2000);
        CHECK.due("read of a byte 255", x.read(), 1);
        CHECK.due("its place", x.place(), 1980);
        CHECK.due("back on an empty tape", x.back(1), -1);
        CHECK.due("back 0 on an empty tape", x.back(0), 0);
        CHECK.due("read of an empty tape", x.read(), 0);
        CHECK.due("no fault, no place", x.place(), -1);
        // The highest byte comes first: "wire", " a;g", "ate ", "a;  ", "    ".
        x.feed(0x77697265, 0x20613b67, 0x61746520, 0x613b2020, 0x20202020);
        CHECK.due("read in order", x.read(), 0);
        CHECK.due("its wires", x.count(0), 1);
        CHECK.due("its gates", x.count(1), 1);
    }

    private static void rightTexts() {
        right("");
        right(" \t\r\n ");
        right("wire a;");
        right("wire\ta\n;\rgate a ;");
        right("gate a;wire a;");
        right("gate a-b c- d;" + ABCD);
        right("gate a-b-c-d;" + ABCD);
        right("wire abcdefgh;");
        right("wire wires;wire wir;wire prices;wire tab;");
        right("price 1 99 001 0099;price 1 1 1 1;");
        right("table 1 1 0 1;table 3 3 0 1 2 3 4 5 6 7;");
        right("table0001 03 7 0;");
        right("price1 2 3 4;");
        right(ABCD + repeat("gate a;", 16));
        right(repeat("price 1 1 1 1;", 66) + "wire a;");
        right("wire a;" + repeat(" ", 1993));
    }

    private static void syntax() {
        fault("wire", 1, 4);
        fault("wire  ", 1, 6);
        fault("wire a", 1, 6);
        fault("wire a b;", 1, 7);
        fault("wire ;", 1, 5);
        fault("wire wire;", 1, 5);
        fault("wire gate;", 1, 5);
        fault("wire price;", 1, 5);
        fault("wire table;", 1, 5);
        fault("wire 1;", 1, 5);
        fault("wire abcdefghi;", 1, 5);
        fault("wirea;", 1, 0);
        fault(" a;", 1, 1);
        fault(";", 1, 0);
        fault("-", 1, 0);
        fault(".", 1, 0);
        fault("wire A;", 1, 5);
        fault("wire a;.", 1, 7);
        fault("wire a;\f", 1, 7);
        fault("wire a;\0", 1, 7);
        fault("wire \u00e9;", 1, 5);
        fault("gate -a;", 1, 5);
        fault("gate;", 1, 4);
        fault("gate a --b;", 1, 8);
        fault("gate a -;", 1, 8);
        fault("gate a -", 1, 8);
        fault("gate a 1;", 1, 7);
        fault("gate a gate b;", 1, 7);
        fault("price 1 2 3;", 1, 11);
        fault("price 1 2 3 4 5;", 1, 14);
        fault("price 1 2 3 -4;", 1, 12);
        fault("price 1 2 3 a;", 1, 12);
        fault("price 12345 1 1 1;", 1, 6);
        fault("table 1 1;", 1, 9);
        fault("table 1;", 1, 7);
        fault("table 1 1 0 a;", 1, 12);
        fault("table 1 1 0", 1, 11);
        fault("table 1 1 00000;", 1, 10);
    }

    private static void room() {
        fault(ABCD + "wire e;", 2, 28);
        fault(ABCD + " wire ;", 2, 29);
        fault(ABCD + "wire", 2, 28);
        fault(repeat("wire a;", 4) + "wire a;", 2, 28);
        fault("wire a;" + repeat("gate a;", 17), 2, 119);
        fault(repeat("gate x;", 16) + "gate 1", 2, 112);
        fault("gate a b c d e;", 2, 13);
        fault("gate a b c d -e;", 2, 13);
        fault("gate a b c d - ;", 2, 13);
        fault("gate a b c -d;", 4, 5);
        fault("gate a b c d 1;", 1, 13);
        fault("table 3 1 0 0 0 0 0 0 0 0 0;", 2, 26);
        fault("table 9 9 9 9 9 9 9 9 9 9 9;", 2, 26);
        fault("table 1 1 0 0 0 0 0 0 0 0 a;", 1, 26);
        // 65 prices have 390 tokens, two wires 6, a gate with one control 4.
        right(repeat("price 1 1 1 1;", 65) + "wire a;wire b;gate a b;");
        right(repeat("price 1 1 1 1;", 65) + "wire a;wire b;gate a b; \n");
        fault(repeat("price 1 1 1 1;", 65) + "wire a;wire b;gate a b;gate", 2, 65 * 14 + 23);
        // 66 prices have 396 tokens, a wire 3 more.
        String tokens399 = repeat("price 1 1 1 1;", 66) + "wire a;";
        fault(tokens399 + "wire b;", 2, 66 * 14 + 7 + 5);
        fault(tokens399 + "wire ;", 1, 66 * 14 + 7 + 5);
        fault(tokens399 + "wire .", 1, 66 * 14 + 7 + 5);
        fault(tokens399 + "wire ", 1, 66 * 14 + 7 + 5);
        fault(repeat("price 1 1 1 1;", 67), 2, 66 * 14 + 12);
        fault(repeat("price 0 0 0 0;", 67), 2, 66 * 14 + 12);
    }

    private static void names() {
        fault("wire a;wire a;", 3, 12);
        fault("wire a;wire b;wire a;", 3, 19);
        right("gate a;wire a;gate a;");
        fault("wire a;gate a a;", 3, 14);
        fault("wire a;wire b;gate a b b;", 3, 23);
        fault("wire a;wire b;gate a b -b;", 3, 24);
        fault("wire a;wire b;gate a -b a;", 3, 24);
        fault("gate a;", 4, 5);
        fault("wire a;gate a b;", 4, 14);
        fault("wire a;gate a -b;", 4, 15);
        fault("gate b b;", 4, 5);
        fault("wire a;gate ab;", 4, 12);
        right("gate a b;wire b;wire a;");
    }

    private static void numbers() {
        fault("price 0 1 1 1;", 5, 6);
        fault("price 1 1 1 100;", 5, 12);
        fault("price 1 0 0 0;price 1 1 1 1;", 5, 8);
        fault("table 0 1 0;", 5, 6);
        fault("table 4 1 0;", 5, 6);
        fault("table 1 0 0 0;", 5, 8);
        fault("table 1 4 0 0;", 5, 8);
        fault("table 1 1 0 2;", 5, 12);
        fault("table 1 2 3 4;", 5, 12);
        fault("table 1 3 8 0;", 5, 10);
        fault("table 1 1 0;", 6, 11);
        fault("table 1 1 0 1 0;", 6, 15);
        fault("table 2 1 0 1 0 ;", 6, 16);
        fault("table 3 1 0 1 0 1 0 1 0;", 6, 23);
        fault("table 1 1 0 ;table 1 1 0 1;", 6, 12);
    }

    private static void firstFault() {
        fault("wire a;wire a;.", 1, 14);
        fault("price 0 1 1 1;" + repeat("gate a;", 17), 2, 14 + 112);
        fault("gate x;wire a;wire a;", 4, 5);
        fault("wire a;wire a;gate x;", 3, 12);
        fault("table 1 1 0;price 0 1 1 1;", 6, 11);
        fault("table 1 1 2;", 5, 10);
        fault("table 4 4 9;gate x;", 5, 6);
    }

    private static void nothingChanges() {
        BackLogic x = Check.told(ABCD + "gate a b;price 2 3 4 5;table 1 1 1 0;");
        x.put(1, 1, 0, 0);
        x.hold(2);
        CHECK.due("a fault", Check.read(x, "wire q;wire q;"), 3);
        CHECK.due("its place", x.place(), 12);
        CHECK.due("wires stay", x.count(0), 4);
        CHECK.due("gates stay", x.count(1), 2);
        CHECK.due("prices stay", x.count(12), 5);
        CHECK.due("table stays", x.table(0), 1);
        CHECK.due("slots stay", x.count(8), 1);
        CHECK.due("things done stay", x.count(7), 1);
        CHECK.due("tape goes", x.count(6), 0);
        CHECK.due("undo still", x.undo(), true);
        CHECK.due("restore still", x.restore(2), true);
    }

    private static void allIsReplaced() {
        BackLogic x = Check.told(ABCD + "gate a b;price 2 3 4 5;table 1 1 1 0;");
        x.put(1, 1, 0, 0);
        x.hold(1);
        Check.read(x, "wire q.");
        CHECK.due("a place", x.place(), 6);
        CHECK.due("read", Check.read(x, "wire q;"), 0);
        CHECK.due("no place", x.place(), -1);
        CHECK.due("wires", x.count(0), 1);
        CHECK.due("gates", x.count(1), 0);
        CHECK.due("first prices again 9", x.count(9), 1);
        CHECK.due("first prices again 10", x.count(10), 1);
        CHECK.due("first prices again 11", x.count(11), 5);
        CHECK.due("first prices again 12", x.count(12), 13);
        CHECK.due("no table", x.table(0), -1);
        CHECK.due("nothing held", x.count(8), 0);
        CHECK.due("no restore", x.restore(1), false);
        CHECK.due("nothing to undo", x.count(7), 0);
        CHECK.due("no undo", x.undo(), false);
        Check.read(x, "price 1 2 3 4;table 1 1 0 1;table 2 2 3 2 1 0;price 5 6 7 8;");
        CHECK.due("the last price", x.count(9), 5);
        CHECK.due("the last table", x.table(0), 2);
        CHECK.due("its values", x.laid(0), 3);
        CHECK.due("no wires", x.count(0), 0);
    }

    private static final String[] PIECES = {
        "wire", "gate", "price", "table", "a", "b", "c", "d", "e", "abcdefgh", "abcdefghi", "-", ";",
        "0", "1", "2", "3", "4", "7", "8", "99", "100", "9999", "00001", ".", "A", "\t", "\n", "\r",
        "\f", " ", "  ", "\u00ff", "\0", "z"
    };

    private static String line(Random random) {
        switch (random.nextInt(9)) {
            case 0:
            case 1:
                return "wire " + (char) ('a' + random.nextInt(5)) + ";";
            case 2:
                return "price " + random.nextInt(101) + " 5 " + (1 + random.nextInt(99)) + " 7;";
            case 3:
                int n = random.nextInt(12) == 0 ? random.nextInt(5) : 1 + random.nextInt(3);
                int m = random.nextInt(12) == 0 ? random.nextInt(5) : 1 + random.nextInt(3);
                int values = (1 << n) + (random.nextInt(8) == 0 ? random.nextInt(3) - 1 : 0);
                StringBuilder table = new StringBuilder("table " + n + " " + m);
                for (int i = 0; i < values; i++) {
                    table.append(" ").append(random.nextInt((1 << m) + (random.nextInt(40) == 0 ? 1 : 0)));
                }
                return table + ";";
            default:
                StringBuilder gate = new StringBuilder("gate " + (char) ('a' + random.nextInt(4)));
                int controls = random.nextInt(random.nextInt(10) == 0 ? 5 : 3);
                for (int i = 0; i < controls; i++) {
                    gate.append(random.nextBoolean() ? " " : "-").append((char) ('a' + random.nextInt(4)));
                }
                return gate + ";";
        }
    }

    private static String randomText(Random random) {
        StringBuilder text = new StringBuilder(random.nextInt(3) > 0 ? ABCD : "");
        int lines = random.nextInt(random.nextInt(20) == 0 ? 90 : 8);
        for (int i = 0; i < lines && text.length() < 1800; i++) {
            text.append(line(random));
        }
        for (int changes = random.nextInt(3); changes > 0; changes--) {
            int at = random.nextInt(text.length() + 1);
            int to = Math.min(text.length(), at + random.nextInt(4));
            text.replace(at, to, PIECES[random.nextInt(PIECES.length)]);
        }
        return text.toString();
    }

    private static void againstModel() {
        Random random = new Random(7);
        BackLogic x = new BackLogic();
        PlainModel y = new PlainModel();
        for (int i = 0; i < RANDOM_TEXTS; i++) {
            if (i % TEXTS_AN_OBJECT == 0) {
                x = new BackLogic();
                y = new PlainModel();
            }
            String text = randomText(random);
            Check.feedAll(x, text);
            for (int from = 0; from < text.length(); from += 20) {
                y.feed(Check.words(text, from));
            }
            y.back((20 - text.length() % 20) % 20);
            CHECK.due("random read of " + text, x.read(), y.read());
            CHECK.due("random place of " + text, x.place(), y.place());
            for (int what = 0; what <= 16; what++) {
                if (i % 8 == 0) {
                    CHECK.due("count " + what + " of " + text, x.count(what), y.count(what));
                }
            }
            CHECK.due("table of " + text, x.table(7), y.table(7));
        }
    }
}
