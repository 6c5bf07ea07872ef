/**
 * Each sentence of the document about the tape and the text that names a boundary case, in the
 * order in which they stand there: Terms, then promises 2 to 5.
 */
public final class TextBoundaryTest {
    private static final int NONE = BackLogic.NONE;
    private static final int MOST_BYTES = 2000;
    private static final String ABCD = "wire a;wire b;wire c;wire d;";
    // Six tokens, fourteen bytes.
    private static final String PRICE = "price 1 1 1 1;";
    private static final String[] WORDS = {"wire", "gate", "price", "table"};
    private static final Check CHECK = new Check("TextBoundaryTest");

    public static void main(String[] args) {
        mostBytes();
        blanks();
        longestTokens();
        letters();
        lengthsOfNames();
        wordsAreNoNames();
        lengthsOfInts();
        signs();
        endInEachPlace();
        tokenInEachPlace();
        emptyTexts();
        mostWires();
        mostGates();
        mostControls();
        pricesWithin();
        tableWithin();
        valuesWithin();
        howManyValues();
        mostValues();
        mostTokens();
        firstByPlace();
        leastOfOnePlace();
        grammarAheadOfMeaning();
        twice();
        nameOfTheWholeText();
        valueNotAskedIfOutputsWrong();
        nothingLacksIfInputsWrong();
        lastPriceAndTable();
        faultChangesNothing();
        rightTextInPlaceOfTheOneAhead();
        feedInOrder();
        feedFull();
        backWithin();
        readEmptiesTheTape();
        placeOfTheLatest();
        CHECK.end();
    }

    private static void fault(String text, int number, int place) {
        BackLogic x = new BackLogic();
        String shown = text.length() > 60 ? text.substring(0, 60) + ".. (" + text.length() + ")" : text;
        CHECK.due("read of '" + shown + "'", Check.read(x, text), number);
        CHECK.due("place of '" + shown + "'", x.place(), place);
    }

    private static void right(String text) {
        fault(text, 0, NONE);
    }

    private static String blank(int bytes) {
        return " ".repeat(bytes);
    }

    private static boolean isBlank(int sign) {
        return sign == 9 || sign == 10 || sign == 13 || sign == 32;
    }

    private static boolean isLetter(int sign) {
        return sign >= 97 && sign <= 122;
    }

    private static boolean isDigit(int sign) {
        return sign >= 48 && sign <= 57;
    }

    /** "A TEXT has 2,000 bytes at most." */
    private static void mostBytes() {
        BackLogic x = new BackLogic();
        CHECK.due("2,000 bytes", Check.feedAll(x, blank(MOST_BYTES - 7) + "wire a;"), MOST_BYTES);
        CHECK.due("2,000 bytes read", x.read(), 0);
        CHECK.due("the last byte is read", x.count(0), 1);
        right(ABCD + blank(MOST_BYTES - ABCD.length()));
        fault(blank(MOST_BYTES - 1) + ".", 1, MOST_BYTES - 1);
        fault(blank(MOST_BYTES - 4) + "wire", 1, MOST_BYTES);
        fault("wire " + "a".repeat(MOST_BYTES - 5), 1, 5);
        fault("price " + "1".repeat(MOST_BYTES - 6), 1, 6);
    }

    /** "with blanks (9, 10, 13, 32) between": each byte there is, between a word and a name. */
    private static void blanks() {
        for (int sign = 0; sign < 256; sign++) {
            String text = "wire" + (char) sign + "a;";
            if (isBlank(sign)) {
                right(text);
            } else {
                fault(text, 1, isLetter(sign) ? 0 : 4);
            }
            if (isBlank(sign)) {
                right(String.valueOf((char) sign));
            } else {
                fault(String.valueOf((char) sign), 1, 0);
            }
        }
        right("\t\n\r wire\r\n\t a \t;\n\n");
    }

    /** "TOKENS, the longest that can be, with blanks .. between or not" */
    private static void longestTokens() {
        right("gate a-b-c-d;" + ABCD);
        right("price1 2 3 4;table1 1 0 1;");
        fault("wirea;", 1, 0);
        fault("gatea;wire a;", 1, 0);
        fault("wire a b;", 1, 7);
        right("wire ab;");
        fault("price 1 11;", 1, 10);
        fault("price 1 1 1 12;wire a", 1, 21);
        BackLogic x = Check.told("price 11 1 1 1;");
        CHECK.due("11 is one int", x.count(9), 11);
        fault("wire a1;", 1, 6);
        fault("price 1a 1 1 1;", 1, 7);
    }

    /** "NAMES (letters a .. z": each byte there is, where a name is due and in its middle. */
    private static void letters() {
        for (int sign = 0; sign < 256; sign++) {
            String text = "wire " + (char) sign + ";";
            String middle = "wire a" + (char) sign + "a;";
            if (isLetter(sign)) {
                right(text);
                right(middle);
            } else {
                fault(text, 1, isBlank(sign) ? 6 : 5);
                fault(middle, 1, isBlank(sign) || sign == ';' ? 7 : 6);
            }
        }
    }

    /** "8 at most", "A longer one .. is no TOKEN." */
    private static void lengthsOfNames() {
        for (int length = 1; length <= 30; length++) {
            String name = "z".repeat(length);
            if (length <= 8) {
                right("wire " + name + ";");
                right("gate " + name + ";wire " + name + ";");
            } else {
                fault("wire " + name + ";", 1, 5);
                fault("gate " + name + ";", 1, 5);
                fault("wire a;gate a " + name + ";", 1, 14);
                fault("wire a;gate a -" + name + ";", 1, 15);
                fault(name, 1, 0);
            }
        }
        right("wire abcdefgh;wire abcdefgi;wire abcdefg;wire bcdefgh;");
        fault("wire abcdefgh;wire abcdefgh;", 3, 19);
        right("wire a;wire aa;wire aaaaaaaa;wire z;gate a aa aaaaaaaa z;");
        fault("wire aaaaaaaa;gate aaaaaaa;", 4, 19);
        fault("wire azzzzzzz;gate bzzzzzzz;", 4, 19);
        // Names are alike only if all their letters are.
        for (char letter = 'a'; letter <= 'z'; letter++) {
            String one = String.valueOf(letter);
            right("wire " + one + ";wire " + one.repeat(2) + ";wire " + one.repeat(7) + ";wire " + one.repeat(8) + ";");
            fault("wire " + one.repeat(7) + ";gate " + one.repeat(8) + ";", 4, 18);
            if (letter < 'z') {
                right("wire " + one + "z;wire " + (char) (letter + 1) + "a;wire z" + one + ";");
            }
        }
    }

    /** "none of the words in quotes" */
    private static void wordsAreNoNames() {
        for (String word : WORDS) {
            fault("wire " + word + ";", 1, 5);
            fault("gate " + word + ";", 1, 5);
            fault("wire a;gate a " + word + ";", 1, 14);
            fault("wire a;gate a -" + word + ";", 1, 15);
            right("wire " + word + "s;wire x" + word + ";wire " + word.substring(1) + ";");
            right("wire " + word.substring(0, word.length() - 1) + ";");
        }
        fault("Wire a;", 1, 0);
    }

    /** "INTS (1 to 4 digits)", and each byte there is where an int is due. */
    private static void lengthsOfInts() {
        for (int length = 1; length <= 30; length++) {
            String one = "0".repeat(length - 1) + "1";
            if (length <= 4) {
                right("price 1 1 1 " + one + ";");
                right("table " + one + " " + one + " " + one + " " + one + ";");
            } else {
                fault("price 1 1 1 " + one + ";", 1, 12);
                fault("table " + one + " 1 0 0;", 1, 6);
                fault("table 1 " + one + " 0 0;", 1, 8);
                fault("table 1 1 0 " + one + ";", 1, 12);
                fault(one, 1, 0);
            }
        }
        fault("price 1 1 1 9999;", 5, 12);
        fault("price 1 1 1 10000;", 1, 12);
        for (int sign = 0; sign < 256; sign++) {
            String text = "price " + (char) sign + " 1 1 1;";
            if (isDigit(sign)) {
                fault(text, sign == '0' ? 5 : 0, sign == '0' ? 6 : NONE);
            } else {
                fault(text, 1, isBlank(sign) ? 13 : 6);
            }
        }
    }

    /** "SIGNS - ; . A longer one, all else, is no TOKEN.": each byte there is, at both signs' places. */
    private static void signs() {
        for (int sign = 0; sign < 256; sign++) {
            String close = "wire a" + (char) sign;
            boolean goesOn = sign == ';';
            boolean isLonger = isLetter(sign) || isBlank(sign);
            fault(close, goesOn ? 0 : 1, goesOn ? NONE : isLonger ? 7 : 6);
            String minus = "wire a;wire b;gate a" + (char) sign + "b;";
            if (sign == '-' || isBlank(sign)) {
                right(minus);
            } else if (isLetter(sign)) {
                fault(minus, 4, 19);
            } else {
                fault(minus, 1, sign == ';' ? 21 : 20);
            }
        }
    }

    private static final String[] WHOLE = {
        "wire", "a", ";", "wire", "b", ";", "gate", "a", "-", "b", ";", "gate", "b", "a", ";",
        "price", "1", "2", "3", "4", ";", "table", "1", "1", "0", "1", ";"
    };

    private static String wholeTo(int tokens) {
        return String.join(" ", java.util.Arrays.copyOf(WHOLE, tokens));
    }

    /** "(a byte; the text's end: its length)": the text ends behind each token. */
    private static void endInEachPlace() {
        for (int tokens = 1; tokens <= WHOLE.length; tokens++) {
            String text = wholeTo(tokens);
            for (int blanks = 0; blanks <= 3; blanks++) {
                String cut = text + "\n".repeat(blanks);
                if (text.endsWith(";")) {
                    right(cut);
                } else {
                    fault(cut, 1, cut.length());
                }
            }
        }
    }

    /** Which tokens a text goes on with behind each token: w g p t N I - ; */
    private static String goesOnWith(int tokens) {
        String[] behind = {
            "wgpt", "N", ";", "wgpt", "N", ";", "wgpt", "N", "N-;", "N", "N-;", "wgpt", "N", "N-;",
            "N-;", "wgpt", "I", "I", "I", "I", ";", "wgpt", "I", "I", "I", "I;", "I;", "wgpt"
        };
        return behind[tokens];
    }

    /** "1 SYNTAX: a TOKEN, or what is none, with which no text goes on.": each kind in each place. */
    private static void tokenInEachPlace() {
        String kinds = "wgptNI-;??";
        String[] tokens = {"wire", "gate", "price", "table", "c", "1", "-", ";", ".", "abcdefghi"};
        for (int ahead = 0; ahead <= WHOLE.length; ahead++) {
            String text = wholeTo(ahead) + " ";
            for (int k = 0; k < tokens.length; k++) {
                BackLogic x = new BackLogic();
                int number = Check.read(x, text + tokens[k] + " ");
                boolean isHere = number == 1 && x.place() == text.length();
                boolean goesOn = goesOnWith(ahead).indexOf(kinds.charAt(k)) >= 0;
                CHECK.due("'" + text + "' goes on with " + tokens[k], !isHere, goesOn);
            }
        }
    }

    /** "text: {TELL}." may be none at all. */
    private static void emptyTexts() {
        right("");
        right(" ");
        right("\t\n\r ");
        CHECK.due("no wires of an empty text", Check.told("").count(0), 0);
    }

    /** "WIRES, 4 at most, numbered from 0 on as they stand", "a 5th WIRE .. (at the line's first word)" */
    private static void mostWires() {
        for (int wires = 0; wires <= 4; wires++) {
            BackLogic x = Check.told(ABCD.substring(0, 7 * wires));
            CHECK.due("wires", x.count(0), wires);
        }
        BackLogic x = Check.told("wire d;wire c;gate d;wire b;gate c;wire a;gate b;gate a;");
        for (int wire = 0; wire < 4; wire++) {
            CHECK.due("wires as they stand", x.gate(wire, 0), wire);
        }
        fault(ABCD + "wire e;", 2, 28);
        fault(ABCD + " \n wire e;", 2, 31);
        fault(ABCD + "gate a;wire e;", 2, 35);
        fault("wire a;" + PRICE + "wire b;gate a;wire c;wire d;gate b;wire e;", 2, 56);
        fault(ABCD + "wire a;", 2, 28);
        fault(ABCD + "wire", 2, 28);
        fault(ABCD + "wire .", 2, 28);
        fault(ABCD + "wire e;wire f;", 2, 28);
    }

    /** "GATES, 16 at most, in a row as they stand, numbered from 0 on", "a 17th GATE" */
    private static void mostGates() {
        String sixteen = "gate a;gate b;gate c;gate d;".repeat(4);
        BackLogic x = Check.told(ABCD + sixteen);
        CHECK.due("sixteen gates", x.count(1), 16);
        for (int gate = 0; gate < 16; gate++) {
            CHECK.due("gates as they stand", x.gate(gate, 0), gate % 4);
        }
        BackLogic early = Check.told("gate c;gate a;wire a;wire b;wire c;gate b;");
        for (int gate = 0; gate < 3; gate++) {
            CHECK.due("gates ahead of their wires", early.gate(gate, 0), (gate + 2) % 3);
        }
        CHECK.due("fifteen gates", Check.told(ABCD + sixteen.substring(7)).count(1), 15);
        fault(ABCD + sixteen + "gate a;", 2, 28 + 112);
        fault(ABCD + sixteen + PRICE + " gate a;", 2, 28 + 112 + 15);
        fault(sixteen + "gate", 2, 112);
        fault(sixteen + "gate ;", 2, 112);
        fault(sixteen + ABCD + "gate a;", 2, 112 + 28);
    }

    /** "a 4th CONTROL .. (at it; .. of a CONTROL at its - or NAME)" */
    private static void mostControls() {
        BackLogic x = Check.told(ABCD + "gate a b c d;gate b -a -c -d;gate c a -b d;");
        CHECK.due("three controls ON", x.gate(0, 1), 14);
        CHECK.due("three controls OFF", x.gate(1, 2), 13);
        CHECK.due("nine controls", x.count(13), 9);
        CHECK.due("no controls", Check.told("wire a;gate a;").count(13), 0);
        fault("gate a b c d e;", 2, 13);
        fault("gate a b c d a;", 2, 13);
        fault("gate a -b -c -d e;", 2, 16);
        fault("gate a b c d -e;", 2, 13);
        fault("gate a b c d  - e;", 2, 14);
        fault("gate a b c d -;", 2, 13);
        fault("gate a -b -c -d", 1, 15);
        fault("gate a b c d;gate a b c d e;", 2, 26);
    }

    /** "PRICE .. (1 .. 99": "5 WRONG: (at the INT) a PRICE not 1 .. 99", in each of the four places. */
    private static void pricesWithin() {
        String[] rightOnes = {"1", "2", "98", "99", "01", "0099", "0001"};
        String[] wrongOnes = {"0", "00", "0000", "100", "0100", "101", "999", "9999"};
        for (int at = 0; at < 4; at++) {
            for (String price : rightOnes) {
                BackLogic x = Check.told(priceText(at, price));
                CHECK.due("price " + price, x.count(9 + at), Integer.parseInt(price));
            }
            for (String price : wrongOnes) {
                fault(priceText(at, price), 5, 6 + 2 * at);
            }
        }
        fault("price 100 0 100 0;", 5, 6);
        fault("price 1 0 100 0;", 5, 8);
    }

    private static String priceText(int at, String price) {
        String[] prices = {"1", "1", "1", "1"};
        prices[at] = price;
        return "price " + String.join(" ", prices) + ";";
    }

    private static String tableText(int n, int m, int values, int value) {
        return "table " + n + " " + m + (" " + value).repeat(values) + ";";
    }

    /** "n INPUTS (the first INT, 1 .. 3) m OUTPUTS (the second one, 1 .. 3)" */
    private static void tableWithin() {
        for (int n = 1; n <= 3; n++) {
            for (int m = 1; m <= 3; m++) {
                BackLogic x = Check.told(tableText(n, m, 1 << n, 0));
                CHECK.due("inputs", x.table(0), n);
                CHECK.due("outputs", x.table(1), m);
            }
        }
        for (int wrong : new int[] {0, 4, 5, 8, 10, 33, 257, 9999}) {
            for (int values = 1; values <= 8; values++) {
                fault(tableText(wrong, 1, values, 0), 5, 6);
                fault(tableText(1, wrong, values, 0), 5, 8);
                fault(tableText(wrong, wrong, values, 9), 5, 6);
            }
        }
        CHECK.due("no table at first", new BackLogic().table(0), NONE);
    }

    /** "values (0 .. 2 to the m less 1)", in each place that a value can have */
    private static void valuesWithin() {
        for (int m = 1; m <= 3; m++) {
            int most = (1 << m) - 1;
            for (int n = 1; n <= 3; n++) {
                for (int at = 0; at < 1 << n; at++) {
                    String ahead = "table " + n + " " + m + " 0".repeat(at) + " ";
                    String behind = " 0".repeat((1 << n) - 1 - at) + ";";
                    BackLogic x = Check.told(ahead + most + behind);
                    CHECK.due("the greatest value", x.laid(at), most);
                    fault(ahead + (most + 1) + behind, 5, ahead.length());
                    fault(ahead + 9999 + behind, 5, ahead.length());
                }
            }
        }
    }

    /** "then the 2 to the n values", "6 LACKS: (at the ; of 'table') not 2 to the n values" */
    private static void howManyValues() {
        fault("table 1 1;", 1, 9);
        for (int n = 1; n <= 3; n++) {
            for (int values = 1; values <= 8; values++) {
                String text = tableText(n, 1, values, 1);
                if (values == 1 << n) {
                    right(text);
                } else {
                    fault(text, 6, text.length() - 1);
                    fault("wire a;" + text.replace(";", " \n;") + "wire b;", 6, 7 + text.length() + 1);
                }
            }
        }
    }

    /** "a 9th value (at it" */
    private static void mostValues() {
        right(tableText(3, 1, 8, 0) + tableText(3, 1, 8, 0));
        for (int n = 0; n <= 4; n++) {
            fault(tableText(n, 1, 9, 0), 2, 26);
            fault(tableText(n, 1, 10, 0), 2, 26);
        }
        fault("table 3 1 0 0 0 0 0 0 0 0  0;", 2, 27);
        fault("table 3 1 0 0 0 0 0 0 0 0 9999", 2, 26);
        fault("table 3 1 0 0 0 0 0 0 0 0 10000;", 1, 26);
    }

    /** "2 ROOM: a 401st TOKEN" */
    private static void mostTokens() {
        String tokens396 = PRICE.repeat(66);
        String tokens399 = tokens396 + "wire a;";
        String tokens400 = PRICE.repeat(65) + "wire a;wire b;gate a b;";
        right(tokens399);
        right(tokens400);
        right(tokens400 + " \n\t ");
        fault(tokens400 + "price", 2, tokens400.length());
        fault(tokens400 + "  wire c;", 2, tokens400.length() + 2);
        fault(tokens399 + "wire b;", 2, tokens399.length() + 5);
        fault(tokens396 + "gate a-b;", 2, tokens396.length() + 8);
        fault(tokens396 + "gate a-b c;", 2, tokens396.length() + 9);
        fault(tokens396 + "gate a b - c;", 2, tokens396.length() + 11);
        fault(tokens396 + "price 1 1 1 1;", 2, tokens396.length() + 12);
        fault(tokens396 + "table 1 1 0 0;", 2, tokens396.length() + 12);
        fault(PRICE.repeat(142), 2, 66 * 14 + 12);
    }

    /** "FAULTS of a text, the first by its place" */
    private static void firstByPlace() {
        fault("wire a;wire a;gate x;price 0 1 1 1;table 1 1 0;", 3, 12);
        fault("gate x;wire a;wire a;price 0 1 1 1;table 1 1 0;", 4, 5);
        fault("price 0 1 1 1;gate x;wire a;wire a;table 1 1 0;", 5, 6);
        fault("table 1 1 0;price 0 1 1 1;gate x;wire a;wire a;", 6, 11);
        fault("table 1 1 2;", 5, 10);
        fault("wire a;gate a a x;", 3, 14);
        fault("wire a;gate a x a;", 4, 14);
        fault("gate a b c d e;.", 2, 13);
        fault(".gate a b c d e;", 1, 0);
        fault("gate a 1 b c d e;", 1, 7);
        fault("table 1 1 0 0 0 0 0 0 0 0 0 0;" + ABCD + "wire e;", 2, 26);
    }

    /** "of one place the least": what no text goes on with, as a 401st token, control or value. */
    private static void leastOfOnePlace() {
        String tokens399 = PRICE.repeat(66) + "wire a;";
        fault(tokens399 + "wire ;", 1, tokens399.length() + 5);
        fault(tokens399 + "wire 1", 1, tokens399.length() + 5);
        fault(tokens399 + "wire wire", 1, tokens399.length() + 5);
        fault(tokens399 + "wire .", 1, tokens399.length() + 5);
        fault(tokens399 + "wire ", 1, tokens399.length() + 5);
        fault("gate a b c d 1;", 1, 13);
        fault("gate a b c d abcdefghi;", 1, 13);
        fault("gate a b c d gate;", 1, 13);
        fault("table 3 1 0 0 0 0 0 0 0 0 a;", 1, 26);
        fault("table 3 1 0 0 0 0 0 0 0 0 -1;", 1, 26);
        // A name twice that is no wire: its first place is ahead of the second one.
        fault("gate x x;", 4, 5);
    }

    /** "If there is none, likewise": 3 to 6 only where there is neither 1 nor 2, however far behind. */
    private static void grammarAheadOfMeaning() {
        String[] meant = {"wire q;wire q;", "gate x;", "price 0 1 1 1;", "table 1 1 0;"};
        int[] numbers = {3, 4, 5, 6};
        for (int i = 0; i < meant.length; i++) {
            BackLogic x = new BackLogic();
            CHECK.due("alone", Check.read(x, meant[i]), numbers[i]);
            fault(meant[i] + ".", 1, meant[i].length());
            fault(meant[i] + "gate a b c d e;", 2, meant[i].length() + 13);
        }
        fault("price 0 1 1 1;".repeat(67), 2, 66 * 14 + 12);
    }

    /** "3 TWICE: (at it) a WIRE's NAME that an earlier line has told; a NAME in a GATE that it has already." */
    private static void twice() {
        fault("wire a;wire a;", 3, 12);
        fault("wire a;wire b;wire b;", 3, 19);
        fault("wire a;wire b;wire c;wire  a;", 3, 27);
        fault("wire a;wire a;wire a;", 3, 12);
        right("gate a;wire a;");
        right("wire a;gate a;gate a;");
        right("wire a;wire b;gate a b;gate a b;gate b a;");
        fault("wire a;gate a a;", 3, 14);
        fault("wire a;gate a -a;", 3, 15);
        fault("wire a;gate a - a;", 3, 16);
        fault("wire a;wire b;gate a b b;", 3, 23);
        fault("wire a;wire b;gate a b -b;", 3, 24);
        fault("wire a;wire b;gate a -b b;", 3, 24);
        fault("wire a;wire b;gate a b a;", 3, 23);
        fault(ABCD + "gate a b c b;", 3, 39);
        fault("gate a a;wire a;", 3, 7);
    }

    /** "4 NAME: (at it) in a GATE no WIRE of the whole text." */
    private static void nameOfTheWholeText() {
        right("gate a b c d;" + ABCD);
        right("wire a;gate a b;wire b;");
        fault("gate a b c d;" + ABCD.substring(7), 4, 5);
        fault("gate a b c d;" + ABCD.substring(0, 21), 4, 11);
        fault("wire a;gate a -b;", 4, 15);
        fault("wire a;gate a - b;", 4, 16);
        fault("wire a;gate b;gate c;", 4, 12);
        fault("wire a;gate aa;", 4, 12);
        // The wires of the text ahead are no wires of this one.
        BackLogic x = Check.told("wire a;");
        CHECK.due("a wire of the text ahead", Check.read(x, "gate a;"), 4);
    }

    /** "(a value is not asked if m is wrong)": the place is m's, nothing is told of its values. */
    private static void valueNotAskedIfOutputsWrong() {
        fault("table 1 0 0 0;", 5, 8);
        fault("table 1 0 9 9;", 5, 8);
        fault("table 1 4 9999 9999;", 5, 8);
        fault("table 1 4 9;", 5, 8);
        fault("table 1 4 9;wire a;wire a;", 5, 8);
    }

    /** "(nothing, if n is wrong)": the place is n's, nothing is told of how many there are. */
    private static void nothingLacksIfInputsWrong() {
        fault("table 0 1 0;", 5, 6);
        fault("table 0 1 0 0;", 5, 6);
        fault("table 4 1 0;", 5, 6);
        fault("table 4 1 0 0 0 0 0 0 0 0;", 5, 6);
        fault("table 0 1 2;", 5, 6);
    }

    /** "(.. at first 1, 1, 5, 13): the last one", "TABLE (none at first; the last one)" */
    private static void lastPriceAndTable() {
        BackLogic x = Check.told("wire a;");
        int[] first = {1, 1, 5, 13};
        for (int controls = 0; controls < 4; controls++) {
            CHECK.due("price at first", new BackLogic().count(9 + controls), first[controls]);
            CHECK.due("price of no text", x.count(9 + controls), first[controls]);
        }
        x = Check.told("price 2 3 4 5;price 99 1 98 2;table 1 1 0 1;table 3 2 0 1 2 3 0 1 2 3;table 2 1 1 0 0 1;");
        int[] last = {99, 1, 98, 2};
        for (int controls = 0; controls < 4; controls++) {
            CHECK.due("the last price", x.count(9 + controls), last[controls]);
        }
        CHECK.due("the last table's inputs", x.table(0), 2);
        CHECK.due("the last table's outputs", x.table(1), 1);
        CHECK.due("the last table's value", x.laid(0), 1);
        // An earlier one that is wrong is a fault all the same.
        fault("price 0 1 1 1;" + PRICE, 5, 6);
        fault("table 1 1 0;table 1 1 0 1;", 6, 11);
    }

    /** Wires, gates, prices, a table, things to undo, slots. */
    private static BackLogic rich() {
        BackLogic x = Check.told("wire a;wire b;wire c;gate a b;gate b -c;price 2 3 4 5;table 1 2 3 0;");
        x.hold(0);
        x.put(1, 2, 1, 2);
        x.hold(2);
        x.take(0);
        x.swap(0);
        x.become(3);
        return x;
    }

    /** "A text with a FAULT changes nothing but the tape": each of the six faults. */
    private static void faultChangesNothing() {
        String[] texts = {
            "wire q;gate q;price 9 9 9 9;table 1 1 0 0;.", ABCD + "wire e;", "wire q;wire q;",
            "wire q;gate r;", "wire q;price 7 7 7 0;", "price 7 7 7 7;table 2 1 0;"
        };
        for (int i = 0; i < texts.length; i++) {
            String text = texts[i];
            BackLogic x = rich();
            CHECK.due("fault", Check.read(x, text), i + 1);
            CHECK.due("the tape is empty", x.count(6), 0);
            // The twin heard a fault, too, of the same place, and nothing else.
            BackLogic twin = rich();
            Check.read(twin, " ".repeat(x.place()) + ".");
            Twins.same(CHECK, "fault " + (i + 1), x, twin);
        }
    }

    /** "else it is in place of the one ahead; nothing can be undone, SLOTS hold nothing." */
    private static void rightTextInPlaceOfTheOneAhead() {
        String[] texts = {"", " ", "wire a;", ABCD + "gate a b;", "price 9 9 9 9;", "table 1 1 0 1;"};
        for (String text : texts) {
            BackLogic x = rich();
            CHECK.due("right", Check.read(x, text), 0);
            CHECK.due("nothing to undo", x.count(7), 0);
            CHECK.due("nothing held", x.count(8), 0);
            for (int slot = 0; slot < 3; slot++) {
                CHECK.due("no like", x.like(slot), NONE);
                CHECK.due("no off", x.off(slot), NONE);
            }
            Twins.same(CHECK, "in place: '" + text + "'", x, Check.told(text));
        }
    }

    /** "Twenty bytes, the highest of a first, come behind the tape: how many it has." */
    private static void feedInOrder() {
        for (int at = 0; at < 20; at++) {
            for (int sign : new int[] {0, 46, 127, 128, 255}) {
                int[] w = Check.words(blank(at) + (char) sign, 0);
                BackLogic x = new BackLogic();
                CHECK.due("twenty", x.feed(w[0], w[1], w[2], w[3], w[4]), 20);
                CHECK.due("a byte that is no token", x.read(), 1);
                CHECK.due("its place", x.place(), at);
            }
        }
        BackLogic x = new BackLogic();
        int blank = 0x20202020;
        x.feed(blank, blank, blank, blank, blank);
        CHECK.due("behind the tape", x.feed(-1, -1, -1, -1, -1), 40);
        CHECK.due("behind the tape is read", x.read(), 1);
        CHECK.due("behind the tape its place", x.place(), 20);
    }

    /** A tape of so many blanks. */
    private static BackLogic tapeOf(int bytes) {
        BackLogic x = new BackLogic();
        Check.feedAll(x, blank(bytes));
        return x;
    }

    /** "NONE, and nothing comes, if it would have more than 2,000." */
    private static void feedFull() {
        int dots = 0x2e2e2e2e;
        CHECK.due("feed with 20 left", tapeOf(1980).feed(dots, dots, dots, dots, dots), 2000);
        CHECK.due("feed with 21 left", tapeOf(1979).feed(dots, dots, dots, dots, dots), 1999);
        for (int bytes : new int[] {1981, 1990, 1999, 2000}) {
            CHECK.due("feed with fewer left", tapeOf(bytes).feed(dots, dots, dots, dots, dots), NONE);
            Twins.nothingHappens(CHECK, "feed on " + bytes, () -> tapeOf(bytes),
                x -> x.feed(dots, dots, dots, dots, dots));
        }
        BackLogic x = tapeOf(2000);
        x.feed(dots, dots, dots, dots, dots);
        x.back(20);
        CHECK.due("feed again behind back", x.feed(dots, dots, dots, dots, dots), 2000);
    }

    /** "The last n bytes of the tape go", "NONE, and nothing goes, if it has not so many, or n is below 0." */
    private static void backWithin() {
        for (int bytes : new int[] {0, 1, 19, 20, 40, 1999, 2000}) {
            CHECK.due("back 0", tapeOf(bytes).back(0), bytes);
            CHECK.due("back all", tapeOf(bytes).back(bytes), 0);
            int[] refused = {bytes + 1, 2001, -1, -20, Integer.MIN_VALUE, Integer.MAX_VALUE};
            for (int n : refused) {
                CHECK.due("back " + n + " of " + bytes, tapeOf(bytes).back(n), NONE);
                Twins.nothingHappens(CHECK, "back " + n, () -> tapeOf(bytes), x -> x.back(n));
            }
        }
        BackLogic x = new BackLogic();
        Check.feedAll(x, "wire a;wire b;....");
        CHECK.due("the last go", x.back(4), 14);
        CHECK.due("the first stay", x.read(), 0);
        CHECK.due("both wires", x.count(0), 2);
    }

    /** "The tape, which is empty then, is read: 0, or the number of its FAULT." */
    private static void readEmptiesTheTape() {
        BackLogic x = new BackLogic();
        CHECK.due("read of an empty tape", x.read(), 0);
        CHECK.due("a fault", Check.read(x, "wire a;wire"), 1);
        CHECK.due("empty behind a fault", x.count(6), 0);
        CHECK.due("nothing of it is left", Check.read(x, "wire b;"), 0);
        CHECK.due("empty behind a right text", x.count(6), 0);
        CHECK.due("one wire", x.count(0), 1);
        CHECK.due("an empty text is one, too", x.read(), 0);
        CHECK.due("it has no wires", x.count(0), 0);
        CHECK.due("back on the empty tape", x.back(1), NONE);
    }

    /** "The byte of the latest read()'s FAULT; NONE without." */
    private static void placeOfTheLatest() {
        BackLogic x = new BackLogic();
        CHECK.due("no read yet", x.place(), NONE);
        Check.read(x, ".");
        CHECK.due("place 0", x.place(), 0);
        Check.feedAll(x, "wire a;");
        x.back(2);
        CHECK.due("the tape changes no place", x.place(), 0);
        x.read();
        CHECK.due("the latest", x.place(), 5);
        CHECK.due("once more", x.place(), 5);
        Check.read(x, "wire a;");
        CHECK.due("NONE without", x.place(), NONE);
        x.put(0, 5, 5, 5);
        CHECK.due("what is refused is no fault", x.place(), NONE);
        Check.read(x, "table 1 1 0;");
        CHECK.due("a fault of the meaning", x.place(), 11);
        x.read();
        CHECK.due("NONE behind an empty text", x.place(), NONE);
    }
}
