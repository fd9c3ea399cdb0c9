/** THE TAPE, TOKENS, FAULTS, what an E is; promises 4 to 7: each sentence that names a boundary. */
public final class TextBoundsTest {
    private static final int V = Bound.V, MIN = Bound.MIN, MAX = Bound.MAX;
    private static final String GOOD = "reads 1;holds 1;worth 1;";
    /** The greatest int, by numbers of four digits at most; one more of it is the least. */
    private static final String MOST = "4096*4096*127+4096*4095+4095";
    private static final String LEAST = "(" + MOST + "+1)";

    public static void main(String[] args) {
        tape();
        feedNumbers();
        words();
        numbers();
        signs();
        blanks();
        textForm();
        notForm();
        tooEarly();
        beginsNone();
        sixthOpen();
        openTill();
        firstFault();
        wraps();
        truth();
        texts();
        emptyThen();
        bounds();
        names();
        force();
        asks();
        Check.end();
    }

    // ---- THE TAPE

    private static OneReader tapeOf(int size) {
        OneReader x = new OneReader();
        Check.feed(x, " ".repeat(size));
        return x;
    }

    private static void tape() {
        Check.sentence("1 THE TAPE: 160 bytes at most; 4 FULL: they have not all room (none comes)");
        for (int n = 1; n <= 5; n++) {
            int many = n;
            for (int room = 0; room <= 6; room++) {
                int size = 160 - room;
                if (n <= room) {
                    OneReader x = tapeOf(size);
                    Check.due("feed(" + n + ", ..) at " + size, x.feed(n, 1, 1, 1, 1, 1), size + n);
                    Check.due("count(8)", x.count(8), size + n);
                } else {
                    Bound.unchanged(() -> tapeOf(160 - (many - 1)), -4, "feed", n, 1, 1, 1, 1, 1);
                    Bound.unchanged(() -> tapeOf(size), -4, "feed", n, 1, 1, 1, 1, 1);
                }
            }
        }
        OneReader x = tapeOf(136);
        Check.due("text() of 160 bytes", Check.text(x, GOOD), 1);
        OneReader y = tapeOf(137);
        Check.feed(y, GOOD);
        Check.due("count(8), the last four had no room", y.count(8), 157);
        Check.due("text() of what came, 'wort' being no KEY", y.text(), -253);
        Check.sentence("4 BAD ahead of FULL");
        Bound.unchanged(() -> tapeOf(160), -2, "feed", 1, 1, 1, 1, 1, 256);
        Bound.unchanged(() -> tapeOf(160), -2, "feed", 6, 1, 1, 1, 1, 1);
        Bound.unchanged(() -> tapeOf(160), -2, "feed", 0, 1, 1, 1, 1, 1);
    }

    private static void feedNumbers() {
        Check.sentence("4 n: 1 .. 5");
        Bound.call(Books::rich, "feed", V, 1, 1, 1, 1, 1).is(16, 1).is(17, 2).is(19, 4).is(20, 5)
            .unchanged(-2, 0, 6, -1, MIN, MAX);
        Check.sentence("4 five bytes (0 .. 255 each); BAD: any of the five");
        for (int n = 1; n <= 5; n += 4) {
            for (int i = 1; i <= 5; i++) {
                int[] args = {n, 1, 1, 1, 1, 1};
                args[i] = V;
                Bound.call(Books::rich, "feed", args).is(15 + n, 0, 1, 254, 255).unchanged(-2, -1, 256, MIN, MAX);
            }
        }
        Check.sentence("4 the first n of five bytes come behind, one by one");
        for (int n = 1; n <= 5; n++) {
            OneReader x = new OneReader();
            for (int i = 0; i < 24; i += n) {
                int[] b = {'$', '$', '$', '$', '$'};
                for (int k = 0; k < n && i + k < 24; k++) {
                    b[k] = GOOD.charAt(i + k);
                }
                x.feed(Math.min(n, 24 - i), b[0], b[1], b[2], b[3], b[4]);
            }
            Check.due("text(), fed by " + n, x.text(), 1);
        }
    }

    // ---- TOKENS

    private static void fault(String text, int place) {
        OneReader x = new OneReader();
        String call = "text() of '" + text + "'";
        Check.due(call, Check.text(x, text), -100 - place);
        Check.due("count(8) behind " + call, x.count(8), 0);
        Check.due("count(6) behind " + call, x.count(6), 1);
    }

    private static void good(String text) {
        OneReader x = new OneReader();
        String call = "text() of '" + text + "'";
        Check.due(call, Check.text(x, text), 1);
        Check.due("count(8) behind " + call, x.count(8), 0);
        Check.due("count(6) behind " + call, x.count(6), 2);
    }

    private static void goodE(String e) {
        good("reads " + e + ";holds 1;worth 1;");
    }

    private static void words() {
        Check.sentence("1 WORDS: as many letters a .. z as stand there");
        fault("reads a;", 6);
        fault("reads z;", 6);
        fault("reads `;", 6);
        fault("reads {;", 6);
        fault("reads A;", 6);
        fault("reads Z;", 6);
        fault("reads @;", 6);
        fault("reads [;", 6);
        fault("reads`1;", 5);
        fault("reads{1;", 5);
        fault("reads day`;", 9);
        fault("reads day{;", 9);
        fault("reads dayA;", 9);
        fault("rea ds 1;", 0);
        for (String letter : new String[] {"a", "b", "y", "z"}) {
            fault("reads day" + letter + ";", 6);
            fault("reads " + letter + "day;", 6);
            fault("reads" + letter + " 1;", 0);
        }
        good("reads1;holds1;worth1;");
        good("reads\nday;holds\nday;worth\nday;");
        goodE("1or day");
        fault("reads 1 orday;", 8);
        Check.sentence("1 FAULT: of a WORD that is neither KEY nor NAME");
        for (String name : new String[] {"day", "more", "pages", "entry", "words", "behind"}) {
            goodE(name);
            fault("reads " + name.substring(1) + ";", 6);
            fault("reads " + name.substring(0, name.length() - 1) + ";", 6);
            fault("reads " + name + "s;", 6);
            fault("reads s" + name + ";", 6);
            fault("reads " + name.charAt(0) + " ;", 6);
        }
        String[] keys = {"reads", "holds", "worth"};
        for (int i = 0; i < 3; i++) {
            String ahead = GOOD.substring(0, 8 * i);
            fault(ahead + keys[i].substring(1) + " 1;", 8 * i);
            fault(ahead + keys[i].substring(0, 4) + " 1;", 8 * i);
            fault(ahead + keys[i] + "s 1;", 8 * i);
            fault(ahead + keys[(i + 1) % 3] + " 1;", 8 * i);
            fault(ahead + keys[(i + 2) % 3] + " 1;", 8 * i);
        }
        for (String key : new String[] {"or", "and"}) {
            goodE("1 " + key + " 1");
            fault("reads 1 " + key.substring(1) + " 1;", 8);
            fault("reads 1 " + key.substring(0, key.length() - 1) + " 1;", 8);
            fault("reads 1 " + key + "s 1;", 8);
            fault("reads " + key + " 1;", 6);
        }
        goodE("not 1");
        fault("reads no 1;", 6);
        fault("reads ot 1;", 6);
        fault("reads nots 1;", 6);
        fault("reads 1 not 1;", 8);
    }

    private static void numbers() {
        Check.sentence("1 NUMBERS: as many digits as stand there; more than 4 are too long");
        goodE("0");
        goodE("999");
        goodE("0000");
        goodE("9999");
        fault("reads 00000;", 6);
        fault("reads 10000;", 6);
        fault("reads 99999;", 6);
        fault("reads 000001;", 6);
        fault("reads 12345678901234567890;", 6);
        fault("reads 1234 5;", 11);
        fault("reads 1234day;", 10);
        fault("reads 1+12345;", 8);
        fault("reads /;", 6);
        fault("reads :;", 6);
        fault("reads 1/;", 7);
        fault("reads 1:;", 7);
        Check.sentence("1 NUMBERS: of as many digits what they tell");
        value("worth", "0 + 7", 7);
        value("worth", "0007", 7);
        value("worth", "09", 9);
        value("worth", "90", 90);
        value("worth", "9999 - 9909", 90);
        value("worth", "1234 - 1200 = 34", 1);
    }

    private static void signs() {
        Check.sentence("1 SIGNS ( ) ; + - * < = ; blanks (32, 10); FAULT: a byte that begins none");
        String operators = "+-*<=";
        for (int b = 0; b < 256; b++) {
            String text = "reads 1 " + (char) b + "1;holds 1;worth 1;";
            if (operators.indexOf(b) >= 0) {
                good(text);
            } else {
                // behind a blank and behind a ; it is the 1 that can't stand there
                fault(text, b == 32 || b == 10 || b == ';' ? 9 : 8);
            }
        }
        goodE("(1)");
        fault("reads 1 ()", 8);
        fault("reads (1 ;", 9);
        fault("reads 1 );", 8);
        fault("reads (1));", 9);
    }

    private static void blanks() {
        Check.sentence("1 blanks (32, 10) may stand between");
        good("\n reads\n \n1 ; holds (\n1 )\n;worth\n-\n1\n\n ;\n ");
        good("reads(1);holds-1;worth not(1);");
        for (int b : new int[] {0, 9, 11, 12, 13, 31, 33, 127, 160, 255}) {
            fault("reads" + (char) b + "1;holds 1;worth 1;", 5);
            fault((char) b + GOOD, 0);
            fault(GOOD + (char) b, 24);
        }
    }

    // ---- TEXT, AND, NOT, SUM, TERM, ONE

    private static void textForm() {
        Check.sentence("1 TEXT: reads E ; holds E ; worth E ;");
        good(GOOD);
        fault(GOOD + ";", 24);
        fault(GOOD + "1", 24);
        fault(GOOD + "reads", 24);
        fault(";" + GOOD, 0);
        fault("1;", 0);
        fault("reads ;", 6);
        fault("reads 1 holds 1;", 8);
        fault("reads 1;;", 8);
        fault("reads 1;1;", 8);
        fault("reads 1;holds ;", 14);
        fault("reads 1;holds 1 worth 1;", 16);
        fault("reads 1;holds 1;worth ;", 22);
        Check.sentence("1 E, AND, SUM, TERM: one and { more }");
        for (String sign : new String[] {"or", "and", "+", "-", "*"}) {
            int size = sign.length();
            goodE("1");
            goodE("1 " + sign + " 1");
            goodE("1 " + sign + " 1 " + sign + " 1");
            fault("reads 1 " + sign + " ;", 9 + size);
            fault("reads 1 " + sign + " 1 " + sign + ";", 11 + 2 * size);
            fault("reads 1 " + sign + " * 1;", 9 + size);
        }
        Check.sentence("1 ONE: a NUMBER, a NAME, - ONE, ( E )");
        goodE("7");
        goodE("day");
        goodE("-7");
        goodE("-day");
        goodE("(7 or 7)");
        goodE("--(not 7)");
        fault("reads - ;", 8);
        fault("reads -not 1;", 7);
        fault("reads ();", 7);
        fault("reads (;", 7);
        fault("reads 1+reads;", 8);
        fault("reads 1+not 1;", 8);
        fault("reads 1*not 1;", 8);
        fault("reads 1+or;", 8);
    }

    private static void notForm() {
        Check.sentence("1 NOT: not NOT, or SUM, perhaps < or = and a SUM");
        for (char sign : new char[] {'<', '='}) {
            goodE("1" + sign + "1");
            goodE("1+1" + sign + "1*1");
            goodE("not 1" + sign + "1");
            goodE("not not 1" + sign + "1");
            goodE("(1" + sign + "1)" + sign + "1");
            goodE("1" + sign + "(1" + sign + "1)");
            goodE("1" + sign + "1 and 1" + sign + "1 or 1" + sign + "1");
            fault("reads 1" + sign + "1<1;", 9);
            fault("reads 1" + sign + "1=1;", 9);
            fault("reads 1" + sign + ";", 8);
            fault("reads " + sign + "1;", 6);
            fault("reads 1" + sign + sign + "1;", 8);
            fault("reads 1" + sign + "not 1;", 8);
        }
        goodE("1 and not 1");
        goodE("1 or not 1");
        fault("reads not;", 9);
        fault("reads not or 1;", 10);
    }

    // ---- FAULT

    private static void tooEarly() {
        Check.sentence("1 FAULT: the text's size, if it ends too early");
        // where a part of a WORD stands at the end it is no KEY, from its first byte on
        int[] due = {0, 0, 0, 0, 0, 5, 6, 7, 8, 8, 8, 8, 8, 13, 14, 15, 16, 16, 16, 16, 16, 21, 22, 23};
        for (int size = 0; size < 24; size++) {
            fault(GOOD.substring(0, size), due[size]);
        }
        good(GOOD);
        fault(" ", 1);
        fault("\n\n\n", 3);
        fault("reads 1;holds 1;worth 1 \n", 25);
        fault("reads 1+", 8);
        fault("reads (", 7);
        fault("reads (1", 8);
        fault("reads not", 9);
        fault("reads -", 7);
        fault("reads 1 <", 9);
        fault("reads " + "1+".repeat(76) + "1", 159);
        fault("reads " + "1+".repeat(77), 160);
        fault(" ".repeat(159), 159);
        fault(" ".repeat(160), 160);
    }

    private static void beginsNone() {
        Check.sentence("1 FAULT: the place of the first byte of the first TOKEN, 0 .. the tape's last");
        fault("$", 0);
        fault(" $", 1);
        fault(" ".repeat(159) + "$", 159);
        fault(" ".repeat(156) + "abcd", 156);
        fault(" ".repeat(155) + "12345", 155);
        fault(" ".repeat(159) + "1", 159);
        fault(GOOD + " ".repeat(135) + ";", 159);
        good(GOOD + " ".repeat(136));
        good(" ".repeat(136) + GOOD);
    }

    private static void sixthOpen() {
        Check.sentence("1 FAULT: a ( , a not, a - ahead of a ONE while 5 of these are open");
        String[] kinds = {"(", "not ", "-"};
        for (String outer : kinds) {
            for (String inner : kinds) {
                if (outer.equals("-") && inner.equals("not ")) {
                    continue;
                }
                String end4 = (outer.equals("(") ? "))))" : "") + ";holds 1;worth 1;";
                String end5 = (outer.equals("(") ? ")))))" : "") + ";holds 1;worth 1;";
                String close = inner.equals("(") ? ")" : "";
                good("reads " + outer.repeat(4) + inner + "1" + close + end4);
                good("reads " + outer.repeat(5) + "1" + end5);
                fault("reads " + outer.repeat(5) + inner + "1" + close + end5, 6 + 5 * outer.length());
                fault("reads " + outer.repeat(5) + inner, 6 + 5 * outer.length());
                fault("reads " + outer.repeat(4) + inner.repeat(2) + "1", 6 + 4 * outer.length() + inner.length());
            }
        }
        goodE("not(not(-1))");
        fault("reads not(not(-(1)));", 15);
        fault("reads (not(not(-1)));", 15);
        Check.sentence("1 FAULT: so in each of the three parts");
        fault("reads 1;holds ------1;", 19);
        fault("reads 1;holds 1;worth ------1;", 27);
        good("reads -----1;holds -----1;worth -----1;");
    }

    private static void openTill() {
        Check.sentence("1 FAULT: open are a ( till its )");
        goodE("(1)+(1)+(1)+(1)+(1)+(((((1)))))");
        goodE("((((1)))+(((1))))");
        goodE("((((1)+((2)))))");
        fault("reads ((((1)+(((2))))));", 15);
        fault("reads ((((1))+((((1))))));", 17);
        fault("reads (((((1+(1))))));", 13);
        Check.sentence("1 FAULT: open is a not till what it belongs to ends");
        goodE("not not not not not 1 and not not not not not 1 or not not not not not 1");
        goodE("not 1<----1");
        fault("reads not 1<-----1;", 16);
        goodE("not 1 and 1<-----1");
        goodE("not 1 or -----1");
        goodE("not ((((1)))) and (((((1)))))");
        fault("reads not (((((1)))));", 14);
        fault("reads not 1+(((((1)))));", 16);
        Check.sentence("1 FAULT: open is a - till what it belongs to ends");
        goodE("-1+-1*-1--1<-1 and -----1");
        goodE("-1+-----1");
        goodE("-1*-----1");
        goodE("-1*(((((1)))))");
        goodE("-((((1))))");
        fault("reads -(((((1)))));", 11);
        goodE("-(1+-(1+-1)*-1+-(1+-1))");
        fault("reads -(1+-(1+-1)*-1+-(1+-(1)));", 26);
        Check.sentence("1 FAULT: a - between two is none of these");
        goodE("(((((1-1-1)))))");
        goodE("-----1-1");
        fault("reads (((((1--1)))));", 13);
    }

    private static void firstFault() {
        Check.sentence("1 FAULT: the first TOKEN that can't stand there");
        fault("reads 1 ) $ 12345 x", 8);
        fault("reads 1 $ ) 12345 x", 8);
        fault("reads 12345 $ x )", 6);
        fault("reads x 12345 ) $", 6);
        fault("reads ((((((x", 11);
        fault("reads (((((x(", 11);
        fault("reads 1;holds 1;worth 1;$", 24);
        fault("$reads 1;holds 1;worth 1;$", 0);
        fault("reads 1;holds 1;worth 1;reads $", 24);
        fault("reads 1;holds 1;worth 1 $", 24);
    }

    // ---- what an E is

    private static void value(String part, String e, int due) {
        int which = part.equals("reads") ? 0 : part.equals("holds") ? 1 : 2;
        String[] parts = {"1", "1", "1"};
        parts[which] = e;
        OneReader x = Books.entriesUnder("reads " + parts[0] + ";holds " + parts[1] + ";worth " + parts[2] + ";", 1);
        Check.due(part + " " + e, x.asks(which, 0, 0, 0), due);
    }

    private static void wraps() {
        Check.sentence("1 An E is an int (32 bits, wrapping)");
        value("worth", MOST + " < 0", 0);
        value("worth", MOST + "-1 < " + MOST, 1);
        value("worth", LEAST + " < 0", 1);
        value("worth", LEAST + " < " + MOST, 1);
        value("worth", LEAST + "-1 = " + MOST, 1);
        value("worth", LEAST + "-1+1 = " + LEAST, 1);
        value("worth", "-(" + MOST + ")-1 = " + LEAST, 1);
        value("worth", "-" + LEAST + " = " + LEAST, 1);
        value("worth", LEAST + "*2", 0);
        value("worth", LEAST + "*3 = " + LEAST, 1);
        value("worth", "(" + MOST + ")*2 = -2", 1);
        value("worth", "4096*4096*256", 0);
        value("worth", "4096*4096*256+7", 7);
        value("worth", "4096*4096*255 = -4096*4096", 1);
        // 9999 to the 4th, modulo 2 to the 32nd
        value("worth", "9999*9999*9999*9999 = 4096*4096*64+4096*3830+2497", 1);
        value("worth", "5 - (4096*4096*128 - 4096*4096*384)", 5);
    }

    private static void truth() {
        Check.sentence("1 An E: of or, and, not, <, = 1 or 0");
        value("worth", "(7 or 8)+10", 11);
        value("worth", "(0 or 0)+10", 10);
        value("worth", "(7 and 8)+10", 11);
        value("worth", "(7 and 0)+10", 10);
        value("worth", "(not 7)+10", 10);
        value("worth", "(not 0)+10", 11);
        value("worth", "(7 < 8)+10", 11);
        value("worth", "(7 = 7)+10", 11);
        int[] numbers = {6, 7, 8};
        for (int v : numbers) {
            value("worth", v + " < 7", v == 6 ? 1 : 0);
            value("worth", "7 < " + v, v == 8 ? 1 : 0);
            value("worth", v + " = 7", v == 7 ? 1 : 0);
        }
        Check.sentence("1 An E: what is not 0 is true");
        String[] small = {"-1", "0", "1", "2", LEAST};
        for (String v : small) {
            int is = v.equals("0") ? 0 : 1;
            value("worth", "not " + v, 1 - is);
            value("worth", v + " and 1", is);
            value("worth", "1 and " + v, is);
            value("worth", v + " and 0", 0);
            value("worth", "0 and " + v, 0);
            value("worth", v + " or 0", is);
            value("worth", "0 or " + v, is);
            value("worth", v + " or 1", 1);
            value("worth", "1 or " + v, 1);
        }
        value("worth", "1 and 2", 1);
        value("worth", "4 and 3", 1);
    }

    // ---- TEXTS

    private static OneReader textsOf(int many) {
        OneReader x = Books.entries(1);
        for (int t = 1; t < many; t++) {
            Check.text(x, "reads 1;holds 1;worth " + t + ";");
        }
        return x;
    }

    private static void texts() {
        Check.sentence("1 TEXTS: from 0 on, 6 at most");
        for (int have = 1; have < 6; have++) {
            OneReader x = textsOf(have);
            Check.due("text() behind " + have, Check.text(x, GOOD), have);
            Check.due("count(6)", x.count(6), have + 1);
        }
        Check.sentence("5 FULL (ahead of the FAULT; then THE TAPE stays)");
        for (String text : new String[] {"", "$", GOOD, " ".repeat(160)}) {
            Bound.unchanged(() -> {
                OneReader x = textsOf(6);
                Check.feed(x, text);
                return x;
            }, -4, "text");
        }
        Check.sentence("1 TEXT 0, at first, and THE LAW: reads 10 ; holds 1 ; worth 5 + words ;");
        OneReader x = Books.entries(1);
        Check.due("count(6)", x.count(6), 1);
        Check.due("count(7)", x.count(7), 0);
        Check.due("asks(0, 0, 12, 999)", x.asks(0, 0, 12, 999), 10);
        Check.due("asks(1, 0, 0, 0)", x.asks(1, 0, 0, 0), 1);
        Check.due("asks(2, 0, 0, 0)", x.asks(2, 0, 0, 0), 5);
        Check.due("asks(2, 0, 1, 0)", x.asks(2, 0, 1, 0), 6);
        Check.due("asks(2, 0, 12, 999)", x.asks(2, 0, 12, 999), 17);
    }

    private static void emptyThen() {
        Check.sentence("5 THE TAPE, which is empty then (by a FAULT, too)");
        for (int fault = 0; fault < 2; fault++) {
            OneReader x = Books.rich();
            Check.due("text()", Check.text(x, fault == 0 ? ";worth 1;" : "$"), fault == 0 ? 2 : -115);
            Check.due("count(8)", x.count(8), 0);
            Check.due("count(6)", x.count(6), 3 - fault);
            Check.due("count(7), THE LAW stays", x.count(7), 1);
            Check.due("text() of nothing", x.text(), -100);
            Check.due("text() of what is fed behind", Check.text(x, GOOD), 3 - fault);
        }
        Check.sentence("5 what was open at a FAULT is open no more");
        OneReader deep = new OneReader();
        for (String open : new String[] {"(((((", "-----", "not not not not not"}) {
            Check.due("text() of reads " + open, Check.text(deep, "reads " + open), -106 - open.length());
        }
        Check.due("text(), five open in each part", Check.text(deep, "reads -----1;holds (((((1)))));worth -((((1))));"), 1);
        Check.sentence("5 -100 less the place of its FAULT: -100 .. -260");
        fault("", 0);
        fault("x", 0);
        fault(" ".repeat(160), 160);
    }

    private static void bounds() {
        Check.sentence("1 reads, worth 0 .. 99, else the bound");
        for (String part : new String[] {"reads", "worth"}) {
            value(part, LEAST, 0);
            value(part, "-2", 0);
            value(part, "-1", 0);
            value(part, "0", 0);
            value(part, "1", 1);
            value(part, "98", 98);
            value(part, "99", 99);
            value(part, "100", 99);
            value(part, "101", 99);
            value(part, MOST, 99);
        }
        Check.sentence("1 holds: 0 no, else yes");
        value("holds", "0", 0);
        value("holds", "1", 1);
        value("holds", "2", 1);
        value("holds", "-1", 1);
        value("holds", LEAST, 1);
        value("holds", MOST, 1);
        value("holds", "4096*4096*256", 0);
    }

    private static void names() {
        Check.sentence("1 NAMES: day: THE DAY");
        OneReader x = Books.pagesUnder("reads day; holds day; worth day - 950;", 50, 50);
        int[][] byDay = {{0, 0, 0, 0}, {1, 1, 1, 0}, {99, 99, 1, 0}, {100, 99, 1, 0}, {951, 99, 1, 1}, {999, 99, 1, 49}};
        for (int[] d : byDay) {
            x.set(1, d[0]);
            for (int part = 0; part < 3; part++) {
                Check.due("asks(" + part + ", 0, 0, 0), DAY " + d[0], x.asks(part, 0, 0, 0), d[1 + part]);
            }
        }
        x.set(1, 6);
        x.live();
        Check.due("count(2), as many as the DAY that began", x.count(2), 7);
        Check.sentence("1 NAMES: more: MORE; pages: LONG; entry: its number");
        OneReader y = Check.under("reads more; holds 1; worth pages;");
        OneReader z = Check.under("reads entry; holds entry; worth 1;");
        for (int w = 0; w < 12; w++) {
            y.word(w < 10 ? 20 + w : 50, w < 10 ? 1 + w : 60, -1);
            z.word(0, 1, -1);
            Check.due("asks(0, " + w + ", 0, 0), more", y.asks(0, w, 0, 0), w < 10 ? w : 0);
            Check.due("asks(2, " + w + ", 0, 0), pages", y.asks(2, w, 0, 0), w < 10 ? 1 + w : 60);
            Check.due("asks(0, " + w + ", 0, 0), entry", z.asks(0, w, 0, 0), w);
            Check.due("asks(1, " + w + ", 0, 0), entry", z.asks(1, w, 0, 0), w == 0 ? 0 : 1);
        }
        wordsAndBehind();
    }

    private static void wordsAndBehind() {
        Check.sentence("1 NAMES: words: of reads 0; behind: of reads and worth 0");
        OneReader x = Books.entriesUnder("reads 1+words+behind; holds 1; worth 3+behind;", 12);
        x.deed(1);
        for (int day = 1; day < 12; day++) {
            x.live();
            Check.due("count(2) on day " + day, x.count(2), day);
        }
        x.live();
        x.live();
        Check.due("done(1)", x.done(1), 3);
        Check.sentence("1 NAMES: words: of holds how many CAME (0 .. 12)");
        for (int came = 0; came <= 12; came++) {
            OneReader y = Books.entriesUnder("reads " + came + "; holds words = " + came + "; worth 1;", 12);
            y.live();
            Check.due("now(2), " + came + " CAME", y.now(2), (1 << came) - 1);
            OneReader less = Books.entriesUnder("reads " + came + "; holds words < " + came + "; worth 1;", 12);
            less.live();
            Check.due("now(2), no less than " + came, less.now(2), 0);
        }
        Check.sentence("1 NAMES: words: of worth how many the DEED needs (1 .. 12)");
        for (int many = 1; many <= 12; many++) {
            OneReader y = Books.entriesUnder("reads 12; holds 1; worth words;", 12);
            y.deed((1 << many) - 1);
            y.live();
            Check.due("done(1) of a DEED that needs " + many, y.done(1), many);
        }
    }

    // ---- promises 6, 7

    private static void force() {
        Check.sentence("6 A TEXT is THE LAW: which was. BAD");
        Bound.call(Books::rich, "force", V).is(1, 0, 1).unchanged(-2, -1, 2, MIN, MAX);
        Bound.call(Books::full, "force", V).is(0, 0, 1, 4, 5).unchanged(-2, -1, 6);
        Bound.call(OneReader::new, "force", V).is(0, 0).unchanged(-2, -1, 1);
        OneReader x = textsOf(6);
        for (int t = 5; t >= 0; t--) {
            Check.due("force(" + t + ")", x.force(t), t == 5 ? 0 : t + 1);
            Check.due("count(7)", x.count(7), t);
            Check.due("asks(2, 0, 0, 0)", x.asks(2, 0, 0, 0), t == 0 ? 5 : t);
        }
    }

    private static void asks() {
        Check.sentence("7 part: 0 reads, 1 holds, 2 worth");
        Bound.call(Books::rich, "asks", V, 0, 0, 0).unchanged(3, 0).unchanged(1, 1).unchanged(5, 2)
            .unchanged(-2, -1, 3, MIN, MAX);
        Check.sentence("7 an ENTRY");
        Bound.call(Books::rich, "asks", 0, V, 0, 0).unchanged(3, 0, 1, 2).unchanged(-2, -1, 3, MIN, MAX);
        Bound.call(Books::full, "asks", 0, V, 0, 0).unchanged(10, 0, 11).unchanged(-2, -1, 12);
        Bound.call(OneReader::new, "asks", 0, V, 0, 0).unchanged(-2, -1, 0);
        Check.sentence("7 words (many, 0 .. 12)");
        Bound.call(Books::rich, "asks", 2, 0, V, 0).unchanged(5, 0).unchanged(6, 1).unchanged(16, 11).unchanged(17, 12)
            .unchanged(-2, -1, 13, MIN, MAX);
        Bound.call(Books::rich, "asks", 0, 0, V, 0).unchanged(3, 0, 12).unchanged(-2, -1, 13);
        Check.sentence("7 behind (0 .. 999)");
        for (int part = 0; part < 3; part++) {
            int[] due = part == 1 ? new int[] {1, 0, 1} : new int[] {0, 93, 94};
            Bound.call(() -> Books.entriesUnder("reads behind-905; holds behind-998; worth behind-905;", 1),
                "asks", part, 0, 0, V).unchanged(due[0], 0, 1).unchanged(due[1], 998).unchanged(due[2], 999)
                .unchanged(-2, -1, 1000, MIN, MAX);
        }
        Check.sentence("7 words, behind as told, of each part");
        OneReader x = Books.entriesUnder("reads words*10+behind; holds words-behind; worth words+behind*10;", 1);
        Check.due("asks(0, 0, 4, 3)", x.asks(0, 0, 4, 3), 43);
        Check.due("asks(1, 0, 4, 3)", x.asks(1, 0, 4, 3), 1);
        Check.due("asks(1, 0, 3, 3)", x.asks(1, 0, 3, 3), 0);
        Check.due("asks(1, 0, 2, 3)", x.asks(1, 0, 2, 3), 1);
        Check.due("asks(2, 0, 4, 3)", x.asks(2, 0, 4, 3), 34);
    }
}
