/** Promises 8 to 10, THE TAPE, TEXTS and FAULTS: each sentence that names an edge, and each refused call. */
public final class EdgesTextsTest {
    private static final int MIN = Checks.MIN, MAX = Checks.MAX;
    private static final String PLAIN = Checks.PLAIN;
    private static final String BEGINNERS = "abcdefghijklmnopqrstuvwxyz0123456789();+-*<= \n";

    public static void main(String[] args) {
        feed();
        texts();
        tape();
        tokens();
        grammar();
        open();
        openMixed();
        values();
        namesOfThrees();
        namesOfPairs();
        namesOfGuests();
        bounds();
        force();
        Checks.end();
    }

    private static void due(String call, long got, long want) {
        Checks.due(call, got, want);
    }

    /** What a new object answers of that TEXT; it has been read, or the place of its FAULT is due. */
    private static void fault(String words, int place) {
        ThreesAtTable x = new ThreesAtTable();
        due("'" + words + "'", Checks.read(x, words), -100 - place);
        due("no text by a fault", x.count(4), 1);
        due("the tape is empty by a fault", x.count(5), 0);
        due("the rule stays", x.count(6), 0);
    }

    private static void good(String words) {
        ThreesAtTable x = new ThreesAtTable();
        due("'" + words + "'", Checks.read(x, words), 1);
        due("texts", x.count(4), 2);
        due("the tape is empty", x.count(5), 0);
    }

    /** An E in each of the three parts, one by one. */
    private static void goodPart(String e) {
        good("counts " + e + ";costs 1;joy 1;");
        good("counts 1;costs " + e + ";joy 1;");
        good("counts 1;costs 1;joy " + e + ";");
    }

    /** A FAULT at that place of an E, in each of the three parts. */
    private static void faultPart(String e, int place) {
        fault("counts " + e + ";costs 1;joy 1;", 7 + place);
        fault("counts 1;costs " + e + ";joy 1;", 15 + place);
        fault("counts 1;costs 1;joy " + e + ";", 21 + place);
    }

    private static String many(String words, int times) {
        return words.repeat(times);
    }

    // ---- 8: feed

    private static ThreesAtTable fullTape() {
        ThreesAtTable x = Checks.rich();
        Checks.feed(x, many(" ", 160 - x.count(5)));
        due("the tape is full", x.count(5), 160);
        return x;
    }

    private static void feed() {
        Checks.sentence("8: bytes from 0 to 255, how many THE TAPE has", () -> {
            for (int letter = 0; letter <= 255; letter++) due("feed " + letter, new ThreesAtTable().feed(letter), 1);
            ThreesAtTable x = new ThreesAtTable();
            for (int at = 1; at <= 160; at++) {
                due("feed", x.feed(at == 160 ? 255 : 0), at);
                due("count", x.count(5), at);
            }
        });
        Checks.sentence("8: FULL behind 160; nothing changes", () -> {
            Checks.refused(EdgesTextsTest::fullTape, "feed a full tape", Checks.FULL, x -> x.feed(32), x -> x.feed(0), x -> x.feed(255));
            ThreesAtTable x = new ThreesAtTable();
            Checks.feed(x, PLAIN);
            Checks.feed(x, many("\n", 160 - PLAIN.length()));
            due("what does not come", x.feed('?'), Checks.FULL);
            due("is not read", x.text(), 1);
        });
        Checks.sentence("8: BAD below 0, above 255; nothing changes", () -> {
            Checks.refused("feed", Checks.BAD, x -> x.feed(-1), x -> x.feed(256), x -> x.feed(MIN), x -> x.feed(MAX), x -> x.feed(256 + 'a'));
            ThreesAtTable x = new ThreesAtTable();
            Checks.feed(x, "counts 1;costs 1;joy 1");
            due("none such", x.feed(-1), Checks.BAD);
            x.feed(';');
            due("it did not come", x.text(), 1);
        });
        Checks.sentence("8: BAD ahead of FULL", () ->
            Checks.refused(EdgesTextsTest::fullTape, "no byte, and full", Checks.BAD, x -> x.feed(-1), x -> x.feed(256), x -> x.feed(MIN)));
        Checks.sentence("8: THE TAPE has room again behind text()", () -> {
            ThreesAtTable x = fullTape();
            due("a fault", x.text(), -100);
            due("feed", x.feed(99), 1);
        });
    }

    // ---- 9: text

    private static ThreesAtTable fullTexts() {
        ThreesAtTable x = Checks.rich();
        x.text();
        while (x.count(4) < 6) Checks.read(x, PLAIN);
        Checks.feed(x, "counts");
        return x;
    }

    private static void texts() {
        Checks.sentence("9: 6 TEXTS at most, TEXT 0 with them", () -> {
            ThreesAtTable x = new ThreesAtTable();
            for (int text = 1; text <= 5; text++) {
                due("its number", Checks.read(x, "counts 1;costs 1;joy " + text + ";"), text);
                due("texts", x.count(4), text + 1);
            }
            for (int text = 1; text <= 5; text++) {
                x.force(text);
                due("the text " + text, x.guest(0, 2), text);
            }
            Checks.feed(x, PLAIN);
            due("no more", x.text(), Checks.FULL);
            due("texts", x.count(4), 6);
        });
        Checks.sentence("9: FULL (ahead of all): THE TAPE stays; nothing changes", () -> {
            Checks.refused(EdgesTextsTest::fullTexts, "text", Checks.FULL, x -> x.text(), x -> x.text());
            ThreesAtTable x = fullTexts();
            due("bytes stay", x.feed('?'), 7);
            due("ahead of a fault", x.text(), Checks.FULL);
            due("bytes stay", x.count(5), 7);
        });
        Checks.sentence("9: FULL ahead of the FAULT of an empty TAPE", () -> {
            ThreesAtTable x = new ThreesAtTable();
            for (int text = 1; text <= 5; text++) Checks.read(x, PLAIN);
            due("tape", x.count(5), 0);
            due("text", x.text(), Checks.FULL);
        });
        Checks.sentence("9: a FAULT takes no TEXT's room", () -> {
            ThreesAtTable x = new ThreesAtTable();
            for (int fault = 0; fault < 8; fault++) due("fault", Checks.read(x, "counts ;"), -107);
            due("texts", x.count(4), 1);
            due("its number", Checks.read(x, PLAIN), 1);
        });
        Checks.sentence("9: THE TAPE is empty then, by a FAULT too", () -> {
            ThreesAtTable x = new ThreesAtTable();
            due("fault", Checks.read(x, "counts 1;costs 1;joy 1"), -122);
            due("tape", x.count(5), 0);
            due("what was fed is gone", Checks.read(x, ";"), -100);
            due("text", Checks.read(x, PLAIN), 1);
            due("tape", x.count(5), 0);
            due("an empty tape's fault", x.text(), -100);
        });
        Checks.sentence("9: reading changes neither THE RULE nor the table", () -> {
            ThreesAtTable x = Checks.strangers(3);
            due("text", Checks.read(x, "counts 0;costs 0;joy 0;"), 1);
            due("rule", x.count(6), 0);
            due("threes", x.threes(2), 1);
            due("joy", x.guest(0, 2), 5);
        });
        Checks.sentence("9: nothing is left of the texts and FAULTS ahead", () -> {
            String longest = "counts1;costs1;joy" + many("1+", 70) + "1";
            ThreesAtTable x = Checks.strangers(1);
            for (int time = 0; time < 2; time++) due("a fault at its end", Checks.read(x, longest + "?"), -100 - 159);
            due("a text", Checks.read(x, "counts 0 or (0 or (0 or 0));costs 0 or 0;joy 2*(2+(3*2-1));"), 1);
            x.force(1);
            due("joy", x.guest(0, 2), 14);
        });
        Checks.sentence("9: nothing is left of the TEXTS ahead: six of them", () -> {
            ThreesAtTable x = Checks.strangers(3);
            for (int text = 1; text <= 5; text++) due("text", Checks.read(x, "counts " + many("1+", 20) + "1;costs " + text + ";joy 1+2*(3+" + text + ");"), text);
            for (int text = 1; text <= 5; text++) {
                x.force(text);
                due("joy", x.guest(0, 2), 7 + 2 * text);
                due("costs", x.noneLeft(2), text);
            }
        });
        Checks.sentence("9: a TEXT is not changed by one that is read behind it", () -> {
            ThreesAtTable x = Checks.ruled(Checks.strangers(3), "counts one+other+third-3;costs one*10+other;joy 3*one+2;");
            Checks.read(x, "counts 1 and 1 and 1 or 0;costs 1+2+3+4+5;joy 6*6*6*6;");
            Checks.read(x, "counts 7;costs (");
            due("joy", x.guest(2, 2), 8);
            due("counts", x.threes(2), 0);
            x.force(0);
            x.force(1);
            due("joy again", x.guest(1, 2), 5);
        });
    }

    // ---- THE TAPE

    private static void tape() {
        Checks.sentence("TEXT: an empty TAPE ends too early, at 0", () -> fault("", 0));
        Checks.sentence("TEXT: blanks alone end too early, at the text's size", () -> {
            fault(" ", 1);
            fault("\n \n", 3);
            fault(many(" ", 160), 160);
        });
        Checks.sentence("TEXT: the shortest, without a blank", () -> {
            good("counts1;costs1;joy1;");
            for (int size = 0; size < 20; size++) fault("counts1;costs1;joy1;".substring(0, size), cut(size));
        });
        Checks.sentence("TEXT: the longest, all 160 bytes", () -> {
            good(PLAIN + many(" ", 160 - PLAIN.length()));
            good(many("\n", 160 - PLAIN.length()) + PLAIN);
            good("counts " + many("1+", 68) + "1;costs 1;joy 1;");
            fault("counts 1;costs 1;joy " + many("1*", 69) + "1", 160);
            fault(PLAIN + many(" ", 159 - PLAIN.length()) + ";", 159);
            fault(many(" ", 159) + "?", 159);
            fault("counts " + many("(", 5) + many("1 ", 74), 14);
        });
        Checks.sentence("TEXT: more than 160 bytes: what did not come is not read", () -> {
            ThreesAtTable x = new ThreesAtTable();
            due("cut at 160", Checks.read(x, many(" ", 160 - PLAIN.length()) + PLAIN + ";"), 1);
            due("cut ahead of its end", Checks.read(x, many(" ", 161 - PLAIN.length()) + PLAIN), -260);
        });
        Checks.sentence("the longest TEXT is kept whole", () -> {
            String longest = "counts1;costs1;joy" + many("1+", 70) + "1;";
            due("bytes", longest.length(), 160);
            due("joy", Checks.ruled(Checks.strangers(1), longest).guest(0, 2), 71);
        });
    }

    /** The place of the FAULT of the first bytes of "counts1;costs1;joy1;". */
    private static int cut(int size) {
        int[] begins = {0, 6, 7, 8, 13, 14, 15, 18, 19, 20};
        String[] tokens = {"counts", "1", ";", "costs", "1", ";", "joy", "1", ";"};
        for (int at = 0; at < tokens.length; at++) {
            boolean halfWord = begins[at] < size && size < begins[at + 1];
            if (halfWord) return begins[at];
        }
        return size;
    }

    // ---- TOKENS

    private static void tokens() {
        Checks.sentence("TOKENS: each as long as can be: WORDS", () -> {
            fault("countscosts 1;", 0);
            fault("counts oneone;", 7);
            fault("counts one other;", 11);
            fault("counts nota;", 7);
            fault("counts 1 orone;", 9);
            fault("counts andone;", 7);
            goodPart("1 or not one");
            goodPart("1or not 1");
            goodPart("not(1)and not(1)");
        });
        Checks.sentence("a WORD that is neither KEY nor NAME", () -> {
            String[] words = {"a", "z", "on", "ones", "onf", "othe", "others", "thir", "thirdd", "kno", "knows", "see", "seem", "man",
                "manys", "nots", "no", "o", "ors", "an", "ands", "joyy", "jo", "cost", "count", "many".repeat(30)};
            for (String word : words) faultPartOnce(word);
        });
        Checks.sentence("a WORD of which one letter is another one, or one is behind it or ahead of it", () -> {
            String[] words = {"one", "other", "third", "know", "seen", "many", "counts", "costs", "joy", "or", "and", "not"};
            for (String word : words) {
                for (int at = 0; at < word.length(); at++) {
                    for (char letter : new char[] {'a', 'z', (char) (word.charAt(at) == 'z' ? 'y' : word.charAt(at) + 1)}) {
                        if (letter != word.charAt(at)) faultPartOnce(word.substring(0, at) + letter + word.substring(at + 1));
                    }
                }
                for (String letter : new String[] {"a", "m", "z"}) {
                    faultPartOnce(word + letter);
                    faultPartOnce(letter + word);
                }
            }
        });
        Checks.sentence("a WORD of letters A to Z: bytes that begin none", () -> {
            fault("Counts 1;", 0);
            fault("counts oNe;", 7);
            fault("counts One;", 7);
            fault("counts on\u00e9;", 7);
        });
        Checks.sentence("NUMBERS of 1 digit, of 4", () -> {
            for (String number : new String[] {"0", "9", "00", "000", "0000", "9999", "1000", "0001"}) goodPart(number);
        });
        Checks.sentence("a NUMBER that is too long: its first byte", () -> {
            for (String number : new String[] {"00000", "00001", "10000", "99999", "123456", "4294967297", many("1", 90), many("0", 90)}) {
                faultPartOnce(number);
            }
            fault("counts 1+12345;", 9);
            fault("counts 1;costs 1;joy 1;12345", 23);
            fault("12345", 0);
            fault("counts 1 12345", 9);
        });
        Checks.sentence("a NUMBER next to a WORD: two TOKENS", () -> {
            fault("counts 1one;", 8);
            fault("counts one1;", 10);
            fault("counts 1234a;", 11);
            goodPart("1or 2");
            goodPart("1or2and 3");
        });
        Checks.sentence("SIGNS ( ) ; + - * < =, each where it may stand", () -> {
            goodPart("(1)");
            goodPart("1+1");
            goodPart("1-1");
            goodPart("1*1");
            goodPart("1<1");
            goodPart("1=1");
            goodPart("-1");
        });
        Checks.sentence("blanks 32 and 10 may stand between, as many as one likes", () -> {
            good("counts\n1\n;\ncosts\n1\n;\njoy\n1\n;\n");
            good("  counts  (  1  +  -  1  )  ;  costs  1  <  1  ;  joy  not  1  ;  ");
            good("counts 1 ;\n\n \n costs 1 ; joy 1 ;\n");
        });
        Checks.sentence("blanks part WORDS and NUMBERS", () -> {
            fault("cou nts 1;", 0);
            fault("counts 1 2;", 9);
            fault("counts o ne;", 7);
            fault("counts 12 34;", 10);
            fault("counts < =;", 7);
        });
        Checks.sentence("a byte that begins none, each of them, at each kind of place", () -> {
            for (char sign = 0; sign < 256; sign++) {
                if (BEGINNERS.indexOf(sign) >= 0) continue;
                fault(sign + PLAIN, 0);
                fault("counts " + sign + "1;", 7);
                fault("counts 1" + sign + ";", 8);
                fault(PLAIN + sign, 23);
                fault(PLAIN + " " + sign, 24);
            }
        });
        Checks.sentence("bytes that are next to those that begin a TOKEN", () -> {
            for (char sign : new char[] {'`', '{', '/', ':', '\'', ',', '.', '>', 9, 11, 13, 31, 33, 0, 127, 160}) faultPart("1" + sign, 1);
        });
        Checks.sentence("the first TOKEN that can't stand there, not one behind it", () -> {
            fault("counts 1 1 ?", 9);
            fault("costs ?", 0);
            fault("counts ; 12345", 7);
            fault("counts 1 = 1 = ((((((1", 13);
            fault("counts ? 1 1", 7);
        });
    }

    private static void faultPartOnce(String word) {
        fault("counts " + word + ";", 7);
        fault(word + ";", 0);
        fault("counts 1 " + word + ";", 9);
    }

    // ---- E, AND, NOT, SUM, TERM, ONE

    private static void grammar() {
        Checks.sentence("TEXT: counts, costs, joy, in that order, each once", () -> {
            for (String word : new String[] {"costs", "joy", "one", "or", "and", "not", "1", "(", ")", ";", "+", "-", "*", "<", "="}) {
                fault(word, 0);
                if (!word.equals("costs")) fault("counts 1;" + word, 9);
                if (!word.equals("joy")) fault("counts 1;costs 1;" + word, 17);
                fault(PLAIN + word, 23);
            }
            fault("counts", 6);
            fault("counts ", 7);
            fault("counts 1", 8);
            fault("counts 1;", 9);
            fault("counts 1;counts", 9);
            fault("counts 1;costs 1;costs", 17);
            fault(PLAIN + "counts 1;", 23);
        });
        Checks.sentence("where a ONE is due nothing else stands", () -> {
            for (String ahead : new String[] {"", "1 or ", "1 and ", "not ", "1 < ", "1 = ", "1 + ", "1 - ", "1 * ", "- ", "( "}) {
                for (String word : new String[] {")", ";", "+", "*", "<", "=", "or", "and", "counts", "costs", "joy", "nor", "?", "10000"}) {
                    fault("counts " + ahead + word + " 1;", 7 + ahead.length());
                }
                fault("counts " + ahead, 7 + ahead.length());
            }
        });
        Checks.sentence("where a ONE may stand: a NUMBER, a NAME, - ONE, ( E )", () -> {
            for (String ahead : new String[] {"", "1 or ", "1 and ", "not ", "1 < ", "1 = ", "1 + ", "1 - ", "1 * ", "- ", "( "}) {
                String end = ahead.equals("( ") ? ")" : "";
                for (String one : new String[] {"7", "one", "other", "third", "know", "seen", "many", "-7", "- one", "(7)", "(not 7)", "(1 or 2)"}) {
                    goodPart(ahead + one + end);
                }
            }
        });
        Checks.sentence("behind a ONE: none of these", () -> {
            for (String word : new String[] {"1", "one", "not", "(", "counts", "costs", "joy", "A"}) {
                for (String one : new String[] {"1 ", "one ", "-1 ", "(1) ", "1 < 1 ", "1 + 1 ", "1 * 1 ", "not 1 ", "1 or 1 ", "1 and 1 "}) {
                    fault("counts " + one + word, 7 + one.length());
                }
            }
        });
        Checks.sentence("not: ahead of a NOT alone, not within a SUM", () -> {
            goodPart("not 1");
            goodPart("not not 1");
            goodPart("1 or not 1 and not 1");
            goodPart("(not 1) + (not 1)");
            for (String ahead : new String[] {"1 < ", "1 = ", "1 + ", "1 - ", "1 * ", "- ", "not - ", "not 1 < "}) fault("counts " + ahead + "not 1;", 7 + ahead.length());
        });
        Checks.sentence("perhaps < or = and a SUM: once for each SUM", () -> {
            for (String signs : new String[] {"<<", "<=", "=<", "=="}) {
                fault("counts 1" + signs.charAt(0) + "2" + signs.charAt(1) + "3;", 10);
                fault("counts 1" + signs + "3;", 9);
                goodPart("(1" + signs.charAt(0) + "2)" + signs.charAt(1) + "3");
                goodPart("1" + signs.charAt(0) + "2 and 1" + signs.charAt(1) + "3");
                goodPart("1" + signs.charAt(0) + "2 or not 1" + signs.charAt(1) + "3");
            }
        });
        Checks.sentence("( E ): its ) is due, and no other one", () -> {
            faultPart("(1", 2);
            faultPart("1)", 1);
            faultPart("(1))", 3);
            faultPart("((1)", 4);
            faultPart("()", 1);
            faultPart(")", 0);
            fault("counts (1", 9);
            fault("counts (1 ", 10);
            goodPart("(1 or 1)");
            goodPart("((1))");
        });
        Checks.sentence("{ }: none of these more, or many", () -> {
            goodPart("1 or 1 or 1 or 1 or 1");
            goodPart("1 and 1 and 1 and 1");
            goodPart("1+1-1+1-1");
            goodPart("1*1*1*1");
            goodPart("1*1+1*1<1*1-1 and 1 or 1");
        });
    }

    // ---- what is open

    private static void open() {
        Checks.sentence("5 of these open: ( alone, not alone, - alone", () -> {
            for (int open = 1; open <= 5; open++) {
                goodPart(many("(", open) + "1" + many(")", open));
                goodPart(many("not ", open) + "1");
                goodPart(many("-", open) + "1");
            }
        });
        Checks.sentence("the sixth: its place", () -> {
            faultPart(many("(", 6) + "1" + many(")", 6), 5);
            faultPart(many("not ", 6) + "1", 20);
            faultPart(many("-", 6) + "1", 5);
            faultPart(many("(", 40), 5);
            fault("counts " + many("not ", 30), 27);
            fault("counts " + many("-", 150), 12);
        });
        Checks.sentence("a ( till its )", () -> {
            goodPart("(((((1)))))+(((((1)))))");
            goodPart("((((1)+(1))+(1))+(1))+(1)");
            goodPart("((((1)+(1)+((1)))))");
            goodPart("((((1)+((1)))))");
            faultPart("((((1)+(((1))))))", 9);
            faultPart("(((((1))+((1))", 14);
            faultPart("(((((1)+(1)))+((((1", 17);
        });
        Checks.sentence("a not till what it belongs to ends: behind < and = too", () -> {
            faultPart("not not not not not 1 < (1)", 24);
            faultPart("not not not not not 1 = -1", 24);
            faultPart("not not not not not 1 + 1 * (1)", 28);
            faultPart("not not not not not 1 * -1", 24);
            goodPart("not not not not 1 < (1)");
            goodPart("not not not not 1 = -1");
        });
        Checks.sentence("a not ends ahead of and, or, ), ;", () -> {
            goodPart("not not not not not 1 and (((((1)))))");
            goodPart("not not not not not 1 or -----1");
            goodPart("(not not not not 1) < (not not not not 1)");
            goodPart("not 1 and not 1 and not 1 and not 1 and not 1 and not 1 or not 1");
            good("counts not not not not not 1;costs not not not not not 1;joy not not not not not 1;");
        });
        Checks.sentence("a - ahead of a ONE till that ONE ends", () -> {
            goodPart("-----1*-----1");
            goodPart("-----1+-----1");
            goodPart("-----1 < -----1");
            goodPart("-(1)-(1)-(1)-(1)-(1)-(1)-(1)");
            goodPart("-((-(1)))");
            faultPart("-((-((1))))", 5);
            faultPart("-(1-(1-(1", 9);
        });
        Checks.sentence("a - between TERMS is not open, nor counts while 5 are", () -> {
            goodPart("1-1-1-1-1-1-1-1");
            goodPart("(((((1-1-1)))))");
            goodPart("not not not not not 1-1-1");
            goodPart("-----1-1");
            faultPart("(((((1--1)))))", 7);
            goodPart("-----1------1");
            faultPart("-----1-------1", 12);
        });
        Checks.sentence("open are those of all sorts together, of E within E", () -> {
            goodPart("not(not(-1))");
            faultPart("not(not(-(1)))", 9);
            goodPart("not(not(not 1))");
            faultPart("not(not(not(1)))", 11);
            faultPart("not(not(not -1))", 12);
        });
    }

    /** All rows of (, not and - (a not stands not behind a -): five of them may be open, a sixth not. */
    private static void openMixed() {
        Checks.sentence("a (, a not, a - ahead of a ONE while 5 of these are open: all rows of them", () -> rows("", "", 0));
    }

    private static void rows(String row, String closing, int open) {
        if (open == 5) {
            good("counts " + row + "1" + closing + ";costs 1;joy 1;");
            for (String sixth : new String[] {"(", "-", "not "}) fault("counts " + row + sixth + "1", 7 + row.length());
            return;
        }
        rows(row + "(", ")" + closing, open + 1);
        rows(row + "-", closing, open + 1);
        if (!row.endsWith("-")) rows(row + "not ", closing, open + 1);
    }

    // ---- what an E is

    /** What an E is, which joy shows. */
    private static void value(String e, int want) {
        String is = want < 0 ? "(" + e + ")=-" + -want : "(" + e + ")=" + want;
        ThreesAtTable x = Checks.ruled(Checks.strangers(3), "counts 1;costs 1;joy " + is + ";");
        due(is, x.guest(0, 2), 1);
    }

    private static void truth(String e, boolean want) {
        ThreesAtTable x = Checks.ruled(Checks.strangers(3), "counts 1;costs 1;joy " + e + ";");
        due(e, x.guest(0, 2), want ? 1 : 0);
    }

    private static void values() {
        Checks.sentence("an E is an int of 32 bits, wrapping", () -> {
            // 4096 * 4096 * 128 is 2 to the 31st.
            truth("4096*4096*128<0", true);
            truth("4096*4096*128-1<0", false);
            truth("4096*4096*128-1=-1-4096*4096*128", true);
            truth("4096*4096*127+4096*4095+4095+1<0", true);
            truth("-(4096*4096*128)<0", true);
            truth("-(4096*4096*128)=4096*4096*128", true);
            truth("4096*4096*256=0", true);
            truth("4096*4096*256+1=1", true);
            truth("-(4096*4096*128)-1<0", false);
            truth("9999*9999*9999*9999=" + inParts(9999 * 9999 * 9999 * 9999), true);
            truth("4096*4096*128<4096*4096*128-1", true);
        });
        Checks.sentence("or, and, not, <, = are 1 or 0; what is not 0 is true", () -> {
            String[] trues = {"1", "7", "(-1)", "9999", "(4096*4096*128)"};
            for (String is : trues) {
                value(is + " or 0", 1);
                value("0 or " + is, 1);
                value(is + " or " + is, 1);
                value(is + " and " + is, 1);
                value(is + " and 0", 0);
                value("0 and " + is, 0);
                value("not " + is, 0);
                value("not not " + is, 1);
            }
            value("0 or 0", 0);
            value("0 and 0", 0);
            value("not 0", 1);
            value("not not 0", 0);
            value("4096*4096*256 or 0", 0);
        });
        Checks.sentence("<: less, not alike; =: alike alone", () -> {
            int[][] pairs = {{0, 0}, {0, 1}, {1, 0}, {9998, 9999}, {9999, 9999}, {9999, 9998}};
            for (int[] p : pairs) {
                value(p[0] + "<" + p[1], p[0] < p[1] ? 1 : 0);
                value(p[0] + "=" + p[1], p[0] == p[1] ? 1 : 0);
                value("-" + p[0] + "<-" + p[1], -p[0] < -p[1] ? 1 : 0);
                value("-" + p[0] + "=" + p[1], p[0] == 0 && p[1] == 0 ? 1 : 0);
            }
        });
        Checks.sentence("+ - *: one behind the other, * ahead of + and -, - ahead of a ONE first", () -> {
            value("1-2-3", -4);
            value("1-2+3", 2);
            value("1-(2+3)", -4);
            value("2+3*4", 14);
            value("2*3+4", 10);
            value("2*3*4", 24);
            value("-2*3", -6);
            value("-2*-3", 6);
            value("-2+3", 1);
            value("2--3", 5);
            value("---3", -3);
            value("-(2-3)", 1);
            value("0*9999", 0);
            value("9999*9999-9999*9998", 9999);
        });
        Checks.sentence("and ahead of or, not ahead of and, < and = behind + and -, within not", () -> {
            value("1 or 0 and 0", 1);
            value("(1 or 0) and 0", 0);
            value("0 and 0 or 1", 1);
            value("not 1 or 1", 1);
            value("not (1 or 1)", 0);
            value("not 0 and 0", 0);
            value("not 1 = 0", 1);
            value("(not 1) = 0", 1);
            value("not 2 = 1", 1);
            value("(not 2) = 1", 0);
            value("not 3 + 1", 0);
            value("(not 3) + 1", 1);
            value("1 + 1 < 1 + 2", 1);
            value("1 < 2 + 3", 1);
            value("(1 < 2) + 3", 4);
            value("2 = 1 + 1", 1);
        });
        Checks.sentence("an E without or, and, not, <, = is its number", () -> {
            value("7", 7);
            value("(7)", 7);
            value("7 + 0", 7);
            value("9999", 9999);
            value("0009", 9);
        });
        Checks.sentence("the deepest E of all: 5 ( and in each of them all that can wait", () -> {
            String deep = "1";
            for (int level = 0; level < 5; level++) deep = "(0 or 1 and 2<1+2*" + deep + ")";
            ThreesAtTable x = Checks.ruled(Checks.strangers(3), "counts 1;costs 1;joy 0 or 1 and 2<1+2*" + deep + ";");
            due("deep", x.guest(0, 2), 1);
            String turned = "0";
            for (int level = 0; level < 5; level++) turned = "(0 or 1 and 5<3+2*" + turned + ")";
            x = Checks.ruled(Checks.strangers(3), "counts 1;costs 1;joy 0 or 1 and 5<3+2*" + turned + ";");
            due("turned", x.guest(0, 2), 0);
        });
    }

    /** A number of a TEXT has four digits at most, so it is told in parts. */
    private static String inParts(int value) {
        long from0 = value < 0 ? value + (1L << 32) : value;
        return "4096*4096*" + (from0 >> 24) + "+4096*" + (from0 >> 12 & 4095) + "+" + (from0 & 4095);
    }

    private static void namesOfThrees() {
        Checks.sentence("of a three: one, other, third: their numbers, i below j below k", () -> {
            for (String three : new String[] {"012", "016", "056", "123", "246", "456"}) {
                char[] g = three.toCharArray();
                String words = "counts one=" + g[0] + " and other=" + g[1] + " and third=" + g[2] + ";costs 1;joy 1;";
                ThreesAtTable x = Checks.ruled(Checks.strangers(7), words);
                due("that one alone " + three, x.threes(1), 1);
                due("first", x.threes(3), Integer.parseInt(three));
            }
        });
        Checks.sentence("of a three: know: how many pairs know one another; seen: how many are LOOKED at; many: GUESTS", () -> {
            for (int n = 3; n <= 7; n++) {
                due("friends", Checks.ruled(Checks.friends(n), "counts know=3 and seen=3 and many=" + n + ";costs 1;joy 1;").threes(0), threes(n));
                due("strangers", Checks.ruled(Checks.strangers(n), "counts know=0 and seen=3 and many=" + n + ";costs 1;joy 1;").threes(1), threes(n));
                due("not so many", Checks.ruled(Checks.strangers(n), "counts many=" + (n + 1) + " or many=" + (n - 1) + ";costs 1;joy 1;").threes(2), 0);
            }
        });
        Checks.sentence("counts: not 0", () -> {
            String[] counts = {"0", "1", "-1", "2", "9999", "4096*4096*128", "4096*4096*256", "1-1", "not 1"};
            int[] due = {0, 1, 1, 1, 1, 1, 0, 0, 0};
            for (int at = 0; at < counts.length; at++) {
                due("counts " + counts[at], Checks.ruled(Checks.strangers(3), "counts " + counts[at] + ";costs 1;joy 1;").threes(2), due[at]);
                due("counts " + counts[at], Checks.ruled(Checks.friends(3), "counts " + counts[at] + ";costs 1;joy 1;").threes(2), due[at]);
            }
        });
    }

    private static int threes(int n) {
        return n * (n - 1) * (n - 2) / 6;
    }

    private static void namesOfPairs() {
        Checks.sentence("of a pair: one, other, third 0; know 1 or 0; seen 1 of those LOOKED at; many", () -> {
            String words = "counts third=6;costs one*10+other+third*99+know*3+seen*5+many;joy 1;";
            // 0 and 6 are in no THREE but 0 1 6: its pairs are 01, 06, 16.
            ThreesAtTable x = Checks.ruled(Checks.table(7, "01 06 16", "26 36 46 56"), words);
            due("friends", x.noneLeft(2), 1 + 3 + 5 + 7);
            x = Checks.ruled(Checks.table(7, "", "26 36 46 56"), words);
            due("strangers", x.noneLeft(2), 1 + 5 + 7);
            due("third is 0", Checks.ruled(Checks.strangers(3), "counts 1;costs third=0;joy 1;").noneLeft(2), 1);
            due("many is 4", Checks.ruled(Checks.strangers(4), "counts third=3 and other=2 and one;costs many;joy 1;").noneLeft(2), 4);
        });
    }

    private static void namesOfGuests() {
        Checks.sentence("of a guest: one; other, third, seen 0; know: how many the guest knows; many", () -> {
            String words = "counts 1;costs 1;joy one*10+other*50+third*50+seen*50+know*3+many;";
            for (int n = 1; n <= 7; n++) {
                ThreesAtTable x = Checks.ruled(Checks.strangers(n), words);
                for (int guest = 0; guest < n; guest++) due("joy of " + guest, x.guest(guest, 2), 10 * guest + n);
                x = Checks.ruled(Checks.friends(n), words);
                for (int guest = 0; guest < n; guest++) due("joy of " + guest, x.guest(guest, 2), 10 * guest + 3 * (n - 1) + n);
            }
            due("not looked at is not known", Checks.ruled(Checks.table(7, "01", "02 03"), words).guest(0, 2), 3 + 7);
        });
    }

    private static void bounds() {
        String[] values = {"-1", "0", "1", "98", "99", "100", "9999", "-9999", "4096*4096*128", "4096*4096*128-1"};
        int[] bounded = {0, 0, 1, 98, 99, 99, 99, 0, 0, 99};
        Checks.sentence("joy: 0 to 99, else the bound", () -> {
            for (int at = 0; at < values.length; at++) {
                due("joy " + values[at], Checks.ruled(Checks.strangers(1), "counts 1;costs 1;joy " + values[at] + ";").guest(0, 2), bounded[at]);
                due("joys together", Checks.ruled(Checks.strangers(2), "counts 1;costs 1;joy " + values[at] + ";").home(2), 2 * bounded[at]);
            }
        });
        Checks.sentence("costs: 0 to 99, else the bound", () -> {
            for (int at = 0; at < values.length; at++) {
                due("costs " + values[at], Checks.ruled(Checks.strangers(3), "counts 1;costs " + values[at] + ";joy 1;").noneLeft(2), bounded[at]);
                due("costs together", Checks.ruled(Checks.strangers(4), "counts 1;costs " + values[at] + ";joy 1;").noneLeft(2), 2 * bounded[at]);
            }
        });
    }

    // ---- 10: force

    private static void force() {
        Checks.sentence("10: a TEXT is THE RULE, which was; the first TEXT and the last of six", () -> {
            ThreesAtTable x = Checks.strangers(3);
            for (int text = 1; text <= 5; text++) Checks.read(x, "counts " + text % 2 + ";costs " + 10 * text + ";joy " + text + ";");
            int was = 0;
            for (int text : new int[] {5, 5, 0, 1, 2, 3, 4, 5, 0}) {
                due("force " + text, x.force(text), was);
                due("count", x.count(6), text);
                due("counts", x.threes(2), text == 0 || text % 2 == 1 ? 1 : 0);
                due("joy", x.guest(0, 2), text == 0 ? 5 : text);
                due("costs", x.noneLeft(2), text == 0 ? 1 : text % 2 == 1 ? 10 * text : 0);
                was = text;
            }
        });
        Checks.sentence("10: BAD: no such TEXT; nothing changes", () -> {
            Checks.refused("force", Checks.BAD, x -> x.force(-1), x -> x.force(2), x -> x.force(5), x -> x.force(6), x -> x.force(MIN), x -> x.force(MAX));
            Checks.refused(EdgesTextsTest::fullTexts, "force behind the sixth", Checks.BAD, x -> x.force(6), x -> x.force(-1));
            due("the text of a fault", readFault().force(1), Checks.BAD);
        });
    }

    private static ThreesAtTable readFault() {
        ThreesAtTable x = new ThreesAtTable();
        Checks.read(x, "counts 1;costs 1;joy 1");
        return x;
    }
}
