/**
 * The boundary cases that the document names of the tape, of texts and their faults, of names and of what
 * can be undone, held and gone on from: one method a sentence, which it quotes.
 */
final class TextBoundaries extends Cases {
    private static final String[] WORDS = {"modulus", "let", "x"};

    static void run() {
        newObject();
        tape();
        tokens();
        grammar();
        numbers();
        names();
        places();
        syntaxAndRoom();
        senseFaults();
        zeroFaults();
        afterTexts();
        changes();
        slots();
        counts();
    }

    // ---- a new object

    private static void newObject() {
        allModuliAsIfNotTold();
        fiveHundredAndTwelveCalls();
    }

    private static void allModuliAsIfNotTold() {
        sentence(1, "All MODULI as if not told; no NAMES.");
        int[] least = {2, 7, 11, 19, 37, 67, 131, 283, 515, 1033, 2053, 4105};
        FieldTower t = new FieldTower();
        for (int n = 1; n <= 12; n++) {
            due("modulus(" + n + ")", t.modulus(n), least[n - 1]);
        }
        for (int what = 0; what <= 4; what++) {
            due("count(" + what + ")", t.count(what), 0);
            due("let(0, " + what + ")", t.let(0, what), NONE);
        }
        FieldTower other = new FieldTower();
        read(other, "modulus 4 11001; let a 4 x;");
        other.hold(0);
        due("modulus(4) of one object after another's text", t.modulus(4), 19);
        due("a third object", stateOf(new FieldTower()), stateOf(t));
    }

    private static void fiveHundredAndTwelveCalls() {
        sentence(1, "An object is used for at most 512 calls after it has been made");
        FieldTower t = new FieldTower();
        int modulus = 4105;
        for (int call = 0; call < 510; call += 3) {
            int following = t.next(modulus);
            modulus = following == NONE ? 4105 : following;
            due("change(12, " + modulus + ")", t.change(12, modulus), true);
            due("call " + (call + 3), t.raise(6, 12, 1), 1);
        }
        due("call 511", t.count(2), 30);
        due("call 512", t.value(12, modulus, 2), 0);
    }

    // ---- the tape

    private static void tape() {
        theHighestOfAFirst();
        moreThanTwoThousand();
        theLastBytesGo();
        notSoMany();
        aTextOfTwoThousand();
        theTapeIsEmptyThen();
    }

    private static void theHighestOfAFirst() {
        sentence(2, "Twenty bytes, the highest of a first, come behind the tape: how many it has.");
        for (int i = 0; i < 20; i++) {
            int[] words = {0x20202020, 0x20202020, 0x20202020, 0x20202020, 0x20202020};
            // A byte above 127 makes its word negative if it is the highest one.
            words[i / 4] ^= (0x20 ^ 0xfe) << 8 * (3 - i % 4);
            FieldTower t = new FieldTower();
            due("feed", t.feed(words[0], words[1], words[2], words[3], words[4]), 20);
            due("read()", t.read(), 1);
            due("place() of byte " + i, t.place(), i);
            due("the first feed", t.feed(0x20202020, 0x20202020, 0x20202020, 0x20202020, 0x20202020), 20);
            due("the second feed", t.feed(words[0], words[1], words[2], words[3], words[4]), 40);
            due("read()", t.read(), 1);
            due("place() behind twenty of byte " + i, t.place(), 20 + i);
        }
        FieldTower t = new FieldTower();
        put(t, "let abcde 4 x^10+11;");
        due("twenty bytes and no filler", t.count(1), 20);
        due("read()", t.read(), 0);
        due("let(0, 1)", t.let(0, 1), 4);
    }

    private static void moreThanTwoThousand() {
        sentence(2, "NONE, and nothing comes, if it would have more than 2,000.");
        FieldTower t = new FieldTower();
        for (int i = 1; i <= 100; i++) {
            due("feed " + i, t.feed(0x20202020, 0x20202020, 0x20202020, 0x20202020, 0x20202020), 20 * i);
        }
        int[] goes = {0, 1, 18};
        int left = 2000;
        for (int more : goes) {
            left -= more;
            due("back(" + more + ")", t.back(more), left);
            due("feed behind " + left, t.feed(-1, -1, -1, -1, -1), NONE);
            due("count(1)", t.count(1), left);
        }
        due("back(1)", t.back(1), 1980);
        due("feed behind 1980", t.feed(0x20202020, 0x20202020, 0x20202020, 0x20202020, 0x20202020), 2000);
        due("read() of blanks alone", t.read(), 0);
    }

    private static void theLastBytesGo() {
        sentence(3, "The last n bytes of the tape go: how many it has.");
        FieldTower t = new FieldTower();
        due("back(0) of an empty tape", t.back(0), 0);
        put(t, "let a 4 x; let b 4 1");
        due("back(0)", t.back(0), 20);
        due("back(1)", t.back(1), 19);
        due("back(9)", t.back(9), 10);
        due("read()", t.read(), 0);
        due("count(0)", t.count(0), 1);
        put(t, "let");
        due("all of it", t.back(3), 0);
        put(t, repeat("?", 2000));
        due("2,000 at once", t.back(2000), 0);
        due("read()", t.read(), 0);
    }

    private static void notSoMany() {
        sentence(3, "NONE, and nothing goes, if it has not so many, or n is below 0.");
        FieldTower t = new FieldTower();
        int[] refused = {1, -1, 2000, 2001, LOWEST, GREATEST};
        for (int n : refused) {
            due("back(" + n + ") of an empty tape", t.back(n), NONE);
        }
        put(t, "?      ");
        int[] refusedThen = {8, -1, -7, LOWEST, GREATEST};
        for (int n : refusedThen) {
            due("back(" + n + ") of 7", t.back(n), NONE);
            due("count(1)", t.count(1), 7);
        }
        due("read()", t.read(), 1);
        due("place()", t.place(), 0);
    }

    private static void aTextOfTwoThousand() {
        sentence(4, "A TEXT has 2,000 bytes at most.");
        FieldTower t = new FieldTower();
        put(t, repeat(" ", 1990) + "let a 4 x;");
        due("count(1)", t.count(1), 2000);
        due("read()", t.read(), 0);
        due("let(0, 1)", t.let(0, 1), 2);
        faultOf(repeat(" ", 1991) + "let a 4 x", 1, 2000);
        faultOf(repeat("\n", 1999) + "?", 1, 1999);
        put(t, repeat(" ", 1991) + "let a 4 x");
        due("a byte more", t.feed(0x3b202020, 0x20202020, 0x20202020, 0x20202020, 0x20202020), NONE);
        due("read()", t.read(), 1);
    }

    private static void theTapeIsEmptyThen() {
        sentence(4, "The tape, which is empty then, is read: 0, or the number of its FAULT.");
        String[] texts = {"let a 1 1;", "?", eightLets() + "let i 1 1;", "let a 1 1;let a 1 1;", "let a 1 b;",
            "let a 0 1;", "let a 2 1;let b 3 a;", "let a 1 1/0;"};
        for (int fault = 0; fault < texts.length; fault++) {
            FieldTower t = new FieldTower();
            due("read of [" + texts[fault] + "]", read(t, texts[fault]), fault);
            due("count(1) then", t.count(1), 0);
            due("back(1) then", t.back(1), NONE);
            due("read() of the empty tape", t.read(), 0);
            due("place() then", t.place(), NONE);
            due("feed then", t.feed(0, 0, 0, 0, 0), 20);
        }
    }

    /** Eighty bytes, forty tokens. */
    private static String eightLets() {
        StringBuilder text = new StringBuilder();
        for (char c = 'a'; c <= 'h'; c++) {
            text.append("let ").append(c).append(" 1 1;");
        }
        return text.toString();
    }

    // ---- tokens

    private static void tokens() {
        theLongestThatCanBe();
        blanksBetweenOrNot();
        lettersEightAtMost();
        oneToThirteenDigits();
        signs();
        allElse();
    }

    private static void theLongestThatCanBe() {
        sentence(4, "TOKENS, the longest that can be");
        faultOf("let a 4 xx;", 4, 8);
        faultOf("let a 4 x x;", 1, 10);
        faultOf("leta 4 x;", 1, 0);
        faultOf("let xlet 4 x; let lets 4 x; let letx 4 x;", 0, NONE);
        faultOf("let a 1 1; let aa 1 a;", 0, NONE);
        faultOf("let a 44 1;", 5, 6);
        faultOf("let a 4 4;", 5, 8);
        faultOf("modulus 110;", 1, 11);
        faultOf("modulus 1 10;", 0, NONE);
        faultOf("modulus 11 0;", 5, 11);
        due("let(0, 1) of x^10", with("let a 4 x^10;").let(0, 1), 7);
    }

    private static void blanksBetweenOrNot() {
        sentence(4, "with blanks (9, 10, 13, 32) between or not");
        String[] parts = {"modulus", "4", "10011", ";", "let", "a", "4", "(", "x", "+", "1", ")", "*", "x", "^", "2", "/", "x", ";"};
        int[] blanks = {9, 10, 13, 32};
        for (int blank : blanks) {
            String one = String.valueOf((char) blank);
            FieldTower t = with(one + String.join(one, parts) + one);
            due("let(0, 1), blank " + blank, t.let(0, 1), 6);
            due("let(0, 1), three blanks " + blank, with(String.join(repeat(one, 3), parts)).let(0, 1), 6);
        }
        due("none but where two tokens would be one", with("modulus 4 10011;let a4(x+1)*x^2/x;").let(0, 1), 6);
        faultOf("\t\n\r ", 0, NONE);
    }

    private static void lettersEightAtMost() {
        sentence(4, "NAMES (letters a .. z, 8 at most, none of the words in quotes)");
        faultOf("let a 1 1; let z 1 a; let abcdefgh 1 z; let abcdefgi 1 abcdefgh; let zzzzzzzz 1 1; let aaaaaaaa 1 1;", 0, NONE);
        faultOf("let abcdefghi 1 1;", 1, 4);
        faultOf("let a 1 1; let b 1 abcdefghi;", 1, 19);
        faultOf("let a 1 " + repeat("z", 1900) + ";", 1, 8);
        int[] near = {'a' - 1, 'z' + 1, 'A', 'Z', 'a' + 128, 'z' + 128};
        for (int sign : near) {
            faultOf("let " + (char) sign + " 1 1;", 1, 4);
            faultOf("let b" + (char) sign + " 1 1;", 1, 5);
        }
        for (String word : WORDS) {
            faultOf("let " + word + " 1 1;", 1, 4);
            faultOf("let " + word + "q 1 1; let q" + word + " 1 " + word + "q;", 0, NONE);
        }
        faultOf("let modulu 1 1; let le 1 1; let odulus 1 1; let et 1 1; let xx 1 1;", 0, NONE);
        due("count(0) of two that differ in the eighth letter", with("let abcdefgh 1 1; let abcdefgi 1 0;").count(0), 2);
    }

    private static void oneToThirteenDigits() {
        sentence(4, "ROWS (1 to 13 digits)");
        String nought = repeat("0", 13);
        faultOf("let a 1 0;", 0, NONE);
        faultOf("let a 1 " + nought + ";", 0, NONE);
        faultOf("let a 1 0" + nought + ";", 1, 8);
        faultOf("let a 0000000000012 x;", 0, NONE);
        faultOf("let a 00000000000012 x;", 1, 6);
        faultOf("let a 1 1^0000000009999;", 0, NONE);
        faultOf("let a 1 1^00000000009999;", 1, 10);
        faultOf("modulus 0000000000001 0000000000010;", 0, NONE);
        faultOf("modulus 00000000000001 10;", 1, 8);
        faultOf("modulus 1 00000000000010;", 1, 10);
        // These are 1 and 2 if what goes beyond 64 bits is lost.
        faultOf("let a 18446744073709551617 1;", 1, 6);
        faultOf("modulus 1 18446744073709551626;", 1, 10);
        faultOf("let a 1 " + repeat("1", 1900) + ";", 1, 8);
    }

    private static void signs() {
        sentence(4, "SIGNS ; + * / ^ ( ).");
        due("all of them", with("let a 4 (x^2+x)*(1)/x;").let(0, 1), 3);
        for (int sign = 33; sign < 127; sign++) {
            boolean token = ";+*/^()".indexOf(sign) >= 0 || Character.isLetterOrDigit(sign) && !Character.isUpperCase(sign);
            if (!token) {
                faultOf("let a 4 x" + (char) sign + "+1;", 1, 9);
            }
        }
    }

    private static void allElse() {
        sentence(4, "A longer one, all else, is no TOKEN.");
        for (int b = 0; b < 256; b++) {
            FieldTower t = new FieldTower();
            boolean blank = b == 9 || b == 10 || b == 13 || b == 32;
            boolean letter = b >= 'a' && b <= 'z';
            due("byte " + b + " ahead", read(t, (char) b + "let a 4 x;"), blank ? 0 : 1);
            due("place of byte " + b + " ahead", t.place(), blank ? NONE : 0);
            // Behind these signs a text goes on, but not with the next byte.
            boolean goesOn = b == ';' || b == '+' || b == '*' || b == '/' || b == '^';
            due("byte " + b + " behind x", read(t, "let a 4 x" + (char) b + ";"), blank ? 0 : letter ? 4 : 1);
            due("place of byte " + b + " behind x", t.place(), blank ? NONE : letter ? 8 : goesOn ? 10 : 9);
        }
    }

    // ---- grammar

    private static void grammar() {
        noTell();
        linesAndAtoms();
        whatGoesOn();
        everyPrefix();
        sumsOfProductsOfPowers();
    }

    private static void linesAndAtoms() {
        sentence(4, "TELL: 'modulus' ROW ROW ';' | 'let' NAME ROW EXPR ';'.");
        faultOf("modulus 4 11001;", 0, NONE);
        faultOf("modulus 4;", 1, 9);
        faultOf("modulus;", 1, 7);
        faultOf("modulus 4 11001 1;", 1, 16);
        faultOf("modulus a 4 11001;", 1, 8);
        faultOf("let a 4;", 1, 7);
        faultOf("let a x;", 1, 6);
        faultOf("let 4 x;", 1, 4);
        faultOf("let a 4 1 x;", 1, 10);
        sentence(28, "ATOM: 'x' | ROW | NAME | '(' EXPR ')'.");
        FieldTower t = with("let a 4 x; let b 4 11; let c 4 b; let d 4 (x+b); let e 4 ((c));");
        int[] values = {2, 3, 3, 1, 3};
        for (int i = 0; i < values.length; i++) {
            due("let(" + i + ", 1)", t.let(i, 1), values[i]);
        }
        faultOf("let a 4 ();", 1, 9);
        faultOf("let a 4 (x+);", 1, 11);
    }

    private static void noTell() {
        sentence(4, "text: {TELL}.");
        faultOf("", 0, NONE);
        faultOf("modulus 1 10;", 0, NONE);
        faultOf("let a 1 1;", 0, NONE);
        faultOf(";", 1, 0);
        faultOf("let a 1 1;;", 1, 10);
    }

    private static void whatGoesOn() {
        sentence(4, "1 SYNTAX: a TOKEN, or what is none, with which no text goes on.");
        String atom = "x q 10 (";
        String[][] rows = {
            {"", "modulus let"}, {"modulus 4 10011; ", "modulus let"}, {"let a 4 x; ", "modulus let"},
            {"modulus ", "10"}, {"modulus 4 ", "10"}, {"modulus 4 10011 ", ";"},
            {"let ", "q"}, {"let a ", "10"}, {"let a 4 ", atom}, {"let a 4 ( ", atom}, {"let a 4 x + ", atom},
            {"let a 4 x * ", atom}, {"let a 4 x / ", atom}, {"let a 4 (x + ", atom}, {"let a 4 ((x) / ", atom},
            {"let a 4 x ", "; + * / ^"}, {"let a 4 10 ", "; + * / ^"}, {"let a 4 (x) ", "; + * / ^"},
            {"let b 4 x; let a 4 b ", "; + * / ^"}, {"let a 4 (x ", ") + * / ^"}, {"let a 4 ((x) ", ") + * / ^"},
            {"let a 4 x ^ ", "10"}, {"let a 4 (x) ^ ", "10"}, {"let a 4 x ^ 2 ", "; + * /"},
            {"let a 4 (x ^ 2 ", ") + * /"}, {"let a 4 (x) ^ 0 ", "; + * /"}};
        String[] tokens = {"modulus", "let", "x", "q", "10", ";", "+", "*", "/", "^", "(", ")", "?", "abcdefghi", "00000000000000", "-"};
        for (String[] row : rows) {
            for (String token : tokens) {
                FieldTower t = new FieldTower();
                int fault = read(t, row[0] + token);
                boolean refused = fault == 1 && t.place() == row[0].length();
                due("[" + row[0] + token + "] goes on", refused, !(" " + row[1] + " ").contains(" " + token + " "));
            }
        }
    }

    private static void everyPrefix() {
        sentence(5, "the text's end: its length");
        String text = "modulus 4 10011; let a 4 (x+1)*x/x^10; let b 4 a ;";
        for (int end = 0; end <= text.length(); end++) {
            String part = text.substring(0, end);
            String trimmed = part.trim();
            String last = part.substring(part.lastIndexOf(' ') + 1);
            boolean cutWord = !last.isEmpty() && ("modulus".startsWith(last) && !last.equals("modulus")
                    || "let".startsWith(last) && !last.equals("let"));
            boolean whole = trimmed.isEmpty() || trimmed.endsWith(";");
            faultOf(part, whole ? 0 : 1, whole ? NONE : cutWord ? end - last.length() : end);
        }
        faultOf("let a 4 x   ", 1, 12);
        faultOf("modulus\n", 1, 8);
    }

    private static void sumsOfProductsOfPowers() {
        sentence(28, "EXPR: TERM {'+' TERM}.   TERM: POWER {('*' | '/') POWER}.   POWER: ATOM ['^' ROW].");
        String[] exprs = {"x+x*x", "x*x+x", "(x+x)*x", "x*x^10", "(x*x)^10", "x/x*x", "x/(x*x)", "1+x/x+x", "x^10/x", "((x))^1"};
        int[] values = {6, 6, 0, 14, 6, 2, 9, 2, 10, 2};
        for (int i = 0; i < exprs.length; i++) {
            due(exprs[i], with("let a 4 " + exprs[i] + ";").let(0, 1), values[i]);
        }
    }

    // ---- numbers, polynomials and moduli in a text

    private static void numbers() {
        numberOfAField();
        theLastDigit();
        theLastModulusTold();
    }

    private static void numberOfAField() {
        sentence(4, "The first ROW of a line is a number n, 1 .. 12: of the FIELD n.");
        FieldTower none = new FieldTower();
        for (int n = 1; n <= 12; n++) {
            due("let(0, 0), n " + n, with("let a " + n + " 1;").let(0, 0), n);
            int other = n == 2 ? 7 : none.next(none.modulus(n));
            due("modulus(" + n + ")", with("modulus " + n + " " + Integer.toBinaryString(other) + ";").modulus(n), other);
        }
        due("noughts ahead", with("let a 0000000000007 1;").let(0, 0), 7);
    }

    private static void theLastDigit() {
        sentence(4, "POLYNOMIALS (of noughts and ones) are told as bits: of x to the k 2 to the k; an ATOM's ROW, "
                + "a modulus' second ROW tells one by noughts and ones, the last digit that of x to the 0.");
        for (int k = 0; k < 12; k++) {
            due("let(0, 1), a one and " + k + " noughts", with("let a 12 1" + repeat("0", k) + ";").let(0, 1), 1 << k);
        }
        due("noughts ahead", with("let a 12 0000000000011;").let(0, 1), 3);
        due("modulus(4)", with("modulus 4 11001;").modulus(4), 25);
        due("modulus(12), 13 digits", with("modulus 12 1000001010011;").modulus(12), 4179);
        due("modulus(1)", with("modulus 1 11;").modulus(1), 3);
        due("modulus(1), noughts ahead", with("modulus 1 0000000000011;").modulus(1), 3);
    }

    private static void theLastModulusTold() {
        sentence(8, "MODULUS of the FIELD n: a POLYNOMIAL of degree n that is not SPLIT "
                + "(the last one told; if not told the least such one).");
        FieldTower t = with("modulus 4 11001; modulus 4 11111; modulus 5 111101;");
        due("modulus(4)", t.modulus(4), 31);
        due("modulus(5)", t.modulus(5), 61);
        due("modulus(6)", t.modulus(6), 67);
        due("the least is told last", with("modulus 4 11111; modulus 4 10011;").modulus(4), 19);
        FieldTower behind = with("let a 4 x^4; modulus 4 11001; let b 4 x^4; modulus 4 11111;");
        due("let(0, 1), told behind it", behind.let(0, 1), 15);
        due("let(1, 1), told ahead of it and behind it", behind.let(1, 1), 15);
        read(t, "modulus 5 101111;");
        due("modulus(5) of the next text", t.modulus(5), 47);
        due("modulus(4), which the next text does not tell", t.modulus(4), 19);
    }

    // ---- names

    private static void names() {
        eightNamesFromNoughtOn();
        ofTheFieldOfItsLine();
        xOfAField();
        lessMultiplesOfTheModulus();
        raisedToTheLine();
        factorsOfNone();
        timesTheInverse();
        noSuchName();
    }

    private static void eightNamesFromNoughtOn() {
        sentence(28, "'let': NAMES, 8 at most, numbered from 0 on as they stand");
        StringBuilder text = new StringBuilder();
        for (int i = 0; i < 8; i++) {
            text.append("let ").append((char) ('h' - i)).append(" ").append(i + 1).append(" ").append(i % 2).append(";modulus 1 10;");
        }
        FieldTower t = with(text.toString());
        due("count(0)", t.count(0), 8);
        for (int i = 0; i < 8; i++) {
            due("let(" + i + ", 0)", t.let(i, 0), i + 1);
            due("let(" + i + ", 1)", t.let(i, 1), i % 2);
        }
        due("let(8, 0)", t.let(8, 0), NONE);
        faultOf(text + "let z 9 1;", 2, text.length());
    }

    private static void ofTheFieldOfItsLine() {
        sentence(28, "a NAME is an element of the FIELD n of its line: EXPR there");
        FieldTower t = with("let a 1 1; let b 4 x^5; let c 8 x^5; let d 12 x^12;");
        int[][] want = {{1, 1}, {4, 6}, {8, 32}, {12, 9}};
        for (int i = 0; i < want.length; i++) {
            due("let(" + i + ", 0)", t.let(i, 0), want[i][0]);
            due("let(" + i + ", 1)", t.let(i, 1), want[i][1]);
        }
    }

    private static void xOfAField() {
        sentence(28, "'x' is x there");
        for (int n = 2; n <= 12; n++) {
            due("x of " + n, with("let a " + n + " x;").let(0, 1), 2);
        }
        due("x of 1 by x", with("let a 1 x;").let(0, 1), 0);
        due("x of 1 by x + 1", with("modulus 1 11; let a 1 x;").let(0, 1), 1);
    }

    private static void lessMultiplesOfTheModulus() {
        sentence(28, "a ROW's POLYNOMIAL less multiples of the MODULUS");
        FieldTower none = new FieldTower();
        for (int n = 1; n <= 12; n++) {
            int modulus = none.modulus(n);
            int[] polynomials = {0, 1, (1 << n) - 1, 1 << n, modulus, modulus ^ 1, 4096, 8191};
            for (int polynomial : polynomials) {
                String row = Integer.toBinaryString(polynomial);
                due(row + " in " + n, with("let a " + n + " " + row + ";").let(0, 1), remainder(polynomial, modulus));
            }
        }
    }

    private static void raisedToTheLine() {
        sentence(28, "a NAME that is told ahead, of a FIELD d that divides n, RAISED to n");
        for (int n = 1; n <= 12; n++) {
            for (int d = 1; d <= n; d++) {
                if (n % d == 0) {
                    FieldTower t = with("let a " + d + " x; let b " + n + " a;");
                    due("x of " + d + " in " + n, t.let(1, 1), t.raise(d, n, t.let(0, 1)));
                    due("its field", t.let(1, 0), n);
                } else {
                    faultOf("let a " + d + " 1; let b " + n + " a;", 6, 19 + (d > 9 ? 1 : 0) + (n > 9 ? 1 : 0));
                }
            }
        }
    }

    private static void factorsOfNone() {
        sentence(28, "'^': a number 0 .. 9999 of factors, of none 1");
        due("x^0", with("let a 4 x^0;").let(0, 1), 1);
        due("0^0", with("let a 4 0^0;").let(0, 1), 1);
        due("0^1", with("let a 4 0^1;").let(0, 1), 0);
        due("x^1", with("let a 4 x^1;").let(0, 1), 2);
        due("x^9998", with("let a 4 x^9998;").let(0, 1), 5);
        due("x^9999", with("let a 4 x^9999;").let(0, 1), 10);
        due("0^9999", with("let a 12 0^9999;").let(0, 1), 0);
        faultOf("let a 4 x^10000;", 5, 10);
    }

    private static void timesTheInverse() {
        sentence(28, "'/': times the INVERSE");
        due("1/x", with("let a 4 1/x;").let(0, 1), 9);
        due("0/x", with("let a 4 0/x;").let(0, 1), 0);
        due("1/1 in 1", with("let a 1 1/1;").let(0, 1), 1);
        due("x/x/x", with("let a 4 x/x/x;").let(0, 1), 9);
        FieldTower t = with("let a 12 1/111111111111;");
        due("its product", t.both(12, t.let(0, 1), 4095, 1), 1);
    }

    private static void noSuchName() {
        sentence(28, "Of NAME i: what 0 its FIELD, 1 what it is, 2 its DEGREE, 3 it LOWERED to that FIELD. "
                + "NONE: no such ones.");
        FieldTower t = with("let a 1 1; let b 12 a; let c 12 x; let d 12 0; let e 2 x; let f 12 e;");
        int[][] want = {{1, 1, 1, 1}, {12, 1, 1, 1}, {12, 2, 12, 2}, {12, 0, 1, 0}, {2, 2, 2, 2}, {12, t.raise(2, 12, 2), 2, 2}};
        for (int i = 0; i < want.length; i++) {
            for (int what = 0; what < 4; what++) {
                due("let(" + i + ", " + what + ")", t.let(i, what), want[i][what]);
            }
            int[] others = {-1, 4, -2, LOWEST, GREATEST};
            for (int what : others) {
                due("let(" + i + ", " + what + ")", t.let(i, what), NONE);
            }
        }
        int[] others = {-1, 6, 7, 8, 9, LOWEST, GREATEST};
        for (int i : others) {
            for (int what = -1; what <= 4; what++) {
                due("let(" + i + ", " + what + ")", t.let(i, what), NONE);
            }
        }
        for (int i = 0; i < 3; i++) {
            read(t, "let a 3 x; let b 4 x; let c 6 x;");
        }
        read(t, "let a 3 x;");
        due("let(0, 0)", t.let(0, 0), 3);
        due("let(1, 0), a name of the text ahead", t.let(1, 0), NONE);
        read(t, "");
        due("let(0, 0) of a text with no names", t.let(0, 0), NONE);
    }

    // ---- the places of faults

    private static void places() {
        theLatestReadsFault();
        theFirstByItsPlace();
        ofOnePlaceTheLeast();
    }

    private static void theLatestReadsFault() {
        sentence(5, "The byte of the latest read()'s FAULT; NONE without.");
        FieldTower t = new FieldTower();
        due("place() of a new object", t.place(), NONE);
        due("read()", read(t, "?"), 1);
        due("the first byte", t.place(), 0);
        put(t, "let a 4 1/0;");
        due("place() before the next read()", t.place(), 0);
        due("read()", t.read(), 7);
        due("place()", t.place(), 9);
        t.change(4, 25);
        t.hold(0);
        t.undo();
        t.restore(0);
        t.back(0);
        due("place() behind other calls", t.place(), 9);
        due("read()", read(t, "let a 13 1;"), 5);
        due("place()", t.place(), 6);
        due("read()", read(t, "let a 12 1;"), 0);
        due("place() without", t.place(), NONE);
    }

    private static void theFirstByItsPlace() {
        sentence(5, "FAULTS of a text, the first by its place");
        faultOf("? ?", 1, 0);
        faultOf("let a 1 (((((((((1", 2, 16);
        faultOf("let a 1 ((((((((?(1", 1, 16);
        faultOf("let a 1 1; let a 0 b;", 3, 15);
        faultOf("let a 0 b; let a 1 2;", 5, 6);
        faultOf("let a 1 b + 2; let a 0 1;", 4, 8);
        faultOf("let a 1 2 + b; let a 0 1;", 5, 8);
        faultOf("let a 2 1; let b 3 a + c + 2;", 6, 19);
        faultOf("let a 2 1; let b 3 c + a + 2;", 4, 19);
        faultOf("let a 2 1; let b 3 2 + c + a;", 5, 19);
        faultOf("let a 1 1^10000; let a 1 1;", 5, 10);
        faultOf("modulus 4 10101; modulus 13 1;", 5, 10);
    }

    private static void ofOnePlaceTheLeast() {
        sentence(5, "of one place the least");
        String full = repeat("modulus 1 10;", 100);
        faultOf(full, 0, NONE);
        String[] unfit = {"x", "a", "1", ";", "(", ")", "?", "abcdefghi", "00000000000000"};
        for (String token : unfit) {
            faultOf(full + token, 1, 1300);
        }
        faultOf(full + "let", 2, 1300);
        faultOf(full + "modulus", 2, 1300);
        faultOf(repeat("modulus 1 10;", 90) + eightLets() + "let", 2, 1250);
        faultOf("let a 1 " + repeat("(", 8) + "1(", 1, 17);
        faultOf(eightLets() + "modulus let", 1, 88);
    }

    // ---- room

    private static void syntaxAndRoom() {
        fourHundredAndOneTokens();
        ninthLet();
        ninthOpen();
    }

    private static void fourHundredAndOneTokens() {
        sentence(4, "2 ROOM: a 401st TOKEN");
        // A let line has 4 tokens ahead of its end, each +x two more.
        String most = "let a 4 x" + repeat("+x", 197);
        faultOf(most + ";", 0, NONE);
        due("an odd number of x and one", with("let a 4 x" + repeat("+x", 196) + "+1;").let(0, 1), 3);
        faultOf(most + "+x;", 2, 405);
        faultOf(most + "+x ;", 2, 406);
        faultOf(most + ";modulus", 1, 411);
        faultOf(most + ";modulus 1 10;", 2, 412);
        faultOf(most + "+x+x+x?", 2, 405);
        faultOf(most + "+x", 1, 405);
        faultOf(repeat("modulus 1 10;", 100), 0, NONE);
        faultOf(repeat("modulus 1 10;", 101), 2, 1300);
        faultOf(repeat("modulus 1 10;", 150), 2, 1300);
    }

    private static void ninthLet() {
        sentence(4, "a 9th 'let' (at the line's first word)");
        String eight = eightLets();
        faultOf(eight, 0, NONE);
        faultOf(eight + "modulus 1 11;", 0, NONE);
        faultOf(eight + "let i 1 1;", 2, 80);
        faultOf(eight + "  let", 2, 82);
        faultOf(eight + "let a 0 2", 2, 80);
        faultOf("modulus 1 11;" + eight + "modulus 1 11; let i 1 1;", 2, 107);
        faultOf(eight + "lett", 1, 80);
    }

    private static void ninthOpen() {
        sentence(4, "a 9th ( that is open at one time (at it)");
        String eight = repeat("(", 8) + "x" + repeat(")", 8);
        faultOf("let a 4 " + eight + ";", 0, NONE);
        faultOf("let a 4 (" + eight + ");", 2, 16);
        faultOf("let a 4 " + eight + "*" + eight + ";", 0, NONE);
        faultOf("let a 4 " + eight + "*" + eight + ";let b 4 " + eight + ";", 0, NONE);
        faultOf("let a 4 ((((((((x)+(x))))))));", 0, NONE);
        faultOf("let a 4 ((((((((x)+(x+(x)))))))));", 2, 22);
        faultOf("let a 4 " + repeat("(x)+", 20) + "x;", 0, NONE);
        faultOf("let a 4 " + repeat("(", 9), 2, 16);
        due("let(0, 1), eight deep", with("let a 4 ((((((((x)+(x))*x+1)^10/x))+x)));").let(0, 1), 11);
    }

    // ---- what a text says that cannot be

    private static void senseFaults() {
        ifThereIsNone();
        toldAlready();
        noneToldAhead();
        numberNotOfAField();
        noModulusOfTheField();
        digitAboveOne();
        aboveNineThousand();
        doesNotDivide();
    }

    private static void ifThereIsNone() {
        sentence(4, "If there is none, likewise: 3 TWICE");
        faultOf("let a 1 b; let a 0 2 ?", 1, 21);
        faultOf("let a 1 b; let a 0 2", 1, 20);
        faultOf("let a 1 1; let a 1 1; let b 0 ((((((((( 1", 2, 38);
        faultOf(repeat("let a 1 1;", 9), 2, 80);
        faultOf(repeat("let a 1 1;", 8), 3, 14);
    }

    private static void toldAlready() {
        sentence(4, "3 TWICE: (at it) a 'let' NAME told already.");
        faultOf("let a 4 x; let a 4 x;", 3, 15);
        faultOf("let a 4 x; let b 4 x; let a 3 x;", 3, 26);
        faultOf("let a 4 x; let aa 4 x; let b 4 a;", 0, NONE);
        faultOf("let abcdefgh 4 x; let abcdefgh 4 x;", 3, 22);
        FieldTower t = with("let a 4 x;");
        due("told by the text ahead", read(t, "let a 3 x;"), 0);
    }

    private static void noneToldAhead() {
        sentence(4, "4 NAME: (at it) in an EXPR none told ahead.");
        faultOf("let a 4 b;", 4, 8);
        faultOf("let a 4 x + (x * b);", 4, 17);
        faultOf("let a 4 a;", 4, 8);
        faultOf("let a 4 b; let b 4 x;", 4, 8);
        faultOf("let a 4 x; let b 4 a + aa;", 4, 23);
        faultOf("let abcdefgh 4 x; let b 4 abcdefg;", 4, 26);
        FieldTower t = with("let a 4 x;");
        due("told by the text ahead", read(t, "let b 4 a;"), 4);
        due("place()", t.place(), 8);
    }

    private static void numberNotOfAField() {
        sentence(4, "5 WRONG: (at the ROW) n not 1 .. 12");
        faultOf("let a 1 1; let b 12 1; modulus 1 10; modulus 12 1000000001001;", 0, NONE);
        // The last four are 1, 4, 1 and 12 if what goes beyond 32 or 8 bits is lost.
        String[] rows = {"0", "13", "00", "0000000000000", "9999999999999", "100", "20",
            "4294967297", "4294967300", "257", "268"};
        for (String row : rows) {
            faultOf("let a " + row + " 1;", 5, 6);
            faultOf("modulus " + row + " 10;", 5, 8);
        }
        faultOf("let a 4 x; let b 13 a;", 5, 17);
    }

    private static void noModulusOfTheField() {
        sentence(4, "a modulus that is none of the FIELD (not asked if its n is wrong)");
        faultOf("modulus 4 10011;", 0, NONE);
        String[] rows = {"0", "1", "10", "1011", "100101", "10000", "10101", "11011", "11110", "10012", "20011",
            "90011", "1000000010011"};
        for (String row : rows) {
            faultOf("modulus 4 " + row + ";", 5, 10);
        }
        faultOf("modulus 1 10; modulus 1 11;", 0, NONE);
        faultOf("modulus 1 1;", 5, 10);
        faultOf("modulus 1 0;", 5, 10);
        faultOf("modulus 1 100;", 5, 10);
        faultOf("modulus 2 111;", 0, NONE);
        faultOf("modulus 2 101;", 5, 10);
        faultOf("modulus 12 1111111111111;", 0, NONE);
        faultOf("modulus 12 1111111111110;", 5, 11);
        faultOf("modulus 11 1111111111111;", 5, 11);
        faultOf("modulus 13 10012;", 5, 8);
        faultOf("modulus 0 1;", 5, 8);
    }

    private static void digitAboveOne() {
        sentence(4, "an ATOM with a digit above 1");
        faultOf("let a 4 1010101010101;", 0, NONE);
        String[] rows = {"2", "9", "12", "21", "1111111111112", "2111111111111", "1111119111111"};
        for (String row : rows) {
            faultOf("let a 4 " + row + ";", 5, 8);
            faultOf("let a 4 x+(1*" + row + ");", 5, 13);
        }
        faultOf("let a 9 1^29;", 0, NONE);
    }

    private static void aboveNineThousand() {
        sentence(4, "a number behind '^' above 9999");
        faultOf("let a 4 x^0; let b 4 x^9999; let c 4 x^0000000009999;", 0, NONE);
        String[] rows = {"10000", "0000000010000", "9999999999999", "4294967296", "4294967297", "65536"};
        for (String row : rows) {
            faultOf("let a 4 x^" + row + ";", 5, 10);
        }
    }

    private static void doesNotDivide() {
        sentence(4, "6 FIELD: (at it) a NAME of a FIELD that does not divide n "
                + "(not asked if one of both is wrong).");
        faultOf("let a 4 x; let b 4 a; let c 8 a; let d 12 a;", 0, NONE);
        faultOf("let a 4 x; let b 2 a;", 6, 19);
        faultOf("let a 4 x; let b 6 a;", 6, 19);
        faultOf("let a 12 x; let b 6 a;", 6, 20);
        faultOf("let a 4 1; let b 6 x + (a);", 6, 24);
        faultOf("let a 0 1; let b 6 a;", 5, 6);
        faultOf("let a 13 1; let b 0 a;", 5, 6);
        faultOf("let a 5 1; let b 0 a;", 5, 17);
    }

    // ---- division by 0

    private static void zeroFaults() {
        ifThereIsNoneOfThese();
        atTheSignLineByLine();
        theFirstThatIsWorkedOut();
    }

    private static void ifThereIsNoneOfThese() {
        sentence(4, "If there is none of these: 7 ZERO");
        String zero = "let a 2 1/0;";
        faultOf(zero, 7, 9);
        faultOf(zero + "?", 1, 12);
        faultOf(zero + "let b 2 (((((((((1", 2, 28);
        faultOf(zero + "let a 2 1;", 3, 16);
        faultOf(zero + "let b 2 c;", 4, 20);
        faultOf(zero + "let b 0 1;", 5, 18);
        faultOf(zero + "let b 3 a;", 6, 20);
    }

    private static void atTheSignLineByLine() {
        sentence(4, "(at the '/') something is divided by 0, line by line");
        faultOf("let a 4 x / 0;", 7, 10);
        faultOf("let a 4 0/0;", 7, 9);
        faultOf("let a 4 0/1;", 0, NONE);
        faultOf("let a 4 1/(x+x);", 7, 9);
        faultOf("let a 4 1/0^0;", 0, NONE);
        faultOf("let a 4 1/0^1;", 7, 9);
        faultOf("let a 4 1/10011;", 7, 9);
        faultOf("let a 4 1/10011; modulus 4 11001;", 0, NONE);
        faultOf("let a 4 1/11001; modulus 4 11001;", 7, 9);
        faultOf("let a 1 1/x;", 7, 9);
        faultOf("modulus 1 11; let a 1 1/x;", 0, NONE);
        faultOf("modulus 1 11; let a 1 1/11;", 7, 23);
        faultOf("let a 2 x+x; let b 12 1/a;", 7, 23);
        faultOf("let a 4 x; let b 12 a; let c 12 1/(a+b);", 7, 33);
        faultOf("let a 4 x; let b 4 1/(a+x); let c 4 1/0;", 7, 20);
        faultOf("let a 4 (1/0)^0;", 7, 10);
        faultOf("let a 4 0*(1/0);", 7, 12);
        faultOf("let a 4 ((((((((1/0))))))));", 7, 17);
    }

    private static void theFirstThatIsWorkedOut() {
        sentence(4, "of one line the first that is worked out");
        faultOf("let a 4 1/0+1/0;", 7, 9);
        faultOf("let a 4 1/0/0;", 7, 9);
        faultOf("let a 4 1/1/0;", 7, 11);
        faultOf("let a 4 1/(1/0);", 7, 12);
        faultOf("let a 4 1/(0*(1/0));", 7, 15);
        faultOf("let a 4 (1/0)/(1/0);", 7, 10);
        faultOf("let a 4 1/0*(1/0);", 7, 9);
        faultOf("let a 4 1/(x/(x+x)/0)/0;", 7, 12);
    }

    // ---- behind a text

    private static void afterTexts() {
        changesNothingButTheTape();
        inPlaceOfTheOneAhead();
        nothingUndoneOrHeld();
    }

    private static void changesNothingButTheTape() {
        sentence(4, "A text with a FAULT changes nothing but the tape");
        String told = "modulus 1 11; modulus 2 111; modulus 6 1011011; modulus 12 1111111111111; let a 2 x; let b 6 a; let c 12 b;";
        String[] texts = {"?", "let", "let d 1 (((((((((1", "let a 1 1;", "let d 1 e;", "let d 0 1;", "let d 1 2;",
            "modulus 6 1;", "let d 1 1^10000;", "let d 4 c;", "let d 12 1/(c+c);", "let d 4 1/0;"};
        int[] faults = {1, 1, 2, 3, 4, 5, 5, 5, 5, 6, 7, 7};
        int[] places = {0, 3, 16, 4, 8, 6, 8, 10, 10, 8, 10, 9};
        for (int i = 0; i < texts.length; i++) {
            faultOf(told + texts[i], faults[i], told.length() + places[i]);
        }
    }

    private static void inPlaceOfTheOneAhead() {
        sentence(4, "else it is in place of the one ahead");
        FieldTower t = with("modulus 4 11001; modulus 12 1000001010011; let a 4 x^4; let b 12 a;");
        t.change(6, 97);
        due("read of another text", read(t, "modulus 3 1101; let c 3 x^3;"), 0);
        due("as on a new object", stateOf(t), stateOf(with("modulus 3 1101; let c 3 x^3;")));
        due("read() of an empty tape", t.read(), 0);
        due("as a new object", stateOf(t), stateOf(new FieldTower()));
        // The names of the texts ahead, worked out by the tokens of the last one, would divide by 0.
        FieldTower u = new FieldTower();
        for (int i = 0; i < 2; i++) {
            due("two names", read(u, "let a 8 x; let b 4 x;"), 0);
        }
        due("one name", read(u, "let a 8 1+1+1/10011;"), 0);
        due("as on a new object", stateOf(u), stateOf(with("let a 8 1+1+1/10011;")));
        due("change(8, 285)", u.change(8, 285), true);
    }

    private static void nothingUndoneOrHeld() {
        sentence(4, "nothing can be undone, SLOTS hold nothing.");
        String[] texts = {"let a 4 x^4;", "", " "};
        for (String text : texts) {
            FieldTower t = with("let a 4 x^4;");
            for (int slot = 0; slot < 3; slot++) {
                t.change(4, slot % 2 == 0 ? 25 : 31);
                t.hold(slot);
            }
            due("read of [" + text + "]", read(t, text), 0);
            due("count(2)", t.count(2), 0);
            due("count(3)", t.count(3), 0);
            due("undo()", t.undo(), false);
            for (int slot = 0; slot < 3; slot++) {
                due("restore(" + slot + ")", t.restore(slot), false);
            }
            due("modulus(4)", t.modulus(4), 19);
        }
    }

    // ---- changes

    private static void changes() {
        namesWorkedOutAnew();
        itIsThat();
        itIsNone();
        noSuchField();
        wouldBeDividedByZero();
        theLastChangeIsUndone();
        theLastThirty();
    }

    private static void namesWorkedOutAnew() {
        sentence(6, "The MODULUS of the FIELD n is another one, all NAMES are worked out anew: true");
        String lets = "let a 1 x; let b 2 x; let c 4 b + x^4; let d 6 b; let e 12 c * d + x^12;";
        FieldTower t = with(lets);
        String told = "";
        int[][] moduli = {{1, 3}, {4, 25}, {6, 97}, {12, 4179}, {12, 8191}, {1, 2}, {1, 3}};
        for (int[] row : moduli) {
            due("change(" + row[0] + ", " + row[1] + ")", t.change(row[0], row[1]), true);
            told += "modulus " + row[0] + " " + Integer.toBinaryString(row[1]) + ";";
            FieldTower fresh = with(told + lets);
            for (int i = 0; i < 5; i++) {
                for (int what = 0; what < 4; what++) {
                    due("let(" + i + ", " + what + ")", t.let(i, what), fresh.let(i, what));
                }
            }
            for (int n = 1; n <= 12; n++) {
                due("modulus(" + n + ")", t.modulus(n), fresh.modulus(n));
            }
        }
        due("count(2)", t.count(2), moduli.length);
    }

    private static void refused(FieldTower t, int n, int polynomial) {
        String before = stateOf(t);
        due("change(" + n + ", " + polynomial + ")", t.change(n, polynomial), false);
        due("nothing happens by change(" + n + ", " + polynomial + ")", stateOf(t), before);
    }

    private static void itIsThat() {
        sentence(6, "false, and nothing happens: it is that");
        FieldTower t = new FieldTower();
        for (int n = 1; n <= 12; n++) {
            refused(t, n, t.modulus(n));
        }
        due("change(4, 31)", t.change(4, 31), true);
        refused(t, 4, 31);
        due("change(4, 19)", t.change(4, 19), true);
        refused(t, 4, 19);
    }

    private static void itIsNone() {
        sentence(6, "it is none, no such n");
        int[] none = {0, 1, 2, 3, 7, 11, 13, 15, 16, 17, 20, 21, 27, 30, 32, 37, 4105, -19, -25, LOWEST, GREATEST, 25 + 65536};
        FieldTower t = with("let a 4 x^4;");
        for (int polynomial : none) {
            refused(t, 4, polynomial);
        }
        FieldTower first = new FieldTower();
        int[] noneOfOne = {0, 1, 4, 5, 7, -1, -2, -3};
        for (int polynomial : noneOfOne) {
            refused(first, 1, polynomial);
        }
        FieldTower last = new FieldTower();
        int[] noneOfTwelve = {4095, 4096, 4097, 8190, 8192, 8219, 2053};
        for (int polynomial : noneOfTwelve) {
            refused(last, 12, polynomial);
        }
        due("change(12, 8191)", last.change(12, 8191), true);
    }

    private static void noSuchField() {
        sentence(6, "no such n");
        int[] none = {0, -1, 13, 14, 31, 32, 33, 36, LOWEST, GREATEST};
        int[] polynomials = {0, 1, 2, 3, 25, 8219, 16427, LOWEST, GREATEST};
        for (int n : none) {
            FieldTower t = new FieldTower();
            String before = stateOf(t);
            for (int polynomial : polynomials) {
                due("change(" + n + ", " + polynomial + ")", t.change(n, polynomial), false);
            }
            due("nothing happens", stateOf(t), before);
        }
    }

    private static void wouldBeDividedByZero() {
        sentence(6, "something would be divided by 0");
        FieldTower t = with("let a 4 x^4; let b 4 1/(a+11); let c 8 1/(a+1); modulus 4 11001;");
        due("change(4, 31)", t.change(4, 31), true);
        refused(t, 4, 19);
        due("undo()", t.undo(), true);
        refused(t, 4, 19);
        FieldTower one = with("modulus 1 11; let a 1 1/x;");
        refused(one, 1, 2);
        FieldTower above = with("modulus 1 11; let a 1 x; let b 12 x/(x+x+a);");
        refused(above, 1, 2);
        due("change(12, 8191)", above.change(12, 8191), true);
        refused(above, 1, 2);
    }

    private static void theLastChangeIsUndone() {
        sentence(7, "The last change is undone: true; false: there is none");
        FieldTower t = with("let a 4 x^4; let b 12 a + x^12;");
        due("undo() of none", t.undo(), false);
        String[] states = new String[4];
        int[][] moduli = {{4, 25}, {12, 4179}, {4, 31}, {1, 3}};
        for (int i = 0; i < 4; i++) {
            states[i] = stateOf(t);
            due("change", t.change(moduli[i][0], moduli[i][1]), true);
        }
        refused(t, 4, 31);
        for (int i = 3; i >= 0; i--) {
            due("undo()", t.undo(), true);
            due("as it was", stateOf(t), states[i]);
        }
        due("undo() of no more", t.undo(), false);
        due("as it was", stateOf(t), states[0]);
        due("change(4, 31)", t.change(4, 31), true);
        due("undo() of it", t.undo(), true);
        due("undo() is no change", t.undo(), false);
    }

    private static void theLastThirty() {
        sentence(7, "(the last 30 can be)");
        for (int many = 29; many <= 32; many++) {
            FieldTower t = new FieldTower();
            int[] before = new int[many];
            for (int i = 0; i < many; i++) {
                int n = 8 + i % 5;
                before[i] = t.modulus(n);
                due("change " + i, t.change(n, t.next(before[i])), true);
                due("count(2)", t.count(2), Math.min(i + 1, 30));
            }
            for (int i = many - 1; i >= Math.max(0, many - 30); i--) {
                due("undo() of change " + i + " of " + many, t.undo(), true);
                due("modulus then", t.modulus(8 + i % 5), before[i]);
            }
            due("undo() of a 31st", t.undo(), false);
            due("count(2)", t.count(2), 0);
            due("count(4)", t.count(4), many == 31 ? 128 : many == 32 ? 128 + 256 : 0);
            due("change, after all", t.change(3, 13), true);
            due("undo()", t.undo(), true);
            due("modulus(3)", t.modulus(3), 11);
        }
    }

    // ---- slots

    private static void slots() {
        allIsHeld();
        noSuchSlot();
        allIsAsASlotHoldsIt();
        itStaysThere();
        itHoldsNothing();
    }

    private static void allIsHeld() {
        sentence(29, "All is held in a SLOT (0 .. 2): true");
        FieldTower t = with("let a 4 x^4; let b 12 a;");
        int[] fours = {19, 25, 31};
        String[] states = new String[3];
        for (int slot = 0; slot < 3; slot++) {
            t.change(4, fours[slot]);
            states[slot] = stateOf(t);
            due("hold(" + slot + ")", t.hold(slot), true);
            due("count(3)", t.count(3), slot + 1);
            due("count(2)", t.count(2), slot);
        }
        for (int slot = 2; slot >= 0; slot--) {
            due("restore(" + slot + ")", t.restore(slot), true);
            due("modulus(4)", t.modulus(4), fours[slot]);
            due("names", lets(stateOf(t)), lets(states[slot]));
        }
        due("hold(2) of another", t.hold(2), true);
        due("count(3)", t.count(3), 3);
        t.change(4, 31);
        due("restore(2)", t.restore(2), true);
        due("modulus(4)", t.modulus(4), 19);
    }

    private static String lets(String state) {
        String[] parts = state.split("[|]");
        return parts[0] + parts[2] + parts[3] + parts[4];
    }

    private static void noSuchSlot() {
        sentence(29, "false: no such one.");
        FieldTower t = new FieldTower();
        int[] none = {-1, 3, 4, LOWEST, GREATEST};
        for (int slot : none) {
            due("hold(" + slot + ")", t.hold(slot), false);
            due("count(3)", t.count(3), 0);
        }
    }

    private static void allIsAsASlotHoldsIt() {
        sentence(30, "All is as a SLOT holds it (it stays there; nothing can be undone then): true");
        FieldTower t = with("let a 4 x^4; let b 12 a + x^12; let c 1 x;");
        String before = stateOf(t);
        due("hold(0)", t.hold(0), true);
        int[][] moduli = {{1, 3}, {4, 25}, {12, 4179}, {8, 285}};
        for (int[] row : moduli) {
            due("change", t.change(row[0], row[1]), true);
        }
        due("count(2)", t.count(2), 4);
        due("restore(0)", t.restore(0), true);
        due("count(2)", t.count(2), 0);
        due("undo()", t.undo(), false);
        due("as it was", stateOf(t), before.replace("| 3 0 0", "| 3 0 1"));
        due("a new change", t.change(4, 25), true);
        due("undo() of it", t.undo(), true);
        due("undo() of what was ahead", t.undo(), false);
    }

    private static void itStaysThere() {
        sentence(30, "it stays there");
        FieldTower t = with("let a 4 x^4;");
        t.change(4, 31);
        t.hold(2);
        for (int i = 0; i < 3; i++) {
            due("change(4, 25)", t.change(4, 25), true);
            due("restore(2)", t.restore(2), true);
            due("count(3)", t.count(3), 1);
            due("modulus(4)", t.modulus(4), 31);
            due("let(0, 1)", t.let(0, 1), 15);
        }
        due("restore(2) of what it is", t.restore(2), true);
    }

    private static void itHoldsNothing() {
        sentence(30, "false, and nothing happens: no such one, it holds nothing.");
        FieldTower t = with("let a 4 x^4;");
        t.change(4, 25);
        t.hold(1);
        t.change(4, 31);
        String before = stateOf(t);
        int[] none = {-1, 0, 2, 3, 4, LOWEST, GREATEST};
        for (int slot : none) {
            due("restore(" + slot + ")", t.restore(slot), false);
            due("nothing happens", stateOf(t), before);
        }
        due("undo()", t.undo(), true);
    }

    // ---- counts

    private static void counts() {
        howMany();
        whoseModulusIsAnother();
        noSuchCount();
    }

    private static void howMany() {
        sentence(31, "How many NAMES, what 0; 1 bytes on the tape, 2 changes that can be undone, "
                + "3 SLOTS that hold something");
        FieldTower t = with(eightLets());
        due("count(0), the most", t.count(0), 8);
        put(t, repeat(" ", 2000));
        due("count(1), the most", t.count(1), 2000);
        for (int i = 0; i < 31; i++) {
            t.change(3, i % 2 == 0 ? 13 : 11);
        }
        due("count(2), the most", t.count(2), 30);
        for (int slot = 2; slot >= 0; slot--) {
            t.hold(slot);
            t.hold(slot);
            due("count(3)", t.count(3), 3 - slot);
        }
        t.undo();
        due("count(2)", t.count(2), 29);
        t.restore(0);
        due("count(2)", t.count(2), 0);
        due("count(3)", t.count(3), 3);
        due("read()", t.read(), 0);
        for (int what = 0; what <= 4; what++) {
            due("count(" + what + ") of the empty text", t.count(what), 0);
        }
    }

    private static void whoseModulusIsAnother() {
        sentence(31, "4 FIELDS (bit n less 1) whose MODULUS is another one than the least.");
        for (int n = 1; n <= 12; n++) {
            FieldTower t = new FieldTower();
            if (n == 2) {
                due("the field 2 has one modulus", t.change(2, 7), false);
                continue;
            }
            int least = t.modulus(n);
            due("change", t.change(n, t.next(least)), true);
            due("count(4)", t.count(4), 1 << (n - 1));
            due("change to the least", t.change(n, least), true);
            due("count(4)", t.count(4), 0);
        }
        due("told, but the least", with("modulus 4 10011;").count(4), 0);
        due("all but the field 2", with("modulus 1 11; modulus 3 1101; modulus 4 11001; modulus 5 101001; modulus 6 1011011;"
                + "modulus 7 10001001; modulus 8 100011101; modulus 9 1000010001; modulus 10 10000001111;"
                + "modulus 11 100000101011; modulus 12 1000001010011;").count(4), 4093);
    }

    private static void noSuchCount() {
        sentence(31, "NONE for others.");
        FieldTower t = with("modulus 4 11001; let a 4 x;");
        int[] none = {-1, 5, 6, LOWEST, GREATEST};
        for (int what : none) {
            due("count(" + what + ")", t.count(what), NONE);
        }
    }
}
