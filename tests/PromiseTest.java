/** For each promise: ordinary inputs, the edges that the document names, and wrong inputs. */
public final class PromiseTest extends Cases {
    public static void main(String[] args) {
        newObject();
        feed();
        back();
        read();
        syntaxFaults();
        roomFaults();
        senseFaults();
        zeroFaults();
        workedOut();
        place();
        change();
        undo();
        modulus();
        whole();
        next();
        wholes();
        both();
        power();
        element();
        raise();
        lower();
        down();
        least();
        solve();
        value();
        factor();
        period();
        coset();
        code();
        roots();
        field();
        written();
        let();
        hold();
        restore();
        count();
        end("all promises are kept");
    }

    private static void newObject() {
        promise(1);
        FieldTower t = new FieldTower();
        int[] least = {2, 7, 11, 19, 37, 67, 131, 283, 515, 1033, 2053, 4105};
        for (int n = 1; n <= 12; n++) {
            due("modulus(" + n + ")", t.modulus(n), least[n - 1]);
        }
        for (int what = 0; what <= 4; what++) {
            due("count(" + what + ")", t.count(what), 0);
        }
        due("let(0, 0)", t.let(0, 0), NONE);
        due("place()", t.place(), NONE);
        due("undo()", t.undo(), false);
        due("restore(0)", t.restore(0), false);
        due("NONE", FieldTower.NONE, -1);
    }

    private static void feed() {
        promise(2);
        FieldTower t = new FieldTower();
        // "let a 4 x;" with blanks before, between and behind.
        due("feed", t.feed(0x0a0d0920, 0x6c657420, 0x61203420, 0x783b2020, 0x20202020), 20);
        due("read()", t.read(), 0);
        due("let(0, 0)", t.let(0, 0), 4);
        for (int i = 1; i <= 100; i++) {
            due("feed " + i, t.feed(0, -1, i, LOWEST, GREATEST), 20 * i);
        }
        due("feed 101", t.feed(0, 0, 0, 0, 0), NONE);
        due("count(1)", t.count(1), 2000);
        due("back(19)", t.back(19), 1981);
        due("feed behind 1981", t.feed(0, 0, 0, 0, 0), NONE);
        due("back(1)", t.back(1), 1980);
        due("feed behind 1980", t.feed(0, 0, 0, 0, 0), 2000);
    }

    private static void back() {
        promise(3);
        FieldTower t = new FieldTower();
        due("back(0)", t.back(0), 0);
        due("back(1)", t.back(1), NONE);
        put(t, "let a 4 x; let");
        due("back(15)", t.back(15), NONE);
        due("back(-1)", t.back(-1), NONE);
        due("back(lowest)", t.back(LOWEST), NONE);
        due("back(greatest)", t.back(GREATEST), NONE);
        due("count(1)", t.count(1), 14);
        due("back(4)", t.back(4), 10);
        due("read()", t.read(), 0);
        due("count(0)", t.count(0), 1);
        put(t, "xyz");
        due("back(3)", t.back(3), 0);
        due("read()", t.read(), 0);
        due("count(0)", t.count(0), 0);
    }

    private static void read() {
        promise(4);
        FieldTower t = with("modulus 4 11001; modulus 3 1101; let a 4 x; let b 3 11;");
        due("count(4)", t.count(4), 12);
        due("read of a text in place of it", read(t, "modulus 4 11111;"), 0);
        due("modulus(4)", t.modulus(4), 31);
        due("modulus(3)", t.modulus(3), 11);
        due("count(0)", t.count(0), 0);
        due("read of nothing", t.read(), 0);
        due("modulus(4)", t.modulus(4), 19);
        due("the last one told", with("modulus 4 11001; modulus 4 11111;").modulus(4), 31);
        due("told behind its use", with("let a 4 x^4; modulus 4 11111;").let(0, 1), 15);
        due("noughts ahead", with("modulus 0000000000004 0000000011111;").modulus(4), 31);
        due("degree 12", with("modulus 12 1000001010011;").modulus(12), 4179);
        due("nothing between", with("let a4x^2+(x)*1;").let(0, 1), 6);
    }

    private static void syntaxFaults() {
        promise(4);
        faultOf("", 0, NONE);
        faultOf(" \t\r\n", 0, NONE);
        faultOf("let", 1, 3);
        faultOf("let ", 1, 4);
        faultOf("let a", 1, 5);
        faultOf("let a 4 x", 1, 9);
        faultOf("let a 4 x;;", 1, 10);
        faultOf("let a 4 ;", 1, 8);
        faultOf("let a x;", 1, 6);
        faultOf("let x 4 1;", 1, 4);
        faultOf("let let 4 1;", 1, 4);
        faultOf("let modulus 4 1;", 1, 4);
        faultOf("let a 4 let;", 1, 8);
        faultOf("x", 1, 0);
        faultOf("a 4 x;", 1, 0);
        faultOf("modulus 4;", 1, 9);
        faultOf("modulus 4 10011 1;", 1, 16);
        faultOf("modulus 4 x;", 1, 10);
        faultOf("moduli 4 10011;", 1, 0);
        faultOf("let abcdefghi 4 x;", 1, 4);
        faultOf("let abcdefgh 4 x;", 0, NONE);
        faultOf("let a 4 11111111111111;", 1, 8);
        faultOf("let a 4 1111111111111;", 0, NONE);
        faultOf("let a 4 x^2^3;", 1, 11);
        faultOf("let a 4 x^(10);", 1, 10);
        faultOf("let a 4 (x)^10;", 0, NONE);
        faultOf("let a 4 (x;", 1, 10);
        faultOf("let a 4 x);", 1, 9);
        faultOf("let a 4 ();", 1, 9);
        faultOf("let a 4 x+;", 1, 10);
        faultOf("let a 4 +x;", 1, 8);
        faultOf("let a 4 x-1;", 1, 9);
        faultOf("let a 4 x x;", 1, 10);
        faultOf("let A 4 x;", 1, 4);
        faultOf("let a 4 x" + (char) 233 + ";", 1, 9);
        faultOf("let a 4 x" + (char) 0 + ";", 1, 9);
        faultOf("let a 4 x; let a 99 nobody", 1, 26);
        faultOf("let a 4 10x;", 1, 10);
    }

    private static void roomFaults() {
        promise(4);
        StringBuilder eight = new StringBuilder();
        for (char c = 'a'; c < 'i'; c++) {
            eight.append("let ").append(c).append(" 1 1;");
        }
        faultOf(eight.toString(), 0, NONE);
        faultOf(eight + " let i 1 1;", 2, 81);
        faultOf(eight + " let 4", 2, 81);
        faultOf(eight + " modulus 1 11;", 0, NONE);
        faultOf(eight + " i", 1, 81);
        String deep = "let a 4 " + repeat("(", 8) + "x" + repeat(")", 8);
        faultOf(deep + ";", 0, NONE);
        faultOf("let a 4 " + repeat("(", 9) + "x" + repeat(")", 9) + ";", 2, 16);
        faultOf(deep + "+((x));", 0, NONE);
        // A let line of one x has 5 tokens, the last being its end; each +x has two more.
        String five = "let a 1 1;";
        faultOf(five + "let b 4 x" + repeat("+x", 195) + ";", 0, NONE);
        faultOf(five + "let b 4 x" + repeat("+x", 196) + ";", 2, 410);
        faultOf("let a 4 x" + repeat("+x", 197) + ";", 0, NONE);
        faultOf("let a 4 x" + repeat("+x", 197) + "^1;", 2, 405);
        faultOf("modulus 1 11;let a 4 x" + repeat("+x", 197) + ";", 2, 414);
        faultOf("let a 4 x" + repeat("+x", 198), 1, 405);
        faultOf("let a 4 x" + repeat("+x", 198) + "-", 1, 405);
        faultOf("let a 4 x" + repeat("+x", 198) + " x", 1, 406);
        faultOf("let a 4 x" + repeat("+x", 198) + " ;", 2, 406);
    }

    private static void senseFaults() {
        promise(4);
        faultOf("let a 4 x; let a 4 x;", 3, 15);
        faultOf("let a 4 b;", 4, 8);
        faultOf("let a 4 a;", 4, 8);
        faultOf("let a 4 b; let b 4 x;", 4, 8);
        faultOf("let a 0 x;", 5, 6);
        faultOf("let a 13 x;", 5, 6);
        faultOf("let a 9999999999999 x;", 5, 6);
        faultOf("let a 12 x;", 0, NONE);
        faultOf("modulus 0 1;", 5, 8);
        faultOf("modulus 13 10;", 5, 8);
        faultOf("modulus 4 10101;", 5, 10);
        faultOf("modulus 4 1011;", 5, 10);
        faultOf("modulus 4 100101;", 5, 10);
        faultOf("modulus 4 10021;", 5, 10);
        faultOf("modulus 1 1;", 5, 10);
        faultOf("modulus 1 10;", 0, NONE);
        faultOf("modulus 4 0;", 5, 10);
        faultOf("let a 4 12;", 5, 8);
        faultOf("let a 4 x^9999;", 0, NONE);
        faultOf("let a 4 x^10000;", 5, 10);
        faultOf("let a 4 x^0000000009999;", 0, NONE);
        faultOf("let a 4 x; let b 6 a;", 6, 19);
        faultOf("let a 4 x; let b 2 a;", 6, 19);
        faultOf("let a 4 x; let b 12 a;", 0, NONE);
        faultOf("let a 13 b; let a 4 2;", 5, 6);
        faultOf("let a 4 b + 2; let a 13 x;", 4, 8);
        faultOf("let a 4 2 + b;", 5, 8);
        faultOf("let a 4 1/0; let a 4 x;", 3, 17);
        faultOf("let a 4 1/0; let b 4 c;", 4, 21);
    }

    private static void zeroFaults() {
        promise(4);
        faultOf("let a 4 1/0;", 7, 9);
        faultOf("let a 4 1/(x+x);", 7, 9);
        faultOf("let a 4 0/x;", 0, NONE);
        faultOf("let a 4 1/0^0;", 0, NONE);
        faultOf("let a 4 1/10011;", 7, 9);
        faultOf("let a 4 1/(1/0);", 7, 12);
        faultOf("let a 4 1/0/(1/0);", 7, 9);
        faultOf("let a 4 (1/0)^0;", 7, 10);
        faultOf("let a 4 0*(1/0);", 7, 12);
        faultOf("let a 4 x*(x+1/x)/(x+x)+1/0;", 7, 17);
        faultOf("let a 4 x; let b 4 1/(a+x); let c 4 1/0;", 7, 20);
        faultOf("let a 1 1/x;", 7, 9);
        faultOf("modulus 1 11; let a 1 1/x;", 0, NONE);
        faultOf("let a 1 1/x; modulus 1 11;", 0, NONE);
        faultOf("let a 4 1/(x^4+x+1); modulus 4 11001;", 0, NONE);
        faultOf("let a 4 " + repeat("(", 8) + "1/0" + repeat(")", 8) + ";", 7, 17);
        FieldTower t = with("modulus 1 11; modulus 12 1000001010011; let a 12 x^12;");
        due("a text whose moduli are others", read(t, "modulus 6 1100001; let a 6 x; let b 6 1/(a+x);"), 7);
        due("modulus(1)", t.modulus(1), 3);
        due("modulus(6)", t.modulus(6), 67);
        due("modulus(12)", t.modulus(12), 4179);
        due("let(0, 1)", t.let(0, 1), 83);
        due("count(0)", t.count(0), 1);
    }

    private static void workedOut() {
        promise(4);
        FieldTower t = with("let a 4 x + x^2*x; let b 4 (x+1)/x; let c 4 x^0; let d 4 0^0; let e 4 0^5;"
                + "let f 4 x/x*x; let g 4 x/(x*x); let h 12 b*b;");
        int[] want = {10, 8, 1, 1, 0, 2, 9};
        for (int i = 0; i < want.length; i++) {
            due("let(" + i + ", 1)", t.let(i, 1), want[i]);
        }
        due("b raised and squared", t.let(7, 1), t.raise(4, 12, t.both(4, 8, 8, 1)));
        FieldTower u = with("let z 12 1000000000000; let y 3 1111111111111; let o 1 x; let w 1 11;");
        due("let(0, 1)", u.let(0, 1), 9);
        due("let(1, 1)", u.let(1, 1), u.value(3, 8191, 2));
        due("let(2, 1)", u.let(2, 1), 0);
        due("let(3, 1)", u.let(3, 1), 1);
        FieldTower s = with("let a 8 ((x+1)*x+1)*x; let b 8 (x*(x+(x*(x+1))^2)/x)+1; let c 8 1/(x/((x+1)/(x*x)));");
        due("nested products", s.let(0, 1), 14);
        due("nested sums", s.let(1, 1), 23);
        due("nested quotients", s.both(8, s.let(2, 1), 8, 1), 3);
        FieldTower v = with("modulus 1 11; let o 1 x; let w 1 11; let p 6 o + x;");
        due("let(0, 1)", v.let(0, 1), 1);
        due("let(1, 1)", v.let(1, 1), 0);
        due("let(2, 1)", v.let(2, 1), 3);
    }

    private static void place() {
        promise(5);
        FieldTower t = new FieldTower();
        due("place()", t.place(), NONE);
        due("read", read(t, "  ?"), 1);
        due("place()", t.place(), 2);
        put(t, "let a 4 1/0;");
        due("place() before the read", t.place(), 2);
        due("read", t.read(), 7);
        due("place()", t.place(), 9);
        due("read", read(t, "let a 4 x;"), 0);
        due("place()", t.place(), NONE);
        String blanks = repeat(" ", 1996);
        due("read of 2,000 bytes", read(t, blanks + "let "), 1);
        due("place()", t.place(), 2000);
    }

    private static void change() {
        promise(6);
        FieldTower t = with("let a 4 x^4; let b 12 a; let c 4 1/(x^4+x^3+x^2+x+1);");
        due("change(4, 25)", t.change(4, 25), true);
        due("modulus(4)", t.modulus(4), 25);
        due("let(0, 1)", t.let(0, 1), 9);
        due("let(1, 1)", t.let(1, 1), t.raise(4, 12, 9));
        due("value(12, 25, raised x)", t.value(12, 25, t.raise(4, 12, 2)), 0);
        due("change to what it is", t.change(4, 25), false);
        due("change that divides by 0", t.change(4, 31), false);
        due("modulus(4)", t.modulus(4), 25);
        due("let(0, 1)", t.let(0, 1), 9);
        due("count(2)", t.count(2), 1);
        due("change(4, 21)", t.change(4, 21), false);
        due("change(4, 11)", t.change(4, 11), false);
        due("change(4, 37)", t.change(4, 37), false);
        due("change(0, 1)", t.change(0, 1), false);
        due("change(13, 8219)", t.change(13, 8219), false);
        due("change(-1, 3)", t.change(-1, 3), false);
        due("change(4, -19)", t.change(4, -19), false);
        due("change(4, lowest)", t.change(4, LOWEST), false);
        due("change(lowest, greatest)", t.change(LOWEST, GREATEST), false);
        due("count(2)", t.count(2), 1);
        due("change(1, 3)", t.change(1, 3), true);
        due("change(1, 2)", t.change(1, 2), true);
        due("change(2, 7)", t.change(2, 7), false);
        due("change(12, 8137)", t.change(12, t.next(8000)), true);
        due("x of 4 in 12", t.value(12, 25, t.raise(4, 12, 2)), 0);
        due("the name in 12", t.let(1, 1), t.raise(4, 12, 9));
    }

    private static void undo() {
        promise(7);
        FieldTower t = with("let a 4 x^4; let b 8 a + x^8;");
        int before = t.let(1, 1);
        t.change(4, 25);
        int after = t.let(1, 1);
        t.change(8, 285);
        due("undo()", t.undo(), true);
        due("modulus(8)", t.modulus(8), 283);
        due("let(1, 1)", t.let(1, 1), after);
        due("undo()", t.undo(), true);
        due("modulus(4)", t.modulus(4), 19);
        due("let(0, 1)", t.let(0, 1), 3);
        due("let(1, 1)", t.let(1, 1), before);
        due("undo()", t.undo(), false);
        for (int i = 0; i < 33; i++) {
            due("change", t.change(3, i % 2 == 0 ? 13 : 11), true);
            due("count(2)", t.count(2), Math.min(30, i + 1));
        }
        for (int i = 29; i >= 0; i--) {
            due("undo()", t.undo(), true);
            due("modulus(3)", t.modulus(3), i % 2 == 0 ? 13 : 11);
        }
        due("undo()", t.undo(), false);
        due("modulus(3)", t.modulus(3), 13);
        FieldTower many = new FieldTower();
        for (int i = 0; i < 33; i++) {
            due("change", many.change(8 + i % 4, many.next(many.modulus(8 + i % 4))), true);
        }
        for (int i = 32; i >= 3; i--) {
            int n = 8 + i % 4;
            int former = many.modulus(n);
            due("undo()", many.undo(), true);
            due("the next of modulus(" + n + ")", many.next(many.modulus(n)), former);
        }
        due("undo()", many.undo(), false);
        t.change(5, 41);
        t.change(5, 4);
        due("a change that was none", t.count(2), 1);
        read(t, "let");
        due("undo() behind a fault", t.undo(), true);
        t.change(5, 41);
        read(t, "");
        due("undo() behind a text", t.undo(), false);
    }

    private static void modulus() {
        promise(8);
        FieldTower t = with("modulus 7 10001001;");
        due("modulus(7)", t.modulus(7), 137);
        due("modulus(6)", t.modulus(6), 67);
        due("modulus(0)", t.modulus(0), NONE);
        due("modulus(13)", t.modulus(13), NONE);
        due("modulus(-1)", t.modulus(-1), NONE);
        due("modulus(lowest)", t.modulus(LOWEST), NONE);
    }

    private static void whole() {
        promise(9);
        FieldTower t = new FieldTower();
        int[] wholes = {2, 3, 7, 11, 13, 19, 25, 31, 283, 4105, 4179};
        for (int p : wholes) {
            due("whole(" + p + ")", t.whole(p), 1);
        }
        int[] split = {4, 5, 6, 9, 15, 21, 27, 51, 8190, 1 << 12, 255};
        for (int p : split) {
            due("whole(" + p + ")", t.whole(p), 0);
        }
        int[] none = {0, 1, -1, -2, 8192, 8193, LOWEST, GREATEST};
        for (int p : none) {
            due("whole(" + p + ")", t.whole(p), NONE);
        }
        due("whole(8191)", t.whole(8191), 1);
    }

    private static void next() {
        promise(10);
        FieldTower t = new FieldTower();
        int[][] rows = {{0, 2}, {1, 2}, {2, 3}, {3, 7}, {4, 7}, {7, 11}, {13, 19}, {31, 37}, {4096, 4105},
            {8190, 8191}, {8191, NONE}, {8192, NONE}, {GREATEST, NONE}, {-1, NONE}, {LOWEST, NONE}};
        for (int[] row : rows) {
            due("next(" + row[0] + ")", t.next(row[0]), row[1]);
        }
    }

    private static void wholes() {
        promise(11);
        FieldTower t = new FieldTower();
        for (int n = 1; n <= 12; n++) {
            int many = 0;
            for (int p = 1 << n; p < 2 << n; p++) {
                many += t.whole(p);
            }
            due("wholes(" + n + ")", t.wholes(n), many);
        }
        due("wholes(12)", t.wholes(12), 335);
        due("wholes(0)", t.wholes(0), NONE);
        due("wholes(13)", t.wholes(13), NONE);
        due("wholes(lowest)", t.wholes(LOWEST), NONE);
    }

    private static void both() {
        promise(12);
        FieldTower t = new FieldTower();
        due("a product that is known", t.both(8, 0x57, 0x83, 1), 0xc1);
        due("two inverses", t.both(8, 0x53, 0xca, 1), 1);
        due("a sum", t.both(8, 0x57, 0x83, 0), 0xd4);
        due("a quotient", t.both(8, 0xc1, 0x83, 2), 0x57);
        due("0 by 1", t.both(8, 0, 1, 2), 0);
        due("by 0", t.both(8, 5, 0, 2), -2);
        due("0 by 0", t.both(8, 0, 0, 2), -2);
        due("NONE ahead of -2", t.both(8, 256, 0, 2), NONE);
        due("n 0", t.both(0, 0, 0, 0), NONE);
        due("n 13", t.both(13, 0, 0, 0), NONE);
        due("a -1", t.both(8, -1, 0, 0), NONE);
        due("b 256", t.both(8, 0, 256, 1), NONE);
        due("what 3", t.both(8, 1, 0, 3), NONE);
        due("what -1", t.both(8, 1, 1, -1), NONE);
        due("field 1", t.both(1, 1, 1, 2), 1);
        t.change(8, 285);
        due("a product by another modulus", t.both(8, 128, 2, 1), 29);
    }

    private static void power() {
        promise(13);
        FieldTower t = new FieldTower();
        due("x to the 8", t.power(8, 2, 8), 27);
        due("3 to the 255", t.power(8, 3, 255), 1);
        due("to the 0", t.power(8, 77, 0), 1);
        due("0 to the 0", t.power(8, 0, 0), 1);
        due("0 to the 1", t.power(8, 0, 1), 0);
        due("0 to the -1", t.power(8, 0, -1), -2);
        due("inverse", t.power(8, 0x53, -1), 0xca);
        due("to the greatest", t.power(3, 2, GREATEST), t.power(3, 2, GREATEST % 7));
        due("to the lowest", t.power(3, 2, LOWEST), 7);
        due("0 to the lowest", t.power(3, 0, LOWEST), -2);
        due("no element", t.power(3, 8, -1), NONE);
        due("no field", t.power(13, 1, 1), NONE);
        due("below 0", t.power(3, -1, 1), NONE);
        due("field 1", t.power(1, 1, -5), 1);
    }

    private static void element() {
        promise(14);
        FieldTower t = new FieldTower();
        int[] aes = {0xca, t.power(8, 0x53, 128)};
        due("INVERSE", t.element(8, 0x53, 0), aes[0]);
        due("the square root", t.element(8, 0x53, 1), aes[1]);
        due("its square", t.both(8, aes[1], aes[1], 1), 0x53);
        due("ORDER of x", t.element(8, 2, 2), 51);
        due("ORDER of 3", t.element(8, 3, 2), 255);
        due("ORDER of 1", t.element(12, 1, 2), 1);
        due("LOGARITHM of 3", t.element(8, 3, 3), 1);
        due("LOGARITHM of x", t.element(8, 2, 3), 25);
        due("LOGARITHM of 1", t.element(8, 1, 3), 0);
        due("DEGREE of x", t.element(8, 2, 4), 8);
        due("DEGREE below", t.element(8, t.raise(4, 8, 2), 4), 4);
        due("DEGREE of 1", t.element(8, 1, 4), 1);
        due("the least CONJUGATE", t.element(4, 12, 5), 8);
        due("CONJUGATES", t.element(8, t.raise(2, 8, 2), 6), 2);
        due("PRIMITIVE x", t.element(8, 2, 7), 0);
        due("PRIMITIVE 3", t.element(8, 3, 7), 1);
        due("PRIMITIVE 0", t.element(1, 0, 7), 0);
        due("NORMAL 8", t.element(4, 8, 8), 1);
        due("NORMAL 1", t.element(4, 1, 8), 0);
        due("COORDINATES of 1", t.element(4, 1, 9), 15);
        due("COORDINATES of the 2nd", t.element(4, t.power(4, 8, 4), 9), 4);
        due("DUAL of none", t.element(4, 1, 10), -2);
        due("DUAL of 0", t.element(4, 0, 10), -2);
        dualByTraces(t, 8, t.field(8, 2));
        dualByTraces(t, 12, t.field(12, 2));
        int[] zero = {-2, 0, -2, -2, 1, 0, 1, 0, 0, 0, -2};
        for (int what = 0; what <= 10; what++) {
            due("element(12, 0, " + what + ")", t.element(12, 0, what), zero[what]);
            due("element(12, 4096, " + what + ")", t.element(12, 4096, what), NONE);
            due("element(0, 0, " + what + ")", t.element(0, 0, what), NONE);
        }
        due("what 11", t.element(3, 0, 11), NONE);
        due("what -1", t.element(3, 0, -1), NONE);
        due("a -1", t.element(3, -1, 0), NONE);
        t.solve(4, 1, 1, 0);
        due("COORDINATES behind another call", t.element(4, 1, 9), 15);
        t.change(8, 285);
        due("ORDER by another modulus", t.element(8, 2, 2), 255);
        due("LOGARITHM by another modulus", t.element(8, 2, 3), 1);
        due("COORDINATES by another modulus", t.element(8, t.field(8, 2), 9), 1);
        for (int p = t.next(256); p < 512; p = t.next(p)) {
            t.change(8, p);
            FieldTower fresh = new FieldTower();
            fresh.change(8, p);
            for (int what = 2; what <= 10; what++) {
                due("element(8, 77, " + what + ") by " + p, t.element(8, 77, what), fresh.element(8, 77, what));
            }
            due("NORMAL by " + p, t.element(8, t.field(8, 2), 8), 1);
            dualByTraces(t, 8, t.field(8, 2));
        }
    }

    private static void dualByTraces(FieldTower t, int n, int b) {
        int c = t.element(n, b, 10);
        for (int i = 0; i < n; i++) {
            int product = t.both(n, c, t.power(n, b, 1 << i), 1);
            due("trace " + i + " with the DUAL", t.down(n, 1, product, false), i == 0 ? 1 : 0);
        }
    }

    private static void raise() {
        promise(15);
        FieldTower t = new FieldTower();
        for (int round = 0; round < 2; round++) {
            for (int z = 0; z < 4; z++) {
                int one = t.raise(4, 12, t.raise(2, 4, z));
                due("2 over 4 to 12", one, t.raise(2, 12, z));
                due("2 over 6 to 12", t.raise(6, 12, t.raise(2, 6, z)), one);
            }
            for (int z = 0; z < 8; z++) {
                due("3 over 6 to 12", t.raise(6, 12, t.raise(3, 6, z)), t.raise(3, 12, z));
            }
            t.change(4, 31);
            t.change(6, 97);
            t.change(12, 4179);
            t.change(3, 13);
        }
        for (int four = t.next(15); four < 32; four = t.next(four)) {
            for (int six = t.next(63); six < 128; six = t.next(six)) {
                t.change(4, four);
                t.change(6, six);
                due("2 over 4 and 6, " + four + ", " + six, t.raise(4, 12, t.raise(2, 4, 2)), t.raise(6, 12, t.raise(2, 6, 2)));
                due("x of 4, " + four, t.value(12, four, t.raise(4, 12, 2)), 0);
                due("x of 6, " + six, t.raise(6, 12, 2), t.element(12, t.raise(6, 12, 2), 5));
            }
        }
        FieldTower u = new FieldTower();
        due("r(2, 4)", u.raise(2, 4, 2), 6);
        due("r(2, 6): the least root of x x + x + 1", u.value(6, 7, u.raise(2, 6, 2)), 0);
        due("its other root is greater", u.raise(2, 6, 3) > u.raise(2, 6, 2) ? 1 : 0, 1);
        due("1 is 1", u.raise(5, 10, 1), 1);
        due("field 1, 0", u.raise(1, 12, 0), 0);
        due("field 1, 1", u.raise(1, 12, 1), 1);
        due("to itself", u.raise(12, 12, 4095), 4095);
        due("field 1 to itself", u.raise(1, 1, 1), 1);
        due("2 to 3", u.raise(2, 3, 1), -2);
        due("4 to 2", u.raise(4, 2, 1), -2);
        due("NONE ahead of -2", u.raise(2, 3, 4), NONE);
        due("a -1", u.raise(2, 4, -1), NONE);
        due("d 0", u.raise(0, 4, 0), NONE);
        due("d 13", u.raise(13, 13, 0), NONE);
        due("n 0", u.raise(2, 0, 0), NONE);
    }

    private static void lower() {
        promise(16);
        FieldTower t = new FieldTower();
        int[][] pairs = {{1, 12}, {2, 12}, {3, 12}, {4, 12}, {6, 12}, {12, 12}, {3, 9}, {5, 10}, {2, 10}, {4, 8}};
        for (int[] pair : pairs) {
            for (int a = 0; a < Math.min(8, 1 << pair[0]); a++) {
                due("there and back", t.lower(pair[1], pair[0], t.raise(pair[0], pair[1], a)), a);
            }
        }
        due("the first call", new FieldTower().lower(4, 2, 6), 2);
        due("none below", t.lower(12, 6, 2), -2);
        due("3 of 4", t.lower(4, 3, 1), -2);
        due("4 of 2", t.lower(2, 4, 1), -2);
        due("NONE ahead of -2", t.lower(4, 3, 16), NONE);
        due("d 0", t.lower(4, 0, 1), NONE);
        due("d 13", t.lower(4, 13, 1), NONE);
        due("n 13", t.lower(13, 1, 1), NONE);
        due("a -1", t.lower(4, 2, -1), NONE);
    }

    private static void down() {
        promise(17);
        FieldTower t = new FieldTower();
        due("the first call", new FieldTower().down(12, 6, t.raise(6, 12, 2), true), t.both(6, 2, 2, 1));
        due("NORM of 0 in the field 1", t.down(1, 1, 0, true), 0);
        due("TRACE", t.down(4, 2, 2, false), 1);
        due("NORM", t.down(4, 2, 2, true), 2);
        due("TRACE of 1, 3 times", t.down(3, 1, 1, false), 1);
        due("TRACE of 1, 4 times", t.down(4, 1, 1, false), 0);
        due("NORM of 0", t.down(12, 3, 0, true), 0);
        due("TRACE to itself", t.down(12, 12, 99, false), 99);
        due("NORM to itself", t.down(12, 12, 99, true), 99);
        for (int a = 1; a < 4096; a += 371) {
            due("TRACE in two steps", t.down(4, 2, t.down(12, 4, a, false), false), t.down(12, 2, a, false));
            due("NORM in two steps", t.down(6, 3, t.down(12, 6, a, true), true), t.down(12, 3, a, true));
        }
        due("3 of 4", t.down(4, 3, 1, true), -2);
        due("NONE ahead of -2", t.down(4, 3, 16, false), NONE);
        due("d 0", t.down(4, 0, 1, false), NONE);
        due("n 13", t.down(13, 1, 1, true), NONE);
    }

    private static void least() {
        promise(18);
        FieldTower t = new FieldTower();
        for (int k = 0; k <= 8; k++) {
            due("over 1 of x is the modulus", t.least(8, 1, 2, k), 283 >> k & 1);
        }
        due("its degree", t.least(8, 1, 2, NONE), 8);
        due("over 4 of x", t.least(12, 4, 2, NONE), 3);
        int sum = 0;
        for (int k = 0; k <= 3; k++) {
            sum ^= t.both(12, t.raise(4, 12, t.least(12, 4, 2, k)), t.power(12, 2, k), 1);
        }
        due("x makes it 0", sum, 0);
        due("1 before the highest", t.least(12, 4, 2, 3), 1);
        due("over itself", t.least(12, 12, 77, NONE), 1);
        due("over itself, 0", t.least(12, 12, 77, 0), 77);
        due("over itself, 1", t.least(12, 12, 77, 1), 1);
        due("of 0", t.least(12, 3, 0, NONE), 1);
        due("of 0, 0", t.least(12, 3, 0, 0), 0);
        due("beyond the degree", t.least(12, 4, 2, 4), NONE);
        due("i -2", t.least(12, 4, 2, -2), NONE);
        due("5 of 12", t.least(12, 5, 2, NONE), -2);
        due("5 of 12, i 100", t.least(12, 5, 2, 100), -2);
        due("5 of 12, i -2", t.least(12, 5, 2, -2), NONE);
        due("no element", t.least(12, 5, 4096, 0), NONE);
        due("d 0", t.least(12, 0, 2, 0), NONE);
        due("n 13", t.least(13, 1, 2, 0), NONE);
        due("i greatest", t.least(12, 4, 2, GREATEST), NONE);
    }

    private static void solve() {
        promise(19);
        FieldTower t = new FieldTower();
        due("how many", t.solve(8, 1, t.both(8, 9, 8, 1), 0), 2);
        due("the least", t.solve(8, 1, t.both(8, 9, 8, 1), 1), 8);
        due("none", t.solve(2, 1, 2, 0), 0);
        due("none, the least", t.solve(2, 1, 2, 1), -2);
        due("b 0", t.solve(8, 0, 5, 0), 1);
        due("b 0, the root", t.solve(8, 0, 5, 1), t.element(8, 5, 1));
        due("c 0", t.solve(8, 77, 0, 1), 0);
        due("b 0, c 0", t.solve(12, 0, 0, 0), 1);
        due("what 2", t.solve(8, 1, 1, 2), NONE);
        due("what -1", t.solve(8, 1, 1, -1), NONE);
        due("b 256", t.solve(8, 256, 1, 0), NONE);
        due("c -1", t.solve(8, 1, -1, 1), NONE);
        due("n 0", t.solve(0, 0, 0, 0), NONE);
    }

    private static void value() {
        promise(20);
        FieldTower t = new FieldTower();
        due("the modulus at x", t.value(12, 4105, 2), 0);
        due("at 0", t.value(12, 8191, 0), 1);
        due("at 1", t.value(12, 8191, 1), 1);
        due("x x + x at 3", t.value(4, 6, 3), t.both(4, 3, 2, 1));
        due("0", t.value(4, 0, 7), 0);
        due("1", t.value(4, 1, 7), 1);
        due("below 0", t.value(4, -1, 1), NONE);
        due("8192", t.value(4, 8192, 1), NONE);
        due("no element", t.value(4, 1, 16), NONE);
        due("no field", t.value(0, 1, 0), NONE);
    }

    private static void factor() {
        promise(21);
        FieldTower t = new FieldTower();
        factors(t, 2, 2);
        factors(t, 3, 3);
        factors(t, 4, 2, 2);
        factors(t, 5, 3, 3);
        factors(t, 6, 2, 3);
        factors(t, 9, 3, 7);
        factors(t, 21, 7, 7);
        factors(t, 129, 3, 11, 13);
        factors(t, 4096, 2, 2, 2, 2, 2, 2, 2, 2, 2, 2, 2, 2);
        factors(t, 283, 283);
        factors(t, 8191, 8191);
        int[] none = {1, 0, -1, 8192, LOWEST, GREATEST};
        for (int p : none) {
            due("factor(" + p + ", -1)", t.factor(p, NONE), NONE);
            due("factor(" + p + ", 0)", t.factor(p, 0), NONE);
        }
        due("i -2", t.factor(6, -2), NONE);
        due("i greatest", t.factor(6, GREATEST), NONE);
    }

    private static void factors(FieldTower t, int p, int... want) {
        due("factor(" + p + ", -1)", t.factor(p, NONE), want.length);
        for (int i = 0; i < want.length; i++) {
            due("factor(" + p + ", " + i + ")", t.factor(p, i), want[i]);
        }
        due("factor(" + p + ", " + want.length + ")", t.factor(p, want.length), NONE);
    }

    private static void period() {
        promise(22);
        FieldTower t = new FieldTower();
        int[][] rows = {{3, 1}, {5, 2}, {7, 3}, {11, 7}, {19, 15}, {31, 5}, {283, 51}, {285, 255}, {8191, 13},
            {4097, 12}, {4179, 4095}, {4105, 45}, {2, -2}, {6, -2}, {8190, -2}, {1, NONE}, {0, NONE}, {-3, NONE},
            {8192, NONE}, {8193, NONE}, {LOWEST, NONE}};
        for (int[] row : rows) {
            due("period(" + row[0] + ")", t.period(row[0]), row[1]);
        }
    }

    private static void coset() {
        promise(23);
        FieldTower t = new FieldTower();
        due("least", t.coset(4, 12, 0), 3);
        due("many", t.coset(4, 12, 1), 4);
        due("10 by 4", t.coset(4, 10, 0), 5);
        due("10 by 4, many", t.coset(4, 10, 1), 2);
        due("0", t.coset(4, 0, 0), 0);
        due("0, many", t.coset(4, 0, 1), 1);
        due("the last", t.coset(12, 4094, 0), 2047);
        due("the last, many", t.coset(12, 4094, 1), 12);
        due("1 by 1", t.coset(1, 0, 1), 1);
        due("beyond 1", t.coset(1, 1, 0), NONE);
        due("beyond 4", t.coset(4, 15, 0), NONE);
        due("below 0", t.coset(4, -1, 0), NONE);
        due("what 2", t.coset(4, 1, 2), NONE);
        due("what -1", t.coset(4, 1, -1), NONE);
        due("n 0", t.coset(0, 0, 0), NONE);
        due("n 13", t.coset(13, 0, 0), NONE);
        due("n 31", t.coset(31, 1, 0), NONE);
    }

    private static void code() {
        promise(24);
        FieldTower t = new FieldTower();
        long[] four = {19, 19, 465, 465, 1335};
        for (int i = 1; i <= 5; i++) {
            due("code(4, " + i + ")", t.code(4, i), four[i - 1]);
        }
        due("code(2, 5)", t.code(2, 5), 9);
        due("code(3, 5)", t.code(3, 5), 127);
        long long12 = t.code(12, 5);
        due("degree 36", 63 - Long.numberOfLeadingZeros(long12), 36);
        due("n 1", t.code(1, 1), NONE);
        due("n 13", t.code(13, 1), NONE);
        due("t 0", t.code(4, 0), NONE);
        due("t 6", t.code(4, 6), NONE);
        due("lowest", t.code(LOWEST, LOWEST), NONE);
        t.change(4, 31);
        due("code by another modulus", t.code(4, 1), t.value(4, 19, t.field(4, 0)) == 0 ? 19 : 25);
    }

    private static void roots() {
        promise(25);
        FieldTower t = new FieldTower();
        due("cube roots of 1", t.roots(4, 1, 3, 0), 3);
        due("the least", t.roots(4, 1, 3, 1), 1);
        due("no cube root", t.roots(4, 2, 3, 0), 0);
        due("no cube root, the least", t.roots(4, 2, 3, 1), -2);
        due("a cube root", t.roots(4, t.power(4, 9, 3), 3, 0), 3);
        due("of 0", t.roots(4, 0, 7, 0), 1);
        due("of 0, the least", t.roots(4, 0, 7, 1), 0);
        due("square root", t.roots(8, 5, 2, 1), t.element(8, 5, 1));
        due("all", t.roots(12, 1, 4095, 0), 4095);
        due("k 9999", t.roots(12, 1, 9999, 0), 9);
        due("k 10000", t.roots(12, 1, 10000, 0), NONE);
        due("k 0", t.roots(12, 1, 0, 0), NONE);
        due("k -1", t.roots(12, 1, -1, 0), NONE);
        due("what 2", t.roots(12, 1, 1, 2), NONE);
        due("a 4096", t.roots(12, 4096, 1, 0), NONE);
        due("n 0", t.roots(0, 0, 1, 0), NONE);
        due("field 1", t.roots(1, 1, 5, 1), 1);
        due("k 1", t.roots(6, 45, 1, 1), 45);
        int[] powers = {1, 3, 7, 9, 21, 63, 64, 5};
        for (int k : powers) {
            for (int a = 0; a < 64; a++) {
                int many = 0;
                int least = -2;
                for (int y = 63; y >= 0; y--) {
                    if (t.power(6, y, k) == a) {
                        many++;
                        least = y;
                    }
                }
                due("roots(6, " + a + ", " + k + ", 0)", t.roots(6, a, k, 0), many);
                due("roots(6, " + a + ", " + k + ", 1)", t.roots(6, a, k, 1), least);
            }
        }
    }

    private static void field() {
        promise(26);
        FieldTower t = new FieldTower();
        for (int n = 1; n <= 9; n++) {
            int[] many = new int[3];
            int[] first = {0, 0};
            for (int a = (1 << n) - 1; a >= 0; a--) {
                if (t.element(n, a, 7) == 1) {
                    many[0]++;
                    first[0] = a;
                }
                if (t.element(n, a, 8) == 1) {
                    many[1]++;
                    first[1] = a;
                }
                many[2] += t.element(n, a, 4) == n ? 1 : 0;
            }
            due("field(" + n + ", 0)", t.field(n, 0), first[0]);
            due("field(" + n + ", 1)", t.field(n, 1), many[0]);
            due("field(" + n + ", 2)", t.field(n, 2), first[1]);
            due("field(" + n + ", 3)", t.field(n, 3), many[1]);
            due("field(" + n + ", 4)", t.field(n, 4), many[2]);
        }
        due("field(12, 1)", t.field(12, 1), 1728);
        due("field(12, 3)", t.field(12, 3), 1536);
        due("field(12, 4)", t.field(12, 4), 4020);
        due("field(12, 5)", t.field(12, 5), 2095);
        due("field(11, 5)", t.field(11, 5), 1025);
        due("what 6", t.field(4, 6), NONE);
        due("what -1", t.field(4, -1), NONE);
        due("n 0", t.field(0, 0), NONE);
        due("n 13", t.field(13, 5), NONE);
        t.change(8, 285);
        due("field(8, 0) by another modulus", t.field(8, 0), 2);
        due("field(8, 2) by another modulus", t.element(8, t.field(8, 2), 8), 1);
    }

    private static void written() {
        promise(27);
        FieldTower t = new FieldTower();
        same(t, 12, 4095, 0, "a^11+a^10+a^9+a^8+a^7+a^6+a^5+a^4+a^3+a^2+a+1");
        same(t, 4, 0, 25, "0");
        same(t, 4, 1, 25, "1");
        same(t, 4, 2, 25, "z");
        same(t, 4, 12, 23, "x^3+x^2");
        same(t, 4, 3, 12, "m+1");
        same(t, 11, 1024, 1, "b^10");
        due("letter 26", t.written(4, 1, 26, 0), NONE);
        due("letter -1", t.written(4, 1, -1, 0), NONE);
        due("i -2", t.written(4, 1, 0, -2), NONE);
        due("i greatest", t.written(4, 1, 0, GREATEST), NONE);
        due("a 16", t.written(4, 16, 0, 0), NONE);
        due("n 13", t.written(13, 1, 0, 0), NONE);
    }

    private static void same(FieldTower t, int n, int a, int letter, String want) {
        due("length of " + want, t.written(n, a, letter, NONE), want.length());
        for (int i = 0; i < want.length(); i++) {
            due("byte " + i + " of " + want, t.written(n, a, letter, i), want.charAt(i));
        }
        due("behind " + want, t.written(n, a, letter, want.length()), NONE);
    }

    private static void let() {
        promise(28);
        FieldTower t = with("let a 2 x; let b 12 a + 1; let c 12 x; let z 6 0;");
        int[][] want = {{2, 2, 2, 2}, {12, t.raise(2, 12, 3), 2, 3}, {12, 2, 12, 2}, {6, 0, 1, 0}};
        for (int i = 0; i < 4; i++) {
            for (int what = 0; what < 4; what++) {
                due("let(" + i + ", " + what + ")", t.let(i, what), want[i][what]);
            }
        }
        FieldTower first = with("let a 12 (x+1)^1365;");
        int lowered = first.let(0, 3);
        due("DEGREE", first.let(0, 2), 2);
        due("LOWERED by the first call", first.raise(2, 12, lowered), first.let(0, 1));
        due("i 4", t.let(4, 0), NONE);
        for (int i = 0; i < 2; i++) {
            read(t, "let a 2 x; let b 4 x; let c 6 x;");
        }
        read(t, "let a 2 x;");
        due("i 0", t.let(0, 0), 2);
        due("a name of the text ahead", t.let(1, 0), NONE);
        due("i -1", t.let(-1, 0), NONE);
        due("what 4", t.let(0, 4), NONE);
        due("what -1", t.let(0, -1), NONE);
        due("lowest", t.let(LOWEST, LOWEST), NONE);
        due("greatest", t.let(GREATEST, 0), NONE);
    }

    private static void hold() {
        promise(29);
        FieldTower t = with("let a 4 x^4;");
        due("hold(-1)", t.hold(-1), false);
        due("hold(3)", t.hold(3), false);
        due("count(3)", t.count(3), 0);
        due("hold(0)", t.hold(0), true);
        due("hold(2)", t.hold(2), true);
        due("count(3)", t.count(3), 2);
        due("hold(2) again", t.hold(2), true);
        due("count(3)", t.count(3), 2);
        t.change(4, 25);
        due("hold over", t.hold(2), true);
        due("undo() stays", t.count(2), 1);
        t.undo();
        due("restore(2)", t.restore(2), true);
        due("modulus(4)", t.modulus(4), 25);
        due("let(0, 1)", t.let(0, 1), 9);
    }

    private static void restore() {
        promise(30);
        FieldTower t = with("let a 4 x^4; let b 12 a;");
        int before = t.let(1, 1);
        due("restore(0) of nothing", t.restore(0), false);
        t.hold(0);
        t.change(4, 25);
        t.change(12, 4179);
        due("restore(1)", t.restore(1), false);
        due("restore(-1)", t.restore(-1), false);
        due("restore(3)", t.restore(3), false);
        due("modulus(4)", t.modulus(4), 25);
        due("count(2)", t.count(2), 2);
        due("restore(0)", t.restore(0), true);
        due("modulus(4)", t.modulus(4), 19);
        due("modulus(12)", t.modulus(12), 4105);
        due("let(0, 1)", t.let(0, 1), 3);
        due("let(1, 1)", t.let(1, 1), before);
        due("undo()", t.undo(), false);
        due("count(2)", t.count(2), 0);
        t.change(4, 31);
        due("it stays there", t.restore(0), true);
        due("modulus(4)", t.modulus(4), 19);
        read(t, "let a 4 y;");
        due("behind a fault", t.restore(0), true);
        read(t, "let a 4 x;");
        due("behind a text", t.restore(0), false);
        due("count(3)", t.count(3), 0);
    }

    private static void count() {
        promise(31);
        FieldTower t = with("modulus 12 1000001010011; modulus 1 11; let a 4 x; let b 4 a;");
        due("count(0)", t.count(0), 2);
        put(t, "let a");
        due("count(1)", t.count(1), 5);
        t.change(3, 13);
        due("count(2)", t.count(2), 1);
        t.hold(1);
        due("count(3)", t.count(3), 1);
        due("count(4)", t.count(4), 2048 + 1 + 4);
        t.change(12, 4105);
        due("count(4)", t.count(4), 1 + 4);
        due("count(5)", t.count(5), NONE);
        due("count(-1)", t.count(-1), NONE);
        due("count(lowest)", t.count(LOWEST), NONE);
    }
}
