/** Promises 5 to 7: feed, text, force. */
public final class TextsTest {
    private static final Check check = new Check();

    public static void main(String[] args) {
        feed();
        texts();
        faults();
        open();
        values();
        names();
        force();
        check.end();
    }

    private static void feed() {
        BeforeItGoes x = new BeforeItGoes();
        check.due("P5 feed(-1)", x.feed(-1), -2);
        check.due("P5 feed(256)", x.feed(256), -2);
        check.due("P5 none came", x.count(8), 0);
        check.due("P5 feed(0)", x.feed(0), 1);
        check.due("P5 feed(255)", x.feed(255), 2);
        for (int n = 3; n <= 160; n++) {
            check.due("P5 byte " + n, x.feed(32), n);
        }
        check.due("P5 byte 161", x.feed(32), -4);
        check.due("P5 byte 161, bad", x.feed(256), -2);
        check.due("P5 160 bytes", x.count(8), 160);
        check.due("P5 at place 0 none such", x.text(), -100);
        check.due("P5 empty by a FAULT", x.count(8), 0);
        check.due("P5 again", x.feed(97), 1);
    }

    private static void texts() {
        BeforeItGoes x = new BeforeItGoes();
        for (int number = 1; number <= 5; number++) {
            check.due("P6 TEXT " + number, Check.learn(x, "ripens 9;takes 9;spoils 9;"), number);
            check.due("P6 an empty tape", x.count(8), 0);
            check.due("P6 how many", x.count(7), number + 1);
        }
        x.feed(63);
        check.due("P6 a seventh", x.text(), -4);
        check.due("P6 the tape stays", x.count(8), 1);
        check.due("P6 six", x.count(7), 6);

        // each is its own, however long the ones ahead of it, and whatever was open in a FAULT
        BeforeItGoes z = new BeforeItGoes();
        z.wall(0, 0, 1);
        for (int number = 1; number <= 5; number++) {
            check.due("P6 a FAULT", Check.learn(z, "ripens ((not -("), -115);
            String text = "ripens " + number + "+(((((0)))))" + "+0".repeat(number == 2 ? 55 : 5) + ";takes " + number + ";spoils 9;";
            check.due("P6 a TEXT long or short " + number, Check.learn(z, text), number);
        }
        for (int number = 1; number <= 5; number++) {
            z.force(number);
            check.due("P6 ripens by TEXT " + number, z.told(0, 4), number);
            check.due("P6 takes by TEXT " + number, z.told(0, 6), number);
        }

        BeforeItGoes y = new BeforeItGoes();
        StringBuilder full = new StringBuilder("ripens 1;takes 1;spoils 1;");
        while (full.length() < 160) {
            full.append(full.length() % 2 == 0 ? ' ' : '\n');
        }
        check.due("P6 160 bytes", Check.learn(y, full.toString()), 1);
        String sums = "1+".repeat(65);
        check.due("P6 as many TOKENS as can be", Check.learn(y, "ripens 1;takes 1;spoils " + sums + "1;"), 2);
    }

    private static void fault(String text, int place) {
        BeforeItGoes x = new BeforeItGoes();
        check.due("P6 text() of " + text, Check.learn(x, text), -100 - place);
        check.due("P6 no TEXT came of " + text, x.count(7), 1);
        check.due("P6 an empty tape by " + text, x.count(8), 0);
    }

    private static void good(String text) {
        check.due("P6 text() of " + text, Check.learn(new BeforeItGoes(), text), 1);
    }

    private static void faults() {
        fault("", 0);
        fault("  \n", 3);
        fault("ripens", 6);
        fault("ripens 1 ; takes 1 ; spoils 1", 29);
        fault("ripens 1 ; takes 1 ; spoils 1  ", 31);
        fault("ripens 1;takes 1;", 17);
        fault("takes 1;", 0);
        fault(" ripens ;", 8);
        fault("ripens 1;spoils 1;", 9);
        fault("ripens 1;takes 1;spoils 1;ripens 1;", 26);
        fault("ripens 1;takes 1;spoils 1;;", 26);
        fault("ripens 1;takes 1;spoils 1; ?", 27);
        fault("ripens 1 1;", 9);
        fault("ripens 1 warm;", 9);
        fault("ripens 1warm;", 8);
        fault("ripens 12345;", 7);
        fault("ripens 1+00001;", 9);
        fault("ripens warmth;", 7);
        fault("ripens notwarm;", 7);
        fault("ripens Warm;", 7);
        fault("ripens warmz;", 7);
        fault("ripens awarm;", 7);
        fault("ripens {1};", 7);
        fault("ripens `1;", 7);
        fault("ripens 1\t;", 8);
        fault("ripens 1\r;", 8);
        fault("ripens 1 > 2;", 9);
        fault("ripens 1 / 2;", 9);
        fault("ripens (1;", 9);
        fault("ripens 1);", 8);
        fault("ripens ();", 8);
        fault("ripens 1 + ;", 11);
        fault("ripens 1 * * 2;", 11);
        fault("ripens * 2;", 7);
        fault("ripens + 2;", 7);
        fault("ripens 1 < 2 < 3;", 13);
        fault("ripens 1 = 2 < 3;", 13);
        fault("ripens not 1 < 2 = 3;", 17);
        fault("ripens 1 < not 2;", 11);
        fault("ripens 1 + not 2;", 11);
        fault("ripens - not 2;", 9);
        fault("ripens 1 not 2;", 9);
        fault("ripens 1 or;", 11);
        fault("ripens or 1;", 7);
        fault("ripens 1 and or 1;", 13);
        fault("ripens takes 1;", 7);
        fault("ripens 1 takes 1;", 9);
        fault("ripens 1 \u00ff;", 9);
        fault("ripens 1 \u0000;", 9);
        good("ripens 9999;takes 0000;spoils(warm);");
        good("ripens9;takes9;spoils9;");
        good("ripens\n1 ;\n takes 1;spoils not not 1 and - - 1 or(1)=1;  ");
        good("ripens 2*-3;takes (1<2)<3;spoils not 1<2 and 1=2 or 3;");
    }

    /** A ( , a not, a - ahead of a ONE: 5 may be open, a sixth may not. */
    private static void open() {
        String rest = ";takes 1;spoils 1;";
        good("ripens (((((1)))))" + rest);
        fault("ripens ((((((1))))))" + rest, 12);
        good("ripens -----1" + rest);
        fault("ripens ------1" + rest, 12);
        good("ripens not not not not not 1" + rest);
        fault("ripens not not not not not not 1" + rest, 27);
        good("ripens (((((1-1)))))" + rest);
        fault("ripens (((((-1)))))" + rest, 12);
        fault("ripens (((((not 1)))))" + rest, 12);
        fault("ripens not not not not not (1)" + rest, 27);
        fault("ripens not -(not(not 1))" + rest, 17);
        good("ripens not -(not(1))" + rest);
        // what is closed again does not count
        good("ripens -----1 + -----1 * ----(1)" + rest);
        good("ripens (((((1))))) + (((((1)))))" + rest);
        good("ripens not not not not not 1 and not not not not not 1 or not not not not not 1" + rest);
        fault("ripens not not not not not 1 < -1" + rest, 31);
        good("ripens not not not not 1 < -1" + rest);
        fault("ripens (((((1)))) + (((((1))))))" + rest, 24);
        good("ripens (((((1)))) + ((((1)))))" + rest);
        good("ripens (((((1)))) + (1))" + rest);
        fault("ripens ----(1 or (2))" + rest, 17);
        good("ripens ----(1 or 2) * (((((2)))))" + rest);
    }

    /** The value of an E, by a WALL that ripens in as many minutes and 100 more. */
    private static void value(String e, int value) {
        BeforeItGoes x = Check.ruled("ripens 100+(" + e + ");takes 1;spoils 0;");
        x.wall(0, 3, 7);
        check.due("P6 the value of " + e, x.told(0, 4), 100 + value);
    }

    private static void values() {
        value("7", 7);
        value("0042", 42);
        value("2 + 3 * 4", 14);
        value("(2 + 3) * 4", 20);
        value("10 - 3 - 2", 5);
        value("10 - 3 + 2", 9);
        value("-3 * -4 - - 5", 17);
        value("- - - 5", -5);
        value("-2 * 3", -6);
        value("2 * 3 * 5", 30);
        value("1 < 2", 1);
        value("2 < 2", 0);
        value("3 < 2", 0);
        value("-1 < 0", 1);
        value("2 = 2", 1);
        value("2 = 3", 0);
        value("1 + 1 = 2", 1);
        value("2 = 1 + 1", 1);
        value("not 5", 0);
        value("not 0", 1);
        value("not not 5", 1);
        value("not 1 = 2", 1);
        value("not 2 + 3", 0);
        value("not 0 and 0", 0);
        value("5 and 7", 1);
        value("5 and 0", 0);
        value("0 and 7", 0);
        value("-1 and 2", 1);
        value("5 or 0", 1);
        value("0 or 7", 1);
        value("0 or 0", 0);
        value("5 or 7", 1);
        value("1 or 1 and 0", 1);
        value("0 and 1 or 1", 1);
        value("0 or 1 and 1 or 0", 1);
        value("(1 or 1) and 0", 0);
        value("3 + (2 < 5) * 10", 13);
        // 32 bits, wrapping: 9999 * 9999 * 43 = 4299140043, which is 4172747 and 2 by 32
        value("9999 * 9999 * 43 = 4172 * 1000 + 747", 1);
        value("9999 * 9999 * 22 < 0", 1);
        value("8192 * 8192 * 32 < 0", 1);
        value("8192 * 8192 * 64", 0);
        value("8192 * 8192 * 32 - 1 < 0", 0);
        value("-(8192 * 8192 * 32) < 0", 1);
    }

    private static void names() {
        BeforeItGoes x = Check.ruled("ripens off*100+warm+age;takes off*9+dirt;spoils 0;");
        x.wall(0, 3, 7);
        x.set(0, 0, 33);
        x.set(1, 0, 4);
        x.set(2, 0, 6);
        check.due("P6 warm, age; off is 0", x.told(0, 4), 37);
        check.due("P6 dirt; off is 0", x.told(0, 6), 42);
        BeforeItGoes y = Check.ruled("ripens yards*10+number;takes number;spoils 0;");
        y.wall(0, 3, 7);
        y.wall(0, 4, 9);
        check.due("P6 yards, number of 0", y.told(0, 4), 73);
        check.due("P6 yards, number of 1", y.told(1, 4), 94);
        check.due("P6 number of 1", y.told(1, 6), 36);
        // put on in minute 0 .. 20, RIPE in 30, EAGER by 4: OFF by -4 in 26
        BeforeItGoes z = Check.ruled("ripens 10;takes 1;spoils off*off*10+yards*100-off+number+warm*0+900;");
        z.wall(0, 5, 20);
        z.set(5, 0, 4);
        check.due("P6 spoils, 999 at most", z.day(0), 999);
        BeforeItGoes u = Check.ruled("ripens 10;takes 1;spoils 100-off*off+yards+number*0;");
        u.wall(0, 5, 20);
        u.set(5, 0, 4);
        check.due("P6 spoils by off and yards", u.day(0), 104);
        BeforeItGoes w = Check.ruled("ripens 10;takes 1;spoils off;");
        w.wall(0, 5, 20);
        w.set(5, 0, 4);
        check.due("P6 spoils, 0 at least", w.day(0), 0);
        check.due("P6 it is OFF all the same", w.day(40), -4);
    }

    private static void force() {
        BeforeItGoes x = new BeforeItGoes();
        x.wall(0, 0, 1);
        check.due("P7 force(1), none", x.force(1), -2);
        Check.learn(x, "ripens 7;takes 1;spoils 1;");
        Check.learn(x, "ripens 8;takes 1;spoils 1;");
        check.due("P7 still TEXT 0", x.told(0, 4), 42);
        check.due("P7 force(2)", x.force(2), 0);
        check.due("P7 by TEXT 2", x.told(0, 4), 8);
        check.due("P7 force(3)", x.force(3), -2);
        check.due("P7 force(-1)", x.force(-1), -2);
        check.due("P7 THE RULE", x.count(9), 2);
        check.due("P7 force(1)", x.force(1), 2);
        check.due("P7 by TEXT 1", x.told(0, 4), 7);
        check.due("P7 force(0)", x.force(0), 1);
        check.due("P7 by TEXT 0", x.told(0, 4), 42);
    }
}
