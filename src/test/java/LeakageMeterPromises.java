/** One group of checks for each promise of the document, with its edges and wrong inputs. */
public final class LeakageMeterPromises {
    private static final int SET = 0, COPY = 1, ADD = 2, SUB = 3, MUL = 4, AND = 5, OR = 6, XOR = 7;
    private static final int UP = 8, DOWN = 9, LESS = 10, EQUAL = 11, OUT = 12, IF = 13, ELSE = 14, END = 15;

    private static int wrong = 0;

    private static void due(String what, long got, long want) {
        if (got != want) {
            wrong++;
            System.out.println(what + " answered " + got + ", due is " + want);
        }
    }

    /** A new object with the statements given, three numbers each; every one must be taken. */
    private static LeakageMeter program(int... numbers) {
        LeakageMeter meter = new LeakageMeter();
        for (int i = 0; i < numbers.length; i += 3) {
            due("add of statement " + i / 3, meter.add(numbers[i], numbers[i + 1], numbers[i + 2]), i / 3 + 1);
        }
        return meter;
    }

    /** A good part of what can be asked, in one text; the document allows only 512 calls on one object. */
    private static String answers(LeakageMeter meter) {
        StringBuilder all = new StringBuilder();
        all.append(meter.open()).append(' ').append(meter.classes()).append(' ').append(meter.guessed(5, 40));
        for (int secret : new int[] {0, 1, 2, 31, 40, 63}) {
            all.append('\n').append(meter.least(secret)).append(' ').append(meter.alike(secret));
            all.append(' ').append(meter.outputs(secret)).append(" outputs");
            for (int place = 0; place < 8; place++) {
                all.append(' ').append(meter.output(secret, place));
            }
            all.append(" ends");
            for (int a = 0; a < 4; a++) {
                all.append(' ').append(meter.end(secret, a));
            }
        }
        return all.toString();
    }

    private static void dueSame(String what, LeakageMeter one, LeakageMeter other) {
        due(what, answers(one).equals(answers(other)) ? 1 : 0, 1);
    }

    /** The code is refused behind the statements given, and an object that has refused it is as one that has not. */
    private static void dueRefused(String what, int code, int... numbers) {
        LeakageMeter meter = program(numbers);
        LeakageMeter untouched = program(numbers);
        due(what, meter.add(code, 1, 7), -1);
        due(what + ", again", meter.add(code, 0, 0), -1);
        dueSame(what + ": same answers", meter, untouched);
        for (int next : new int[] {SET, ELSE, OUT, END, IF, OUT}) {
            due(what + ", then code " + next, meter.add(next, 0, 9), untouched.add(next, 0, 9));
        }
        dueSame(what + ": same answers later", meter, untouched);
    }

    private static int[] repeated(int times, int... statements) {
        int[] numbers = new int[times * statements.length];
        for (int i = 0; i < numbers.length; i++) {
            numbers[i] = statements[i % statements.length];
        }
        return numbers;
    }

    private static int[] joined(int[] first, int... second) {
        int[] numbers = java.util.Arrays.copyOf(first, first.length + second.length);
        System.arraycopy(second, 0, numbers, first.length, second.length);
        return numbers;
    }

    private static void newObject() {
        for (int secret = 0; secret < 64; secret++) {
            LeakageMeter meter = new LeakageMeter();
            due("1 least", meter.least(secret), 0);
            due("1 alike", meter.alike(secret), 64);
            due("1 outputs", meter.outputs(secret), 0);
            due("1 output", meter.output(secret, 0), -1);
            due("1 end 0", meter.end(secret, 0), secret);
            due("1 end 1", meter.end(secret, 1), 0);
            due("1 end 2", meter.end(secret, 2), 0);
            due("1 end 3", meter.end(secret, 3), 0);
        }
        LeakageMeter meter = new LeakageMeter();
        due("1 open", meter.open(), 0);
        due("1 classes", meter.classes(), 1);
        due("1 guessed", meter.guessed(0, 63), 1);
        due("1 first add", meter.add(OUT, 0, 0), 1);
        due("1 objects share nothing", new LeakageMeter().classes(), 1);
        due("1 nor the other way", meter.classes(), 64);
    }

    private static void addRefusesCodes() {
        for (int code : new int[] {-1, 16, 28, 268, -4, Integer.MIN_VALUE, Integer.MAX_VALUE}) {
            dueRefused("2 code " + code + " on no statement", code);
            dueRefused("2 code " + code, code, OUT, 0, 0, IF, 0, 0);
        }
    }

    private static void addRefusesParts() {
        int[] fourParts = repeated(4, IF, 0, 0);
        dueRefused("2 ELSE, none open", ELSE);
        dueRefused("2 END, none open", END);
        dueRefused("2 ELSE, all closed", ELSE, IF, 0, 0, END, 0, 0);
        dueRefused("2 END, all closed", END, IF, 0, 0, ELSE, 0, 0, END, 0, 0);
        dueRefused("2 fifth IF", IF, fourParts);
        dueRefused("2 fifth IF behind ELSE", IF, joined(fourParts, ELSE, 0, 0));
        dueRefused("2 fifth IF behind END and IF", IF, joined(fourParts, END, 0, 0, IF, 0, 0));
        dueRefused("2 second ELSE", ELSE, IF, 0, 0, OUT, 0, 0, ELSE, 0, 0, OUT, 1, 0);
        dueRefused("2 second ELSE while an outer part has none", ELSE, IF, 0, 0, IF, 0, 0, ELSE, 0, 0);
        dueRefused("2 second ELSE behind a part inside", ELSE,
            IF, 0, 0, ELSE, 0, 0, IF, 0, 0, ELSE, 0, 0, END, 0, 0);
    }

    private static void addTakesParts() {
        LeakageMeter meter = program(joined(repeated(4, IF, 0, 0),
            ELSE, 0, 0, END, 0, 0, ELSE, 0, 0, IF, 0, 0, ELSE, 0, 0, END, 0, 0,
            END, 0, 0, ELSE, 0, 0, END, 0, 0, ELSE, 0, 0, END, 0, 0, IF, 0, 0, END, 0, 0));
        due("2 every part closed", meter.open(), 0);
        program(joined(repeated(12, IF, 0, 0, END, 0, 0), IF, 0, 0));
    }

    private static void addRefusesFortyFirst() {
        int[] full = joined(joined(new int[] {IF, 0, 0}, repeated(38, ADD, 1, 0)), OUT, 1, 0);
        for (int code = SET; code <= END; code++) {
            dueRefused("2 statement 41 with code " + code, code, full);
        }
        due("2 statement 40 is carried out", program(full).output(3, 0), 114);
    }

    private static void jumpsAtTheLastStatement() {
        LeakageMeter meter = program(joined(joined(new int[] {IF, 0, 0}, repeated(37, ADD, 1, 0)),
            ELSE, 0, 0, END, 0, 0));
        due("2 END at 40 closes", meter.open(), 0);
        due("2 long part carried out", meter.end(1, 1), 37);
        due("2 long part left out", meter.end(0, 1), 0);
    }

    /** The end value of variable 0 that holds the secret x, with y in variable 1. */
    private static void dueResult(int code, int x, int y, int b, int want) {
        LeakageMeter meter = program(SET, 1, y, code, 0, b);
        due("code " + code + " on " + x + ", " + y + ", b " + b, meter.end(x, 0), want);
        due("code " + code + " leaves y", meter.end(x, 1), y & 255);
    }

    private static void statementsCompute() {
        dueResult(SET, 5, 9, 255, 255);
        dueResult(SET, 5, 9, 256, 0);
        dueResult(SET, 5, 9, -2, 254);
        dueResult(SET, 5, 9, Integer.MIN_VALUE, 0);
        dueResult(COPY, 5, 9, 1, 9);
        dueResult(COPY, 5, 9, 0, 5);
        dueResult(ADD, 5, 9, 1, 14);
        dueResult(ADD, 63, 250, 1, 57);
        dueResult(ADD, 1, 255, 1, 0);
        dueResult(ADD, 40, 9, 0, 80);
        dueResult(SUB, 9, 5, 1, 4);
        dueResult(SUB, 5, 9, 1, 252);
        dueResult(SUB, 0, 255, 1, 1);
        dueResult(SUB, 7, 255, 0, 0);
        dueResult(MUL, 7, 9, 1, 63);
        dueResult(MUL, 63, 255, 1, 193);
        dueResult(MUL, 16, 16, 1, 0);
        dueResult(MUL, 63, 1, 0, 129);
        dueResult(AND, 12, 10, 1, 8);
        dueResult(OR, 12, 10, 1, 14);
        dueResult(OR, 63, 192, 1, 255);
        dueResult(XOR, 12, 10, 1, 6);
        dueResult(XOR, 12, 10, 0, 0);
        dueResult(UP, 3, 9, 0, 3);
        dueResult(UP, 3, 9, 1, 6);
        dueResult(UP, 63, 9, 3, 248);
        dueResult(UP, 63, 9, 7, 128);
        dueResult(UP, 3, 9, 8, 3);
        dueResult(UP, 3, 9, -1, 128);
        dueResult(DOWN, 63, 9, 0, 63);
        dueResult(DOWN, 63, 9, 1, 31);
        dueResult(DOWN, 63, 9, 5, 1);
        dueResult(DOWN, 63, 9, 6, 0);
        dueResult(DOWN, 63, 9, 9, 31);
        dueResult(DOWN, 63, 9, -6, 15);
        dueResult(LESS, 4, 5, 1, 1);
        dueResult(LESS, 5, 5, 1, 0);
        dueResult(LESS, 6, 5, 1, 0);
        dueResult(LESS, 63, 255, 1, 1);
        dueResult(EQUAL, 5, 5, 1, 1);
        dueResult(EQUAL, 5, 6, 1, 0);
        dueResult(EQUAL, 5, 6, 0, 1);
    }

    private static void statementsMaskTheirVariables() {
        LeakageMeter meter = program(SET, 5, 200, SET, -2, 100, COPY, 3, 4, ADD, -1, -3);
        due("2 x is a & 3, SET 5", meter.end(10, 1), 200);
        due("2 x is a & 3, SET -2", meter.end(10, 2), 100);
        due("2 y is b & 3", meter.end(10, 3), 210);
        LeakageMeter down = program(SET, 1, 200, DOWN, 1, 3, OUT, 1, 0);
        due("2 DOWN of more than 127", down.output(0, 0), 25);
        LeakageMeter out = program(OUT, 4, 99, IF, -4, 99, OUT, 8, -1, ELSE, 9, 9, OUT, 1, 1, END, 7, 7);
        due("2 OUT 4 puts variable 0", out.output(9, 0), 9);
        due("2 IF -4 looks at variable 0", out.output(9, 1), 9);
        due("2 IF -4 with 0", out.output(0, 1), 0);
        due("2 one branch alone", out.outputs(9), 2);
        LeakageMeter ifNotOne = program(SET, 1, 128, IF, 1, 0, SET, 2, 1, END, 0, 0);
        due("2 IF takes every number but 0", ifNotOne.end(0, 2), 1);
    }

    private static void partsMatch() {
        // The outer part of even secrets is left out together with the ELSE inside it.
        LeakageMeter meter = program(
            SET, 1, 1, AND, 1, 0, SET, 2, 2, AND, 2, 0,
            IF, 1, 0, IF, 2, 0, SET, 3, 11, ELSE, 0, 0, SET, 3, 12, END, 0, 0,
            ELSE, 0, 0, IF, 2, 0, SET, 3, 13, ELSE, 0, 0, SET, 3, 14, END, 0, 0,
            END, 0, 0, OUT, 3, 0);
        due("2 both", meter.output(3, 0), 11);
        due("2 outer alone", meter.output(1, 0), 12);
        due("2 inner alone", meter.output(2, 0), 13);
        due("2 neither", meter.output(0, 0), 14);
        due("2 four ways", meter.classes(), 4);
        LeakageMeter noElse = program(IF, 0, 0, IF, 1, 0, OUT, 1, 0, END, 0, 0, OUT, 0, 0, END, 0, 0, OUT, 2, 0);
        due("2 IF without ELSE inside", noElse.output(5, 0), 5);
        due("2 IF without ELSE outside", noElse.outputs(0), 1);
        LeakageMeter row = program(IF, 1, 0, OUT, 0, 0, END, 0, 0, IF, 0, 0, OUT, 0, 0, ELSE, 0, 0, OUT, 1, 0);
        due("2 ELSE belongs to the open part, not the closed one", row.output(7, 0), 7);
        due("2 and is left out", row.outputs(7), 1);
        LeakageMeter changed = program(IF, 0, 0, SET, 0, 0, ELSE, 0, 0, SET, 0, 9, END, 0, 0);
        due("2 x is looked at once, at IF", changed.end(5, 0), 0);
        due("2 x is 0 at IF", changed.end(0, 0), 9);
    }

    private static void openPartsEndWithTheProgram() {
        LeakageMeter meter = program(IF, 0, 0, OUT, 0, 0, IF, 1, 0, OUT, 3, 0);
        due("2 open IF, carried out", meter.outputs(4), 1);
        due("2 open IF, left out", meter.outputs(0), 0);
        due("2 ELSE of the inner", meter.add(ELSE, 0, 0), 5);
        due("2 OUT in the inner ELSE", meter.add(OUT, 0, 0), 6);
        due("2 open ELSE, carried out", meter.outputs(4), 2);
        due("2 open ELSE of a part left out", meter.outputs(0), 0);
        due("2 END of the inner", meter.add(END, 0, 0), 7);
        due("2 ELSE of the outer", meter.add(ELSE, 0, 0), 8);
        due("2 OUT in the outer ELSE", meter.add(OUT, 2, 0), 9);
        due("2 outer ELSE left out", meter.outputs(4), 2);
        due("2 outer ELSE carried out", meter.outputs(0), 1);
        due("2 END of the outer", meter.add(END, 0, 0), 10);
        due("2 OUT behind all", meter.add(OUT, 2, 0), 11);
        due("2 both go on behind END", meter.outputs(4), 3);
        due("2 both go on behind END, secret 0", meter.outputs(0), 2);
    }

    private static void clearRemovesAll() {
        LeakageMeter meter = program(OUT, 0, 0, IF, 0, 0, ADD, 1, 0, ELSE, 0, 0, IF, 0, 0);
        meter.clear();
        dueSame("3 as a new object", meter, new LeakageMeter());
        due("3 ELSE behind clear", meter.add(ELSE, 0, 0), -1);
        due("3 END behind clear", meter.add(END, 0, 0), -1);
        for (int i = 1; i <= 4; i++) {
            due("3 IF behind clear", meter.add(IF, 0, 0), i);
        }
        due("3 ELSE of a new part", meter.add(ELSE, 0, 0), 5);
        meter.clear();
        meter.clear();
        due("3 twice", meter.open(), 0);
        due("3 IF where one stood before", meter.add(IF, 0, 0), 1);
        due("3 OUT behind it", meter.add(OUT, 0, 0), 2);
        due("3 no old jump", meter.outputs(0), 0);
    }

    private static void clearOfAFullProgram() {
        LeakageMeter meter = program(repeated(40, OUT, 0, 0));
        meter.clear();
        due("3 a full program", meter.outputs(1), 0);
        due("3 a full program, add", meter.add(SET, 0, 4), 1);
        due("3 a full program, old statements", meter.outputs(1), 0);
        LeakageMeter empty = new LeakageMeter();
        empty.clear();
        dueSame("3 a new object", empty, new LeakageMeter());
    }

    private static void openCountsParts() {
        LeakageMeter meter = new LeakageMeter();
        int[] codes = {IF, OUT, IF, ELSE, IF, IF, IF, END, ELSE, END, END, END, END, IF};
        int[] open = {1, 1, 2, 2, 3, 4, 4, 3, 3, 2, 1, 0, 0, 1};
        for (int i = 0; i < codes.length; i++) {
            meter.add(codes[i], 0, 0);
            due("4 open behind call " + i, meter.open(), open[i]);
        }
    }

    private static void classesCountViews() {
        due("5 OUT of the secret", program(OUT, 0, 0).classes(), 64);
        due("5 OUT of a constant", program(SET, 1, 7, OUT, 1, 0).classes(), 1);
        due("5 no OUT", program(ADD, 0, 0, XOR, 1, 0).classes(), 1);
        due("5 lost by DOWN", program(DOWN, 0, 3, OUT, 0, 0).classes(), 8);
        due("5 lost modulo 256", program(UP, 0, 5, OUT, 0, 0).classes(), 8);
        due("5 number of outputs alone", program(IF, 0, 0, OUT, 1, 0, END, 0, 0, OUT, 1, 0).classes(), 2);
        due("5 different places, same outputs", program(IF, 0, 0, OUT, 1, 0, ELSE, 0, 0, OUT, 2, 0).classes(), 1);
        due("5 order of outputs", program(SET, 1, 1, IF, 0, 0, OUT, 1, 0, OUT, 2, 0,
            ELSE, 0, 0, OUT, 2, 0, OUT, 1, 0, END, 0, 0).classes(), 2);
    }

    private static void viewHasSevenOutputs() {
        LeakageMeter meter = new LeakageMeter();
        for (int i = 0; i < 6; i++) {
            meter.add(OUT, 1, 0);
        }
        due("8 six outputs", meter.outputs(9), 6);
        due("9 the seventh is not there", meter.output(9, 6), -1);
        LeakageMeter seventh = new LeakageMeter();
        LeakageMeter eighth = new LeakageMeter();
        for (int i = 1; i <= 8; i++) {
            seventh.add(OUT, i == 7 ? 0 : 1, 0);
            eighth.add(OUT, i == 8 ? 0 : 1, 0);
        }
        due("5 the seventh output counts", seventh.classes(), 64);
        due("9 the seventh output", seventh.output(50, 6), 50);
        due("8 eight put out", seventh.outputs(50), 7);
        due("9 no eighth output", seventh.output(50, 7), -1);
        due("5 the eighth output doesn't count", eighth.classes(), 1);
        due("6 the eighth output doesn't count", eighth.least(50), 0);
        due("7 the eighth output doesn't count", eighth.alike(50), 64);
        due("11 the eighth output doesn't count", eighth.guessed(0, 63), 1);
        eighth.add(SET, 0, 77);
        due("10 the program goes on behind the view", eighth.end(50, 0), 77);
    }

    private static void leastAndAlike() {
        LeakageMeter meter = program(SET, 1, 15, AND, 0, 1, OUT, 0, 0);
        for (int secret = 0; secret < 64; secret++) {
            due("6 least " + secret, meter.least(secret), secret % 16);
            due("7 alike " + secret, meter.alike(secret), 4);
        }
        due("6 secret 64", meter.least(64 + 33), 1);
        due("6 secret -1", meter.least(-1), 15);
        due("6 least int", meter.least(Integer.MIN_VALUE), 0);
        LeakageMeter uneven = program(SET, 1, 60, LESS, 0, 1, OUT, 0, 0);
        due("6 the greater side", uneven.least(63), 60);
        due("7 the greater side", uneven.alike(60), 4);
        due("7 the less side", uneven.alike(59), 60);
        due("7 secret -1", uneven.alike(-1), 4);
        due("7 secret 64", uneven.alike(64), 60);
        due("7 greatest int", uneven.alike(Integer.MAX_VALUE), 4);
        due("7 ends don't count", program(ADD, 1, 0).alike(3), 64);
    }

    private static void outputsOfAView() {
        LeakageMeter meter = program(OUT, 0, 0, SET, 1, 200, OUT, 1, 0, IF, 0, 0, OUT, 2, 0, END, 0, 0);
        due("8 all", meter.outputs(63), 3);
        due("8 fewer", meter.outputs(0), 2);
        due("8 secret 64", meter.outputs(64), 2);
        due("8 secret -1", meter.outputs(-1), 3);
        due("9 place 0", meter.output(63, 0), 63);
        due("9 place 1", meter.output(63, 1), 200);
        due("9 place 2", meter.output(63, 2), 0);
        due("9 place 3", meter.output(63, 3), -1);
        due("9 place 2 of fewer", meter.output(0, 2), -1);
        due("9 place -1", meter.output(63, -1), -1);
        due("9 place -1 of secret 1", meter.output(1, -1), -1);
        due("9 place 7", meter.output(1, 7), -1);
        due("9 least place", meter.output(63, Integer.MIN_VALUE), -1);
        due("9 greatest place", meter.output(63, Integer.MAX_VALUE), -1);
        due("9 secret -1", meter.output(-1, 0), 63);
        due("9 secret 64 + 5", meter.output(69, 0), 5);
    }

    private static void endValues() {
        LeakageMeter meter = program(COPY, 1, 0, MUL, 1, 0, SET, 3, 77, IF, 0, 0, SET, 2, 5);
        due("10 variable 0", meter.end(20, 0), 20);
        due("10 variable 1", meter.end(20, 1), 144);
        due("10 variable 2 in an open part", meter.end(20, 2), 5);
        due("10 variable 2 left out", meter.end(0, 2), 0);
        due("10 variable 3", meter.end(20, 3), 77);
        due("10 variable -1", meter.end(20, -1), 77);
        due("10 variable 4", meter.end(20, 4), 20);
        due("10 variable least int", meter.end(20, Integer.MIN_VALUE), 20);
        due("10 secret -1", meter.end(-1, 0), 63);
        due("10 secret 64", meter.end(64, 0), 0);
        due("10 greatest int", meter.end(Integer.MAX_VALUE, Integer.MAX_VALUE), 77);
    }

    private static void guessedInARange() {
        LeakageMeter meter = program(DOWN, 0, 2, OUT, 0, 0);
        due("11 all", meter.guessed(0, 63), 16);
        due("11 one class", meter.guessed(4, 7), 1);
        due("11 across a border", meter.guessed(3, 4), 2);
        due("11 the ends count", meter.guessed(7, 12), 3);
        due("11 a range without the least of its class", meter.guessed(5, 7), 1);
        due("11 one secret", meter.guessed(63, 63), 1);
        due("11 changed with each other", meter.guessed(12, 7), 3);
        due("11 all, changed", meter.guessed(63, 0), 16);
        due("11 -1 and 64", meter.guessed(-1, 64), 16);
        due("11 masked before they are changed", meter.guessed(64, 7), 2);
        due("11 masked before they are compared", meter.guessed(60, 64 + 56), 2);
        due("11 least and greatest int", meter.guessed(Integer.MIN_VALUE, Integer.MAX_VALUE), 16);
        LeakageMeter apart = program(SET, 1, 1, AND, 0, 1, OUT, 0, 0);
        due("11 a class that is not in one piece", apart.guessed(1, 5), 2);
    }

    private static void refusedAndAskedChangeNothing() {
        LeakageMeter meter = program(SET, 1, 3, AND, 1, 0, IF, 1, 0, OUT, 1, 0, ELSE, 0, 0);
        due("12 second ELSE", meter.add(ELSE, 0, 0), -1);
        due("12 unknown code", meter.add(99, 0, 0), -1);
        due("12 the part is still open", meter.open(), 1);
        due("12 OUT goes into the ELSE", meter.add(OUT, 0, 0), 6);
        due("12 and is left out", meter.outputs(1), 1);
        due("12 and is carried out", meter.output(8, 0), 8);
        due("12 no output", meter.output(8, 1), -1);
        dueSame("12 asked twice", meter, meter);
        due("12 END is the next", meter.add(END, 0, 0), 7);
        due("12 END too many", meter.add(END, 0, 0), -1);
        due("12 OUT is the next", meter.add(OUT, 2, 0), 8);
        due("12 for one way", meter.outputs(1), 2);
        due("12 for the other way", meter.outputs(8), 2);
    }

    public static void main(String[] args) {
        newObject();
        addRefusesCodes();
        addRefusesParts();
        addTakesParts();
        addRefusesFortyFirst();
        jumpsAtTheLastStatement();
        statementsCompute();
        statementsMaskTheirVariables();
        partsMatch();
        openPartsEndWithTheProgram();
        clearRemovesAll();
        clearOfAFullProgram();
        openCountsParts();
        classesCountViews();
        viewHasSevenOutputs();
        leastAndAlike();
        outputsOfAView();
        endValues();
        guessedInARange();
        refusedAndAskedChangeNothing();
        System.out.println(wrong == 0 ? "all answers are as due" : wrong + " answers are not as due");
        if (wrong != 0) {
            System.exit(1);
        }
    }
}
