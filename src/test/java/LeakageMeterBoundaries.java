import java.util.HashSet;
import java.util.Set;

/**
 * One test for each sentence of the document that names a boundary case. Each begins with the sentence, and a wrong
 * answer is told with it. No object gets more than 512 calls, but for the test that is about the 512th.
 */
public final class LeakageMeterBoundaries {
    private static final int SET = 0, COPY = 1, ADD = 2, SUB = 3, MUL = 4, AND = 5, OR = 6, XOR = 7;
    private static final int UP = 8, DOWN = 9, LESS = 10, EQUAL = 11, OUT = 12, IF = 13, ELSE = 14, END = 15;

    private static final int LEAST = Integer.MIN_VALUE, GREATEST = Integer.MAX_VALUE;

    /** Numbers beside every mask and bound that the document has, and the ends of int. */
    private static final int[] NUMBERS = {
        LEAST, LEAST + 1, -257, -256, -255, -129, -65, -64, -63, -41, -9, -8, -7, -5, -4, -3, -2, -1,
        0, 1, 2, 3, 4, 5, 6, 7, 8, 9, 39, 40, 41, 62, 63, 64, 65, 127, 128, 129, 254, 255, 256, 257,
        GREATEST - 1, GREATEST};

    private static int wrong = 0;
    private static String sentence = "";

    private static void says(String words) {
        sentence = words;
    }

    private static void due(String what, long got, long want) {
        if (got != want && wrong++ < 100) {
            System.out.println("\"" + sentence + "\": " + what + " answered " + got + ", due is " + want);
        }
    }

    /** A new object on which add has been called with the numbers, three each, whatever it answered. */
    private static LeakageMeter called(int... numbers) {
        LeakageMeter meter = new LeakageMeter();
        for (int i = 0; i < numbers.length; i += 3) {
            meter.add(numbers[i], numbers[i + 1], numbers[i + 2]);
        }
        return meter;
    }

    /** The same, where every statement must be taken. */
    private static LeakageMeter program(int... numbers) {
        LeakageMeter meter = new LeakageMeter();
        for (int i = 0; i < numbers.length; i += 3) {
            int got = meter.add(numbers[i], numbers[i + 1], numbers[i + 2]);
            due("add of statement " + (i / 3 + 1), got, i / 3 + 1);
        }
        return meter;
    }

    private static int[] times(int count, int... numbers) {
        int[] all = new int[count * numbers.length];
        for (int i = 0; i < all.length; i++) {
            all[i] = numbers[i % numbers.length];
        }
        return all;
    }

    private static int[] joined(int[] first, int... second) {
        int[] all = java.util.Arrays.copyOf(first, first.length + second.length);
        System.arraycopy(second, 0, all, first.length, second.length);
        return all;
    }

    private static String view(LeakageMeter meter, int secret) {
        StringBuilder all = new StringBuilder();
        all.append(meter.outputs(secret)).append(':');
        for (int place = -1; place <= 8; place++) {
            all.append(' ').append(meter.output(secret, place));
        }
        return all.toString();
    }

    private static String answersFor(LeakageMeter meter, int secret) {
        StringBuilder all = new StringBuilder(view(meter, secret));
        for (int a = 0; a < 4; a++) {
            all.append(" end ").append(meter.end(secret, a));
        }
        all.append(" least ").append(meter.least(secret)).append(" alike ").append(meter.alike(secret));
        all.append(" guessed ").append(meter.guessed(0, secret)).append(" classes ").append(meter.classes());
        return all.append('\n').toString();
    }

    /** All that can be asked but open; for each secret of a new object, as one has not calls enough. */
    private static String everyAnswer(int... numbers) {
        StringBuilder all = new StringBuilder();
        for (int secret = 0; secret < 64; secret++) {
            all.append(answersFor(called(numbers), secret));
        }
        return all.toString();
    }

    private static void dueSame(String what, int[] one, int[] other) {
        due(what + ", same answers", everyAnswer(one).equals(everyAnswer(other)) ? 1 : 0, 1);
        due(what + ", same open", called(one).open(), called(other).open());
    }

    /** add(code, a, b) is refused behind the statements, and whatever follows is as if it had not been called. */
    private static void dueRefused(String what, int[] statements, int code, int a, int b) {
        due(what, program(statements).add(code, a, b), -1);
        int[] refused = joined(statements, code, a, b, code, a, b);
        dueSame(what, refused, statements);
        int[] more = {ADD, 1, 0, ELSE, 0, 0, OUT, 1, 0, IF, 0, 0, OUT, 0, 0, END, 0, 0, END, 0, 0, OUT, 2, 0};
        dueSame(what + ", and more", joined(refused, more), joined(statements, more));
        due(what + ", then the number of statements", called(refused).add(SET, 0, 0),
            called(statements).add(SET, 0, 0));
    }

    // What it is

    private static void useOfFiveHundredAndTwelveCalls() {
        says("An object is used for at most 512 calls after it has been made");
        LeakageMeter meter = new LeakageMeter();
        int calls = 0;
        while (calls < 12 * 42) {
            for (int i = 1; i <= 40; i++) {
                due("call " + ++calls, meter.add(i == 40 ? OUT : ADD, 1, 0), i);
            }
            due("call " + ++calls, meter.add(OUT, 0, 0), -1);
            meter.clear();
            calls++;
        }
        due("call 505", meter.add(IF, 0, 0), 1);
        due("call 506", meter.add(OUT, 0, 0), 2);
        due("call 507", meter.open(), 1);
        due("call 508", meter.classes(), 64);
        due("call 509", meter.output(63, 0), 63);
        due("call 510", meter.guessed(0, 1), 2);
        due("call 511", meter.add(16, 0, 0), -1);
        due("call 512", meter.add(END, 0, 0), 3);
        // What later calls answer is free, but rule 7 of LANGUAGE.md lets none of them throw.
        for (int number : NUMBERS) {
            for (int code = IF; code < END + 40; code++) {
                meter.add(code & 15, number, number);
                answersFor(meter, number);
            }
            meter.clear();
        }
    }

    // Terms

    private static void secretsFromZeroTo63() {
        says("THE SECRET is a number from 0 to 63.");
        LeakageMeter meter = program(OUT, 0, 0);
        for (int secret = 0; secret <= 63; secret++) {
            due("put out for secret " + secret, meter.output(secret, 0), secret);
        }
        due("so many secrets", meter.classes(), 64);
    }

    private static void variablesAtTheStart() {
        says("at the start variable 0 holds the secret and the others 0");
        LeakageMeter meter = new LeakageMeter();
        for (int secret = 0; secret <= 63; secret++) {
            for (int a = 0; a <= 3; a++) {
                due("end(" + secret + ", " + a + ")", meter.end(secret, a), a == 0 ? secret : 0);
            }
        }
    }

    private static void startOfEachRun() {
        says("at the start variable 0 holds the secret and the others 0");
        // What one run has left in the variables is not there in the next.
        LeakageMeter meter = program(ADD, 1, 0, SET, 2, 9, ADD, 3, 2, SET, 0, 50);
        due("variable 1 is added to once", meter.end(63, 1), 63);
        due("variable 3 is added to once", meter.end(63, 3), 9);
        meter.clear();
        due("variable 0 behind clear", meter.end(63, 0), 63);
        due("variable 3 behind clear", meter.end(63, 3), 0);
    }

    private static void variablesHoldNumbersTo255() {
        says("four variables, 0 to 3, which hold numbers from 0 to 255");
        for (int a = 0; a <= 3; a++) {
            LeakageMeter meter = program(SET, a, 255, OUT, a, 0, SET, a, 0, OUT, a, 0);
            due("255 in variable " + a, meter.output(9, 0), 255);
            due("0 in variable " + a, meter.output(9, 1), 0);
        }
    }

    /** What the table of the document says, for numbers from 0 to 255. */
    private static int inWords(int code, int x, int y, int b) {
        int power = (int) Math.pow(2, Math.floorMod(b, 8));
        switch (code) {
            case SET: return Math.floorMod(b, 256);
            case COPY: return y;
            case ADD: return Math.floorMod(x + y, 256);
            case SUB: return Math.floorMod(x - y, 256);
            case MUL: return Math.floorMod(x * y, 256);
            case AND: return x & y;
            case OR: return x | y;
            case XOR: return x ^ y;
            case UP: return Math.floorMod(x * power, 256);
            case DOWN: return Math.floorDiv(x, power);
            case LESS: return x < y ? 1 : 0;
            default: return x == y ? 1 : 0;
        }
    }

    /** Every x and every y; a quarter of the x in each object, made from its 64 secrets. */
    private static void arithmeticOnAllNumbers() {
        says("All arithmetic is taken modulo 256 (the remainder from 0 to 255)");
        for (int code = COPY; code <= EQUAL; code++) {
            for (int y = 0; y <= (code == UP || code == DOWN ? 7 : 255); y++) {
                for (int quarter = 0; quarter < 256; quarter += 64) {
                    int b = code == UP || code == DOWN ? y : 1;
                    LeakageMeter meter = program(SET, 1, quarter, OR, 0, 1, SET, 1, y, code, 0, b);
                    for (int secret = 0; secret < 64; secret++) {
                        due("code " + code + " on " + (quarter + secret) + " and " + y, meter.end(secret, 0),
                            inWords(code, quarter + secret, y, b));
                    }
                }
            }
        }
    }

    /** The output when code is carried out on two constants. */
    private static int on(int x, int code, int y) {
        return program(SET, 1, x, SET, 2, y, code, 1, code == UP || code == DOWN ? y : 2, OUT, 1, 0).output(0, 0);
    }

    private static void arithmeticWrapsAround() {
        says("All arithmetic is taken modulo 256 (the remainder from 0 to 255)");
        due("254 + 1", on(254, ADD, 1), 255);
        due("255 + 1", on(255, ADD, 1), 0);
        due("255 + 255", on(255, ADD, 255), 254);
        due("1 - 1", on(1, SUB, 1), 0);
        due("0 - 1", on(0, SUB, 1), 255);
        due("0 - 255", on(0, SUB, 255), 1);
        due("15 * 17", on(15, MUL, 17), 255);
        due("16 * 16", on(16, MUL, 16), 0);
        due("255 * 255", on(255, MUL, 255), 1);
        due("127 * 2^1", on(127, UP, 1), 254);
        due("128 * 2^1", on(128, UP, 1), 0);
        due("255 * 2^7", on(255, UP, 7), 128);
    }

    private static void atMostFortyStatements() {
        says("The program is a row of at most 40 STATEMENTS");
        LeakageMeter meter = program(times(40, ADD, 1, 0));
        due("all 40 are carried out", meter.end(1, 1), 40);
        due("a 41st", meter.add(ADD, 1, 0), -1);
        due("and is not carried out", meter.end(1, 1), 40);
    }

    private static void variablesAreTaken() {
        says("below x is the variable a & 3 and y the variable b & 3");
        for (int code = SET; code <= EQUAL; code++) {
            for (int a : NUMBERS) {
                for (int b : NUMBERS) {
                    int[] held = {63, 200, 7, 129};
                    LeakageMeter meter = program(SET, 1, 200, SET, 2, 7, SET, 3, 129, code, a, b);
                    held[a & 3] = inWords(code, held[a & 3], held[b & 3], b);
                    for (int i = 0; i < 4; i++) {
                        due("variable " + i + " behind " + code + ", " + a + ", " + b, meter.end(63, i), held[i]);
                    }
                }
            }
        }
    }

    private static void variablesOfOutAndIf() {
        says("below x is the variable a & 3 and y the variable b & 3");
        int[] held = {63, 200, 0, 129};
        for (int a : NUMBERS) {
            int x = held[a & 3];
            LeakageMeter meter = program(SET, 1, 200, SET, 3, 129, OUT, a, 0, IF, a, 0, OUT, 2, 0);
            due("OUT of a " + a, meter.output(63, 0), x);
            due("IF with a " + a, meter.outputs(63), x != 0 ? 2 : 1);
        }
    }

    private static void sameVariableTwice() {
        says("x is the variable a & 3 and y the variable b & 3");
        int[] want = {0, 200, 144, 0, 64, 200, 200, 0, 0, 0, 0, 1};
        for (int code = COPY; code <= EQUAL; code++) {
            if (code != UP && code != DOWN) {
                LeakageMeter meter = program(SET, 1, 200, code, 1, 1);
                due("code " + code + " where x is y", meter.end(5, 1), want[code]);
            }
        }
    }

    private static void setTakesTheLowestByte() {
        says("SET x = b & 255");
        for (int b = -600; b <= 600; b++) {
            due("SET with b " + b, program(SET, 1, b).end(0, 1), Math.floorMod(b, 256));
        }
        due("SET with the least int", program(SET, 1, LEAST).end(0, 1), 0);
        due("SET with the greatest int", program(SET, 1, GREATEST).end(0, 1), 255);
        due("SET of variable 0 with -1", program(SET, 0, -1).end(20, 0), 255);
    }

    private static void shiftsTakeThreeBits() {
        says("UP x = x * 2^(b & 7); DOWN x = x / 2^(b & 7), rounded down");
        int[] up = {255, 254, 252, 248, 240, 224, 192, 128};
        int[] down = {255, 127, 63, 31, 15, 7, 3, 1};
        for (int b : NUMBERS) {
            due("UP of 255 with b " + b, program(SET, 1, 255, UP, 1, b).end(0, 1), up[b & 7]);
            due("DOWN of 255 with b " + b, program(SET, 1, 255, DOWN, 1, b).end(0, 1), down[b & 7]);
        }
    }

    private static void downRoundsDown() {
        says("DOWN x = x / 2^(b & 7), rounded down");
        due("0 by 1", on(0, DOWN, 1), 0);
        due("1 by 1", on(1, DOWN, 1), 0);
        due("3 by 1", on(3, DOWN, 1), 1);
        due("127 by 7", on(127, DOWN, 7), 0);
        due("128 by 7", on(128, DOWN, 7), 1);
        due("255 by 4", on(255, DOWN, 4), 15);
        due("UP loses what DOWN can't bring back", program(SET, 1, 129, UP, 1, 1, DOWN, 1, 1).end(0, 1), 1);
    }

    private static void lessAndEqualAtTheBorder() {
        says("LESS x = 1 if x < y, else 0; EQUAL x = 1 if x = y, else 0");
        for (int y : new int[] {1, 127, 128, 129, 254}) {
            due(y - 1 + " < " + y, on(y - 1, LESS, y), 1);
            due(y + " < " + y, on(y, LESS, y), 0);
            due(y + 1 + " < " + y, on(y + 1, LESS, y), 0);
            due(y - 1 + " = " + y, on(y - 1, EQUAL, y), 0);
            due(y + " = " + y, on(y, EQUAL, y), 1);
            due(y + 1 + " = " + y, on(y + 1, EQUAL, y), 0);
        }
        due("0 < 255", on(0, LESS, 255), 1);
        due("255 < 0", on(255, LESS, 0), 0);
        due("0 < 0", on(0, LESS, 0), 0);
        due("0 = 0", on(0, EQUAL, 0), 1);
        due("255 = 255", on(255, EQUAL, 255), 1);
        due("0 = 256, wrapped around", program(SET, 1, 128, UP, 1, 1, EQUAL, 1, 2).end(0, 1), 1);
    }

    private static void outPutsAtTheEnd() {
        says("OUT puts x at the end of the outputs");
        LeakageMeter meter = program(OUT, 0, 0, SET, 0, 0, OUT, 0, 0, SET, 0, 255, OUT, 0, 0);
        due("the first", meter.output(63, 0), 63);
        due("a 0 is an output", meter.output(63, 1), 0);
        due("255", meter.output(63, 2), 255);
        due("OUT leaves x", meter.end(63, 0), 255);
        due("as many as OUT", meter.outputs(63), 3);
    }

    private static void ifLooksForNotZero() {
        says("IF if x is not 0, goes on");
        for (int x = 0; x <= 255; x++) {
            LeakageMeter meter = program(SET, 1, x, IF, 1, 0, SET, 2, 1, END, 0, 0);
            due("the part, with x " + x, meter.end(0, 2), x == 0 ? 0 : 1);
        }
        LeakageMeter wrapped = program(SET, 1, 255, SET, 2, 1, ADD, 1, 2, IF, 1, 0, SET, 3, 1, END, 0, 0);
        due("the part, with 255 + 1", wrapped.end(0, 3), 0);
    }

    private static void ifGoesBehindElseOrEnd() {
        says("else goes on behind the matching ELSE, or behind the matching END if it has no ELSE");
        int[] inside = {IF, 1, 0, SET, 3, 1, ELSE, 0, 0, SET, 3, 2, END, 0, 0};
        int[] withElse = joined(joined(new int[] {IF, 0, 0}, inside), ELSE, 0, 0, SET, 2, 4, END, 0, 0, OUT, 2, 0);
        due("the outer ELSE, x 0", program(withElse).output(0, 0), 4);
        due("nothing of the part inside", program(withElse).end(0, 3), 0);
        due("the outer ELSE, x not 0", program(withElse).output(1, 0), 0);
        due("the inner ELSE", program(withElse).end(1, 3), 2);
        int[] noElse = joined(joined(new int[] {IF, 0, 0}, inside), END, 0, 0, OUT, 3, 0);
        due("behind END, x 0", program(noElse).output(0, 0), 0);
        due("behind END, x not 0", program(noElse).output(1, 0), 2);
        int[] follows = {IF, 0, 0, SET, 2, 1, END, 0, 0, IF, 0, 0, SET, 2, 2, ELSE, 0, 0, SET, 3, 3, END, 0, 0};
        due("the ELSE of the next part doesn't match", program(follows).end(0, 3), 3);
        due("nor is the next part left out", program(follows).end(1, 2), 2);
    }

    private static void elseGoesBehindEnd() {
        says("ELSE (when the part before it has been carried out) goes on behind the matching END");
        int[] inside = {IF, 0, 0, SET, 3, 1, ELSE, 0, 0, SET, 3, 2, END, 0, 0};
        int[] start = {IF, 0, 0, SET, 2, 1, ELSE, 0, 0};
        int[] all = joined(joined(start, inside), SET, 2, 9, END, 0, 0, OUT, 2, 0);
        due("the END of a part inside doesn't match", program(all).output(1, 0), 1);
        due("nothing of the part inside", program(all).end(1, 3), 0);
        due("x 0", program(all).output(0, 0), 9);
        due("x 0, the part inside", program(all).end(0, 3), 2);
        // The part before changes x to 0; its ELSE is left out all the same.
        LeakageMeter changed = program(IF, 0, 0, SET, 0, 0, ELSE, 0, 0, SET, 2, 1, END, 0, 0);
        due("x changed by the part", changed.end(1, 2), 0);
        LeakageMeter raised = program(IF, 0, 0, SET, 2, 1, ELSE, 0, 0, SET, 0, 1, SET, 3, 1, END, 0, 0);
        due("x changed behind ELSE", raised.end(0, 2), 0);
        due("and all behind ELSE carried out", raised.end(0, 3), 1);
    }

    private static void emptyParts() {
        says("END goes on");
        for (int secret = 0; secret <= 1; secret++) {
            due("IF END", program(IF, 0, 0, END, 0, 0, OUT, 0, 0).output(secret, 0), secret);
            due("IF ELSE END", program(IF, 0, 0, ELSE, 0, 0, END, 0, 0, OUT, 0, 0).output(secret, 0), secret);
            LeakageMeter before = program(IF, 0, 0, SET, 2, 5, ELSE, 0, 0, END, 0, 0, OUT, 2, 0);
            due("nothing behind ELSE", before.output(secret, 0), secret == 0 ? 0 : 5);
            LeakageMeter behind = program(IF, 0, 0, ELSE, 0, 0, SET, 2, 5, END, 0, 0, OUT, 2, 0);
            due("nothing before ELSE", behind.output(secret, 0), secret == 0 ? 5 : 0);
            int[] nested = joined(joined(times(4, IF, 0, 0), times(4, END, 0, 0)), OUT, 0, 0);
            due("four empty parts", program(nested).output(secret, 0), secret);
        }
    }

    private static void notNamedIsNotLookedAt() {
        says("a and b are not looked at where they are not named");
        String want = everyAnswer(IF, 0, 0, OUT, 0, 0, ELSE, 0, 0, SET, 1, 9, END, 0, 0, OUT, 1, 0);
        for (int number : NUMBERS) {
            int masked = number & ~3;
            int[] one = {IF, masked, number, OUT, masked, ~number, ELSE, number, number, SET, 1, 9,
                END, ~number, number, OUT, 1, number};
            due("all taken", program(one).open(), 0);
            due("OUT, IF, ELSE, END with " + number, everyAnswer(one).equals(want) ? 1 : 0, 1);
        }
    }

    private static void noNumberIsRefused() {
        says("a and b are not looked at where they are not named");
        // None of the refusals of promise 2 is about a or b, named or not.
        for (int a : NUMBERS) {
            for (int b : new int[] {LEAST, -1, 0, 4, 256, GREATEST}) {
                int[] all = new int[3 * 16];
                for (int code = SET; code <= END; code++) {
                    all[3 * code] = code;
                    all[3 * code + 1] = a;
                    all[3 * code + 2] = b;
                }
                due("parts open", program(all).open(), 0);
            }
        }
    }

    private static void elseBelongsToTheLastPart() {
        says("IF opens a part; ELSE belongs to the last part that is open and has no ELSE yet");
        LeakageMeter inner = program(IF, 0, 0, IF, 1, 0, ELSE, 0, 0, OUT, 0, 0);
        due("the inner part's, secret 5", inner.outputs(5), 1);
        due("the inner part's, secret 0", inner.outputs(0), 0);
        LeakageMeter outer = program(IF, 0, 0, IF, 1, 0, ELSE, 0, 0, END, 0, 0, ELSE, 0, 0, OUT, 0, 0);
        due("the outer part's, secret 5", outer.outputs(5), 0);
        due("the outer part's, secret 0", outer.outputs(0), 1);
        LeakageMeter bare = program(IF, 0, 0, IF, 1, 0, END, 0, 0, ELSE, 0, 0, OUT, 0, 0);
        due("behind a closed part without ELSE, secret 5", bare.outputs(5), 0);
        due("behind a closed part without ELSE, secret 0", bare.outputs(0), 1);
    }

    private static void endClosesTheLastPart() {
        says("END closes the last open part");
        LeakageMeter meter = program(IF, 0, 0, IF, 1, 0, END, 0, 0, OUT, 0, 0);
        due("one is left", meter.open(), 1);
        due("the inner is closed", meter.outputs(5), 1);
        due("the outer is not", meter.outputs(0), 0);
        due("a second END", meter.add(END, 0, 0), 5);
        due("none is left", meter.open(), 0);
        due("OUT behind both", meter.add(OUT, 0, 0), 6);
        due("the outer is closed", meter.outputs(0), 1);
    }

    private static void statementWithoutPlace() {
        says("The row must fit: add refuses a statement that has no place.");
        due("ELSE first", new LeakageMeter().add(ELSE, 0, 0), -1);
        due("END first", new LeakageMeter().add(END, 0, 0), -1);
        due("IF at the fortieth place fits", program(times(39, SET, 1, 1)).add(IF, 0, 0), 40);
        int[] openAtTheEnd = joined(times(39, ADD, 1, 0), IF, 0, 0);
        dueRefused("END behind 40 with a part open", openAtTheEnd, END, 0, 0);
        due("the part stays open", called(openAtTheEnd).open(), 1);
    }

    private static void viewOfSevenOrFewer() {
        says("THE VIEW of a secret is the row of the first 7 outputs (or of all, if there are fewer)");
        for (int count = 0; count <= 19; count++) {
            // The outputs are 1, 2, 3 and so on.
            LeakageMeter meter = program(joined(new int[] {SET, 1, 1}, times(count, ADD, 2, 1, OUT, 2, 0)));
            int shown = Math.min(count, 7);
            due(count + " put out, outputs", meter.outputs(30), shown);
            for (int place = 0; place <= count; place++) {
                due(count + " put out, place " + place, meter.output(30, place), place < shown ? place + 1 : -1);
            }
        }
    }

    private static void viewIsOfWhatIsPutOut() {
        says("THE VIEW of a secret is the row of the first 7 outputs (or of all, if there are fewer)");
        // Eight OUT stand in the row; one is left out for secret 0, so that its seventh output is the eighth OUT.
        int[] start = {IF, 0, 0, OUT, 1, 0, END, 0, 0};
        int[] row = joined(joined(start, times(6, OUT, 1, 0)), SET, 1, 9, OUT, 1, 0);
        due("secret 0, the seventh", program(row).output(0, 6), 9);
        due("secret 1, the seventh", program(row).output(1, 6), 0);
        due("both have seven", program(row).outputs(0) + program(row).outputs(1), 14);
        due("two classes", program(row).classes(), 2);
    }

    private static void cutOffAtItsPresentEnd() {
        says("that the program, cut off at its present end, puts out for this secret");
        LeakageMeter meter = new LeakageMeter();
        for (int count = 1; count <= 9; count++) {
            due("OUT " + count, meter.add(OUT, 0, 0), count);
            due("outputs behind OUT " + count, meter.outputs(8), Math.min(count, 7));
            due("place " + (count - 1), meter.output(8, count - 1), count <= 7 ? 8 : -1);
        }
        meter.clear();
        meter.add(ADD, 1, 0);
        due("end behind one ADD", meter.end(8, 1), 8);
        meter.add(ADD, 1, 0);
        due("end behind two ADD", meter.end(8, 1), 16);
    }

    private static void openPartsCountAsClosed() {
        says("Parts that are still open count as closed at the end.");
        int[] row = {SET, 1, 1, AND, 1, 0};
        for (int parts = 1; parts <= 4; parts++) {
            row = joined(row, IF, parts == 2 ? 1 : 0, 0, OUT, 0, 0);
            dueClosed(parts + " open behind IF", row, parts);
            int[] withElse = joined(row, ELSE, 0, 0, OUT, 1, 0, SET, 3, 7);
            dueClosed(parts + " open behind ELSE", withElse, parts);
            dueClosed(parts + " open, ELSE last", joined(row, ELSE, 0, 0), parts);
            int[] nextOuter = joined(withElse, END, 0, 0, OUT, 2, 0);
            dueClosed(parts - 1 + " open behind END", nextOuter, parts - 1);
        }
        dueClosed("IF last", new int[] {OUT, 0, 0, IF, 0, 0}, 1);
    }

    private static void dueClosed(String what, int[] open, int parts) {
        int[] closed = joined(open, times(parts, END, 0, 0));
        due(what, program(open).open(), parts);
        due(what + ", closed", program(closed).open(), 0);
        due(what + ", same answers", everyAnswer(open).equals(everyAnswer(closed)) ? 1 : 0, 1);
    }

    private static void alikeIsTheSameView() {
        says("Two secrets are ALIKE if they have the same view"
            + " (the same number of outputs and the same outputs in order).");
        due("none has outputs", program(ADD, 1, 0).least(63), 0);
        due("one more output, a 0", program(OUT, 1, 0, IF, 0, 0, OUT, 1, 0).classes(), 2);
        due("one output against none", program(IF, 0, 0, OUT, 1, 0).classes(), 2);
        int[] first = {IF, 0, 0, SET, 1, 1, ELSE, 0, 0, SET, 2, 1, END, 0, 0, OUT, 1, 0, OUT, 2, 0};
        due("the same outputs in another order", program(first).classes(), 2);
        due("the seventh alone differs", program(joined(times(6, OUT, 1, 0), OUT, 0, 0)).classes(), 64);
        due("the eighth alone differs", program(joined(times(7, OUT, 1, 0), OUT, 0, 0)).classes(), 1);
        int[] sevenOrEight = joined(times(7, OUT, 1, 0), IF, 0, 0, OUT, 1, 0);
        due("eight put out against seven", program(sevenOrEight).alike(0), 64);
        int[] sixOrSeven = joined(times(6, OUT, 1, 0), IF, 0, 0, OUT, 1, 0);
        due("seven put out against six", program(sixOrSeven).alike(0), 1);
        due("end values are not in the view", program(OUT, 1, 0, ADD, 2, 0).classes(), 1);
        due("other statements, same outputs", program(IF, 0, 0, OUT, 1, 0, ELSE, 0, 0, OUT, 2, 0).classes(), 1);
    }

    // Promise 1

    private static void newObjectHasNoStatement() {
        says("LeakageMeter(): No statement.");
        LeakageMeter meter = new LeakageMeter();
        due("open", meter.open(), 0);
        due("classes", meter.classes(), 1);
        due("least", meter.least(63), 0);
        due("alike", meter.alike(63), 64);
        due("outputs", meter.outputs(63), 0);
        due("output", meter.output(63, 0), -1);
        due("end", meter.end(63, 0), 63);
        due("guessed", meter.guessed(0, 63), 1);
        due("ELSE", meter.add(ELSE, 0, 0), -1);
        due("END", meter.add(END, 0, 0), -1);
        due("the first statement", meter.add(SET, 0, 0), 1);
        LeakageMeter full = program(times(40, OUT, 0, 0));
        due("a new object beside a full one", new LeakageMeter().add(OUT, 0, 0), 1);
        due("the full one", full.add(OUT, 0, 0), -1);
    }

    // Promise 2

    private static void codesFromZeroToFifteen() {
        says("Answers -1 and changes nothing if code is not from 0 to 15");
        for (int code : NUMBERS) {
            if (code < 0 || code > 15) {
                dueRefused("code " + code, new int[] {}, code, 0, 0);
                dueRefused("code " + code + " in a part", new int[] {OUT, 0, 0, IF, 0, 0}, code, 1, 1);
            }
        }
        for (int code : new int[] {16, 16 + OUT, 16 + IF, 16 + END, 256 + OUT, OUT - 16, END - 16}) {
            dueRefused("code " + code, new int[] {IF, 0, 0}, code, 0, 0);
        }
        for (int code = SET; code <= END; code++) {
            due("code " + code + " in a part", program(IF, 0, 0).add(code, 0, 0), 2);
        }
    }

    private static void fortyStatements() {
        says("or there are 40 statements");
        int[] thirtyNine = joined(new int[] {IF, 0, 0}, times(38, ADD, 1, 0));
        int[] forty = joined(thirtyNine, OUT, 1, 0);
        for (int code = SET; code <= END; code++) {
            due("statement 40 with code " + code, program(thirtyNine).add(code, 0, 0), 40);
            dueRefused("statement 41 with code " + code, forty, code, 1, 1);
        }
        dueRefused("statement 41 with code -1", forty, -1, 0, 0);
        dueRefused("statement 41 with code 16", forty, 16, 0, 0);
        due("the fortieth is carried out", program(forty).output(2, 0), 76);
    }

    private static void jumpToBehindTheFortieth() {
        says("or there are 40 statements");
        int[] long40 = joined(joined(new int[] {IF, 0, 0}, times(37, ADD, 1, 0)), ELSE, 0, 0, END, 0, 0);
        due("END is the fortieth", program(long40).open(), 0);
        due("carried out", program(long40).end(1, 1), 37);
        due("left out", program(long40).end(0, 1), 0);
        int[] elseLast = joined(joined(new int[] {IF, 0, 0}, times(38, ADD, 1, 0)), ELSE, 0, 0);
        due("ELSE is the fortieth, carried out", program(elseLast).end(1, 1), 38);
        due("ELSE is the fortieth, left out", program(elseLast).end(0, 1), 0);
        int[] outLast = joined(joined(new int[] {IF, 0, 0}, times(37, ADD, 1, 0)), ELSE, 0, 0, OUT, 1, 0);
        due("behind ELSE, carried out", program(outLast).outputs(0), 1);
        due("behind ELSE, left out", program(outLast).outputs(1), 0);
    }

    private static void ifWithFourOpen() {
        says("or code is IF and 4 parts are open");
        for (int parts = 0; parts < 4; parts++) {
            due("IF with " + parts + " open", program(times(parts, IF, 0, 0)).add(IF, 0, 0), parts + 1);
        }
        int[] four = times(4, IF, 0, 0);
        dueRefused("IF with 4 open", four, IF, 0, 0);
        dueRefused("IF with 4 open, behind ELSE", joined(four, ELSE, 0, 0), IF, 0, 0);
        dueRefused("IF with 4 open again", joined(four, END, 0, 0, IF, 0, 0), IF, 1, 0);
        due("IF when one of the 4 is closed", program(joined(four, END, 0, 0)).add(IF, 0, 0), 6);
        int[] many = joined(times(18, IF, 0, 0, END, 0, 0), times(4, IF, 0, 0));
        due("closed parts don't count", program(many).open(), 4);
        for (int code = SET; code <= END; code++) {
            due("code " + code + " with 4 open", program(four).add(code, 0, 0), code == IF ? -1 : 5);
        }
    }

    private static void elseWithNoneOpen() {
        says("or code is ELSE and no part is open");
        dueRefused("no statement", new int[] {}, ELSE, 0, 0);
        dueRefused("no IF", new int[] {OUT, 0, 0, SET, 1, 1}, ELSE, 0, 0);
        dueRefused("all closed", new int[] {IF, 0, 0, OUT, 0, 0, END, 0, 0}, ELSE, 0, 0);
        dueRefused("all closed, with ELSE", new int[] {IF, 0, 0, ELSE, 0, 0, END, 0, 0}, ELSE, 0, 0);
        dueRefused("two closed", new int[] {IF, 0, 0, IF, 0, 0, END, 0, 0, END, 0, 0}, ELSE, 0, 0);
        due("one open", program(IF, 0, 0).add(ELSE, 0, 0), 2);
    }

    private static void elseWhereOneIs() {
        says("or the last open part has an ELSE");
        dueRefused("at once", new int[] {IF, 0, 0, ELSE, 0, 0}, ELSE, 0, 0);
        dueRefused("later", new int[] {IF, 0, 0, OUT, 1, 0, ELSE, 0, 0, OUT, 2, 0}, ELSE, 0, 0);
        dueRefused("the outer has none", new int[] {IF, 0, 0, IF, 0, 0, ELSE, 0, 0}, ELSE, 0, 0);
        dueRefused("behind a part inside",
            new int[] {IF, 0, 0, ELSE, 0, 0, IF, 0, 0, END, 0, 0}, ELSE, 0, 0);
        dueRefused("behind a part inside with ELSE",
            new int[] {IF, 0, 0, ELSE, 0, 0, IF, 0, 0, ELSE, 0, 0, END, 0, 0}, ELSE, 0, 0);
        dueRefused("the fourth part", joined(times(4, IF, 0, 0), ELSE, 0, 0), ELSE, 0, 0);
        due("the outer has one, the last has none", program(IF, 0, 0, ELSE, 0, 0, IF, 0, 0).add(ELSE, 0, 0), 4);
        LeakageMeter next = program(IF, 0, 0, ELSE, 0, 0, END, 0, 0, IF, 0, 0);
        due("a new part where one with ELSE was", next.add(ELSE, 0, 0), 5);
        LeakageMeter outer = program(IF, 0, 0, IF, 0, 0, ELSE, 0, 0, END, 0, 0);
        due("the outer, when the inner is closed", outer.add(ELSE, 0, 0), 5);
    }

    private static void endWithNoneOpen() {
        says("or code is END and no part is open");
        dueRefused("no statement", new int[] {}, END, 0, 0);
        dueRefused("no IF", new int[] {OUT, 0, 0}, END, 0, 0);
        dueRefused("all closed", new int[] {IF, 0, 0, END, 0, 0}, END, 0, 0);
        int[] fourClosed = joined(times(4, IF, 0, 0), times(4, END, 0, 0));
        dueRefused("four closed", fourClosed, END, 0, 0);
        due("one open", program(IF, 0, 0).add(END, 0, 0), 2);
        due("one open, with ELSE", program(IF, 0, 0, ELSE, 0, 0).add(END, 0, 0), 3);
    }

    private static void addAnswersTheNumber() {
        says("Otherwise answers the number of statements then.");
        LeakageMeter meter = new LeakageMeter();
        for (int count = 1; count <= 40; count++) {
            due("a refused one before", meter.add(count % 2 == 0 ? END : 16, 0, 0), -1);
            due("add", meter.add(count % 12, 0, 0), count);
        }
        due("no more", meter.add(SET, 0, 0), -1);
        meter.clear();
        due("behind clear", meter.add(SET, 0, 0), 1);
    }

    // Promise 3

    private static void dueAsNew(String what, LeakageMeter cleared, int secret) {
        due(what + ", open", cleared.open(), 0);
        String same = answersFor(new LeakageMeter(), secret);
        due(what + ", same answers for " + secret, answersFor(cleared, secret).equals(same) ? 1 : 0, 1);
    }

    private static void clearRemovesAllStatements() {
        says("clear: Removes all statements.");
        int[][] rows = {
            {}, {OUT, 0, 0}, times(40, OUT, 0, 0), times(40, ADD, 0, 0), times(4, IF, 0, 0),
            {IF, 0, 0, ELSE, 0, 0, OUT, 0, 0}, joined(times(39, XOR, 1, 0), IF, 0, 0)};
        for (int row = 0; row < rows.length; row++) {
            LeakageMeter meter = program(rows[row]);
            meter.clear();
            for (int secret : new int[] {0, 1, 31, 62, 63}) {
                dueAsNew("row " + row, meter, secret);
            }
            due("ELSE behind clear", meter.add(ELSE, 0, 0), -1);
            due("END behind clear", meter.add(END, 0, 0), -1);
            meter.clear();
            meter.clear();
            dueAsNew("row " + row + ", cleared again", meter, 63);
            for (int count = 1; count <= 40; count++) {
                due("40 more", meter.add(count <= 4 ? IF : count == 5 ? ELSE : OUT, 0, 0), count);
            }
            due("a 41st", meter.add(OUT, 0, 0), -1);
            due("old jumps are gone", meter.outputs(0), 0);
        }
    }

    // Promise 4

    private static void openFromZeroToFour() {
        says("open: The number of parts that are open.");
        LeakageMeter meter = new LeakageMeter();
        due("none", meter.open(), 0);
        int[] codes = {END, IF, SET, IF, ELSE, ELSE, IF, IF, IF, 16, ELSE, END, END, IF, END, END, OUT, END, END, ELSE};
        int[] open = {0, 1, 1, 2, 2, 2, 3, 4, 4, 4, 4, 3, 2, 3, 2, 1, 1, 0, 0, 0};
        for (int i = 0; i < codes.length; i++) {
            meter.add(codes[i], 0, 0);
            due("behind call " + (i + 1), meter.open(), open[i]);
        }
        due("the last of 40", program(joined(times(36, OUT, 0, 0), times(4, IF, 0, 0))).open(), 4);
    }

    // Promise 5

    private static void classesFromOneTo64() {
        says("classes: how many different views the 64 secrets have");
        due("the fewest, no statement", new LeakageMeter().classes(), 1);
        due("the fewest, a constant", program(SET, 0, 5, OUT, 0, 0).classes(), 1);
        due("the most", program(OUT, 0, 0).classes(), 64);
        due("0 against the others", program(SET, 1, 0, EQUAL, 0, 1, OUT, 0, 0).classes(), 2);
        due("63 against the others", program(SET, 1, 63, EQUAL, 0, 1, OUT, 0, 0).classes(), 2);
        // 62 becomes 63, so that these two are alike and no others.
        due("all but one", program(SET, 1, 62, EQUAL, 1, 0, ADD, 0, 1, OUT, 0, 0).classes(), 63);
        due("one more output never takes one away",
            program(SET, 1, 62, EQUAL, 1, 0, ADD, 0, 1, OUT, 0, 0, OUT, 1, 0).classes(), 64);
    }

    // Promises 6 to 10: the secret taken & 63

    private static void secretIsMasked() {
        says("the secret secret & 63");
        int[] row = {OUT, 2, 0, SET, 1, 5, LESS, 1, 0, IF, 1, 0, OUT, 0, 0, DOWN, 0, 2, OUT, 0, 0, END, 0, 0};
        for (int secret : NUMBERS) {
            LeakageMeter meter = program(row);
            int masked = secret & 63;
            due("least(" + secret + ")", meter.least(secret), masked <= 5 ? 0 : masked);
            due("alike(" + secret + ")", meter.alike(secret), masked <= 5 ? 6 : 1);
            due("outputs(" + secret + ")", meter.outputs(secret), masked <= 5 ? 1 : 3);
            due("output(" + secret + ", 0)", meter.output(secret, 0), 0);
            due("output(" + secret + ", 1)", meter.output(secret, 1), masked <= 5 ? -1 : masked);
            due("output(" + secret + ", 2)", meter.output(secret, 2), masked <= 5 ? -1 : masked / 4);
            due("output(" + secret + ", 3)", meter.output(secret, 3), -1);
            due("end(" + secret + ", 0)", meter.end(secret, 0), masked <= 5 ? masked : masked / 4);
            due("end(" + secret + ", 1)", meter.end(secret, 1), masked <= 5 ? 0 : 1);
        }
    }

    // Promise 6

    private static void leastSecret() {
        says("least: The least secret that is alike to the secret secret & 63.");
        LeakageMeter own = program(OUT, 0, 0);
        LeakageMeter all = program(OUT, 1, 0);
        LeakageMeter pairs = program(SET, 1, 31, AND, 0, 1, OUT, 0, 0);
        for (int secret = 0; secret <= 63; secret++) {
            due("each alone, least(" + secret + ")", own.least(secret), secret);
            due("all alike, least(" + secret + ")", all.least(secret), 0);
            due("pairs, least(" + secret + ")", pairs.least(secret), secret % 32);
        }
        LeakageMeter last = program(SET, 1, 62, LESS, 1, 0, OUT, 1, 0);
        due("63 alone", last.least(63), 63);
        due("all but 63", last.least(62), 0);
        LeakageMeter first = program(IF, 0, 0, OUT, 1, 0);
        due("0 alone", first.least(0), 0);
        due("all but 0", first.least(63), 1);
        due("the least of all but 0", first.least(1), 1);
    }

    // Promise 7

    private static void alikeCountsItself() {
        says("alike: How many secrets are alike to the secret secret & 63 (itself included).");
        due("itself alone", program(OUT, 0, 0).alike(0), 1);
        due("itself alone, 63", program(OUT, 0, 0).alike(63), 1);
        due("all", new LeakageMeter().alike(0), 64);
        due("all, 63", new LeakageMeter().alike(63), 64);
        LeakageMeter first = program(IF, 0, 0, OUT, 1, 0);
        due("0 alone", first.alike(0), 1);
        due("all but 0", first.alike(63), 63);
        LeakageMeter last = program(SET, 1, 62, LESS, 1, 0, OUT, 1, 0);
        due("63 alone", last.alike(63), 1);
        due("all but 63", last.alike(62), 63);
        LeakageMeter uneven = program(SET, 1, 5, LESS, 0, 1, OUT, 0, 0);
        for (int secret = 0; secret <= 63; secret++) {
            due("alike(" + secret + ")", uneven.alike(secret), secret < 5 ? 5 : 59);
        }
    }

    // Promise 8

    private static void outputsFromZeroToSeven() {
        says("outputs: How many outputs the view of the secret secret & 63 has.");
        for (int count = 0; count <= 40; count++) {
            due(count + " OUT", program(times(count, OUT, 0, 0)).outputs(63), Math.min(count, 7));
        }
        LeakageMeter some = program(joined(joined(new int[] {IF, 0, 0}, times(8, OUT, 0, 0)), ELSE, 0, 0));
        due("8 for secret 1", some.outputs(1), 7);
        due("none for secret 0", some.outputs(0), 0);
        due("8 for secret 63", some.outputs(63), 7);
    }

    // Promise 9

    private static void placesOfAView() {
        says("output: The output at the place (from 0) in the view of the secret secret & 63; -1 if there is none.");
        for (int count : new int[] {0, 1, 6, 7, 8, 40}) {
            int[] row = times(count, OUT, 0, 0);
            for (int secret : new int[] {0, 1, 31, 62, 63}) {
                LeakageMeter meter = program(row);
                for (int place : NUMBERS) {
                    boolean there = place >= 0 && place < Math.min(count, 7);
                    due(count + " OUT, output(" + secret + ", " + place + ")", meter.output(secret, place),
                        there ? secret : -1);
                }
            }
        }
    }

    private static void outputsThatAreNotThere() {
        says("-1 if there is none");
        due("255 is not -1", program(SET, 0, 255, OUT, 0, 0).output(0, 0), 255);
        due("0 is an output", program(OUT, 1, 0).output(0, 0), 0);
        LeakageMeter meter = program(times(7, OUT, 0, 0));
        meter.clear();
        due("an output of a removed program", meter.output(5, 0), -1);
        due("an OUT again", meter.add(OUT, 0, 0), 1);
        due("the second output of a removed program", meter.output(5, 1), -1);
        LeakageMeter taken = program(IF, 1, 0, ELSE, 0, 0, OUT, 0, 0);
        due("END of the part", taken.add(END, 0, 0), 4);
        due("still put out", taken.output(5, 0), 5);
        due("no more than it", taken.output(5, 1), -1);
    }

    // Promise 10

    private static void endVariableIsMasked() {
        says("end: The end value of the variable a & 3 for the secret secret & 63.");
        int[] held = {63, 200, 7, 255};
        LeakageMeter meter = program(SET, 1, 200, SET, 2, 7, SET, 3, 255);
        for (int a : NUMBERS) {
            due("end(63, " + a + ")", meter.end(63, a), held[a & 3]);
            due("end(-1, " + a + ")", meter.end(-1, a), held[a & 3]);
        }
    }

    private static void endBehindTheView() {
        says("end: The end value of the variable a & 3");
        int[] row = joined(times(8, OUT, 0, 0), ADD, 1, 0, OUT, 1, 0, ADD, 1, 0);
        due("behind the eighth output", program(row).end(63, 1), 126);
        due("no statement", new LeakageMeter().end(63, 0), 63);
        int[] full = joined(times(39, OUT, 0, 0), SET, 3, 1);
        due("the fortieth statement", program(full).end(0, 3), 1);
        LeakageMeter left = program(IF, 0, 0, SET, 3, 1, ELSE, 0, 0, SET, 3, 2, END, 0, 0);
        due("secret 0", left.end(0, 3), 2);
        due("secret 1", left.end(1, 3), 1);
    }

    // Promise 11

    /** Every from and to, masked and not, against the views counted one by one. */
    private static void dueGuessed(String what, int... row) {
        String[] views = new String[64];
        for (int secret = 0; secret < 64; secret++) {
            views[secret] = view(program(row), secret);
        }
        for (int from = 0; from < 64; from++) {
            LeakageMeter meter = program(row);
            Set<String> seen = new HashSet<>();
            for (int to = from; to < 64; to++) {
                seen.add(views[to]);
                due(what + ", guessed(" + from + ", " + to + ")", meter.guessed(from, to), seen.size());
                due(what + ", guessed(" + to + ", " + from + ")", meter.guessed(to, from), seen.size());
                due(what + ", masked", meter.guessed(from + 64, to - 64), seen.size());
                due(what + ", masked and changed", meter.guessed(to - 128, from + 256), seen.size());
            }
        }
    }

    private static void guessedInEveryRange() {
        says("the secret is known to be at least from and at most to");
        dueGuessed("no statement");
        dueGuessed("each alone", OUT, 0, 0);
        dueGuessed("pieces", DOWN, 0, 3, OUT, 0, 0);
        dueGuessed("far apart", SET, 1, 7, AND, 0, 1, OUT, 0, 0);
        dueGuessed("by number of outputs", SET, 1, 20, LESS, 1, 0, IF, 1, 0, OUT, 2, 0);
        dueGuessed("squares", MUL, 0, 0, OUT, 0, 0);
    }

    private static void guessedOfOneSecret() {
        says("the secret is known to be at least from and at most to");
        LeakageMeter meter = program(OUT, 0, 0);
        for (int secret = 0; secret <= 63; secret++) {
            due("guessed(" + secret + ", " + secret + ")", meter.guessed(secret, secret), 1);
        }
        due("two secrets", meter.guessed(62, 63), 2);
        due("all", meter.guessed(0, 63), 64);
        due("all but the last", meter.guessed(0, 62), 63);
        due("all but the first", meter.guessed(1, 63), 63);
        LeakageMeter none = new LeakageMeter();
        due("nothing is seen, one secret", none.guessed(63, 63), 1);
        due("nothing is seen, all", none.guessed(0, 63), 1);
    }

    private static void guessedMasksAndChanges() {
        says("each taken & 63; if to is less than from the two are changed with each other");
        LeakageMeter meter = program(OUT, 0, 0);
        due("to less than from", meter.guessed(9, 2), 8);
        due("63 and 0", meter.guessed(63, 0), 64);
        due("64 is 0", meter.guessed(64, 0), 1);
        due("less only when it has been masked", meter.guessed(10, 64), 11);
        due("not less when it has been masked", meter.guessed(64, 10), 11);
        due("not equal when they have been masked", meter.guessed(63, 64), 64);
        due("equal when they have been masked", meter.guessed(5, 69), 1);
        due("-1 is 63", meter.guessed(-1, 63), 1);
        due("-64 is 0", meter.guessed(-64, 0), 1);
        for (int from : NUMBERS) {
            LeakageMeter each = program(OUT, 0, 0);
            for (int to : NUMBERS) {
                due("guessed(" + from + ", " + to + ")", each.guessed(from, to), Math.abs((to & 63) - (from & 63)) + 1);
            }
        }
    }

    private static void guessedOfARangeInsideAClass() {
        says("how many of the secrets from .. to are guessed rightly, that is, how many different views they have");
        LeakageMeter meter = program(DOWN, 0, 2, OUT, 0, 0);
        due("a whole class", meter.guessed(4, 7), 1);
        due("without the least of the class", meter.guessed(5, 7), 1);
        due("the last of one and the first of the next", meter.guessed(7, 8), 2);
        due("one from each end", meter.guessed(3, 8), 3);
        due("all are as many as the classes", meter.guessed(0, 63), meter.classes());
    }

    // Promise 12

    private static void refusedCallsChangeNothing() {
        says("a call that is refused (by a code below 0 that is named, or by false) changes nothing.");
        int[] row = {SET, 1, 3, AND, 1, 0, IF, 1, 0, OUT, 1, 0, IF, 0, 0, ELSE, 0, 0, OUT, 0, 0};
        dueRefused("a code too small", row, -1, 3, 3);
        dueRefused("a code too large", row, 16, 3, 3);
        dueRefused("a second ELSE", row, ELSE, 3, 3);
        dueRefused("END with none open", joined(row, END, 0, 0, END, 0, 0), END, 3, 3);
        dueRefused("ELSE with none open", joined(row, END, 0, 0, END, 0, 0), ELSE, 3, 3);
        dueRefused("a fifth IF", joined(row, IF, 0, 0, IF, 1, 0), IF, 3, 3);
        dueRefused("a 41st statement", joined(row, times(33, ADD, 2, 0)), OUT, 3, 3);
        dueRefused("a 41st statement, END", joined(row, times(33, ADD, 2, 0)), END, 3, 3);
        dueRefused("a 41st statement, IF", joined(row, times(33, ADD, 2, 0)), IF, 3, 3);
    }

    private static void questionsChangeNothing() {
        says("a call that is refused (by a code below 0 that is named, or by false) changes nothing.");
        // An output that is not there is asked for, and so is all else, before each statement.
        int[] row = {COPY, 1, 0, IF, 1, 0, OUT, 0, 0, ELSE, 0, 0, OUT, 2, 0, END, 0, 0, SUB, 2, 0, OUT, 2, 0};
        for (int secret = 0; secret < 64; secret++) {
            LeakageMeter asked = new LeakageMeter();
            for (int i = 0; i < row.length; i += 3) {
                due("output that is not there", asked.output(secret, 7), -1);
                answersFor(asked, secret);
                asked.open();
                due("add", asked.add(row[i], row[i + 1], row[i + 2]), i / 3 + 1);
            }
            String got = answersFor(asked, secret);
            due("secret " + secret, got.equals(answersFor(program(row), secret)) ? 1 : 0, 1);
            due("secret " + secret + ", asked twice", got.equals(answersFor(asked, secret)) ? 1 : 0, 1);
        }
    }

    private static void terms() {
        secretsFromZeroTo63();
        variablesAtTheStart();
        startOfEachRun();
        variablesHoldNumbersTo255();
        arithmeticOnAllNumbers();
        arithmeticWrapsAround();
        atMostFortyStatements();
        variablesAreTaken();
        variablesOfOutAndIf();
        sameVariableTwice();
        setTakesTheLowestByte();
        shiftsTakeThreeBits();
        downRoundsDown();
        lessAndEqualAtTheBorder();
        outPutsAtTheEnd();
        ifLooksForNotZero();
        ifGoesBehindElseOrEnd();
        elseGoesBehindEnd();
        emptyParts();
        notNamedIsNotLookedAt();
        noNumberIsRefused();
        elseBelongsToTheLastPart();
        endClosesTheLastPart();
        statementWithoutPlace();
        viewOfSevenOrFewer();
        viewIsOfWhatIsPutOut();
        cutOffAtItsPresentEnd();
        openPartsCountAsClosed();
        alikeIsTheSameView();
    }

    private static void promisesOneToFour() {
        newObjectHasNoStatement();
        codesFromZeroToFifteen();
        fortyStatements();
        jumpToBehindTheFortieth();
        ifWithFourOpen();
        elseWithNoneOpen();
        elseWhereOneIs();
        endWithNoneOpen();
        addAnswersTheNumber();
        clearRemovesAllStatements();
        openFromZeroToFour();
    }

    private static void promisesFiveToTwelve() {
        classesFromOneTo64();
        secretIsMasked();
        leastSecret();
        alikeCountsItself();
        outputsFromZeroToSeven();
        placesOfAView();
        outputsThatAreNotThere();
        endVariableIsMasked();
        endBehindTheView();
        guessedInEveryRange();
        guessedOfOneSecret();
        guessedMasksAndChanges();
        guessedOfARangeInsideAClass();
        refusedCallsChangeNothing();
        questionsChangeNothing();
    }

    public static void main(String[] args) {
        useOfFiveHundredAndTwelveCalls();
        terms();
        promisesOneToFour();
        promisesFiveToTwelve();
        System.out.println(wrong == 0 ? "all answers are as due" : wrong + " answers are not as due");
        if (wrong != 0) {
            System.exit(1);
        }
    }
}
