/** What README.md shows: its example, call by call, and the least and greatest answers in its table of methods. */
public final class LeakageMeterReadme {
    private static final int SET = 0, ADD = 2, AND = 5, OUT = 12, IF = 13, ELSE = 14, END = 15;

    private static int wrong = 0;

    private static void due(String what, long got, long want) {
        if (got != want) {
            wrong++;
            System.out.println(what + " answered " + got + ", due is " + want);
        }
    }

    /** Kept the same as the example in README.md. */
    private static void example() {
        LeakageMeter meter = new LeakageMeter();
        due("add(0, 1, 3)", meter.add(0, 1, 3), 1);
        due("add(5, 0, 1)", meter.add(5, 0, 1), 2);
        due("add(12, 0, 0)", meter.add(12, 0, 0), 3);
        due("classes()", meter.classes(), 4);
        due("least(7)", meter.least(7), 3);
        due("alike(7)", meter.alike(7), 16);
        due("guessed(0, 1)", meter.guessed(0, 1), 2);
        due("add(13, 0, 0)", meter.add(13, 0, 0), 4);
        due("add(12, 1, 0)", meter.add(12, 1, 0), 5);
        due("open()", meter.open(), 1);
        due("outputs(7)", meter.outputs(7), 2);
        due("outputs(8)", meter.outputs(8), 1);
        due("output(7, 1)", meter.output(7, 1), 3);
        due("output(8, 1)", meter.output(8, 1), -1);
        due("end(7, 0)", meter.end(7, 0), 3);
        due("add(15, 0, 0)", meter.add(15, 0, 0), 6);
        due("add(15, 0, 0), none open", meter.add(15, 0, 0), -1);
        meter.clear();
        due("classes() behind clear", meter.classes(), 1);
    }

    private static void leastAnswers() {
        LeakageMeter meter = new LeakageMeter();
        due("the least of open", meter.open(), 0);
        due("the least of classes", meter.classes(), 1);
        due("the least of least", meter.least(63), 0);
        due("the least of outputs", meter.outputs(63), 0);
        due("the least of end", meter.end(63, 3), 0);
        due("the least of guessed", meter.guessed(0, 63), 1);
        due("the least of add", meter.add(OUT, 0, 0), 1);
        due("the least of output", meter.output(0, 0), 0);
        due("the least of alike", meter.alike(63), 1);
    }

    private static void greatestAnswers() {
        due("the greatest of alike", new LeakageMeter().alike(0), 64);
        LeakageMeter meter = new LeakageMeter();
        for (int count = 1; count <= 39; count++) {
            due("add", meter.add(count <= 8 ? OUT : count <= 12 ? IF : ADD, 0, 0), count);
        }
        due("the greatest of add", meter.add(SET, 0, 255), 40);
        due("the greatest of open", meter.open(), 4);
        due("the greatest of classes", meter.classes(), 64);
        due("the greatest of least", meter.least(63), 63);
        due("the greatest of outputs", meter.outputs(63), 7);
        due("the greatest of end", meter.end(63, 0), 255);
        due("the greatest of guessed", meter.guessed(0, 63), 64);
        meter.clear();
        due("SET", meter.add(SET, 0, 255), 1);
        due("OUT", meter.add(OUT, 0, 0), 2);
        due("the greatest of output", meter.output(0, 0), 255);
    }

    private static void refusals() {
        LeakageMeter meter = new LeakageMeter();
        due("code -1", meter.add(-1, 0, 0), -1);
        due("code 16", meter.add(16, 0, 0), -1);
        due("ELSE, none open", meter.add(ELSE, 0, 0), -1);
        due("END, none open", meter.add(END, 0, 0), -1);
        for (int count = 1; count <= 4; count++) {
            due("IF", meter.add(IF, 0, 0), count);
        }
        due("IF, 4 open", meter.add(IF, 0, 0), -1);
        due("ELSE", meter.add(ELSE, 0, 0), 5);
        due("ELSE, where one is, though outer parts have none", meter.add(ELSE, 0, 0), -1);
        for (int count = 6; count <= 40; count++) {
            due("AND with any numbers", meter.add(AND, -count, Integer.MAX_VALUE), count);
        }
        due("a 41st", meter.add(SET, 0, 0), -1);
        due("a place below 0", meter.output(0, -1), -1);
        due("a place behind the view", meter.output(0, 0), -1);
    }

    private static void maskedNumbers() {
        LeakageMeter meter = new LeakageMeter();
        due("OUT", meter.add(OUT, 0, 0), 1);
        due("SET", meter.add(SET, 3, 9), 2);
        due("64 is 0", meter.least(64), 0);
        due("-64 is 0", meter.output(-64, 0), 0);
        due("-1 is 63", meter.least(-1), 63);
        due("variable -1 is 3", meter.end(-1, -1), 9);
        due("either order", meter.guessed(20, 11), 10);
    }

    public static void main(String[] args) {
        example();
        leastAnswers();
        greatestAnswers();
        refusals();
        maskedNumbers();
        System.out.println(wrong == 0 ? "all answers are as due" : wrong + " answers are not as due");
        if (wrong != 0) {
            System.exit(1);
        }
    }
}
