/** Counts and prints what is not as due. */
final class Check {
    /** What a call threw, beside an answer: numbers no call answers. */
    static final long INDEX = 1_000_001, ARGUMENT = 1_000_002, STATE = 1_000_003;
    private static int checks;
    private static int wrong;
    private static String promise = "";

    interface Call {
        long answer();
    }

    interface Question {
        boolean answer();
    }

    private Check() { }

    static void promise(int number, String edge) {
        promise = "promise " + number + ", " + edge;
    }

    static void due(long want, Call call) {
        same(promise, want, answerOf(call));
    }

    static void due(boolean want, Question question) {
        same(promise, want ? 1 : 0, answerOf(() -> question.answer() ? 1 : 0));
    }

    /** Any other exception than those of the document ends the test. */
    static long answerOf(Call call) {
        try {
            return call.answer();
        } catch (ArrayIndexOutOfBoundsException | StringIndexOutOfBoundsException e) {
            throw new AssertionError("thrown by the machine", e);
        } catch (IndexOutOfBoundsException e) {
            return INDEX;
        } catch (IllegalArgumentException e) {
            return ARGUMENT;
        } catch (IllegalStateException e) {
            return STATE;
        }
    }

    static boolean same(String what, long want, long got) {
        checks++;
        if (want == got) {
            return true;
        }
        wrong++;
        System.out.println(what + ": answered " + name(got) + ", due is " + name(want)
                + caller());
        return false;
    }

    private static String name(long answer) {
        if (answer == INDEX) {
            return "IndexOutOfBoundsException";
        }
        if (answer == ARGUMENT) {
            return "IllegalArgumentException";
        }
        return answer == STATE ? "IllegalStateException" : Long.toString(answer);
    }

    private static String caller() {
        for (StackTraceElement at : new Throwable().getStackTrace()) {
            if (!at.getClassName().startsWith("Check")) {
                return " (" + at.getFileName() + ":" + at.getLineNumber() + ")";
            }
        }
        return "";
    }

    static void end(String test) {
        System.out.println(test + ": " + checks + " checks, " + wrong + " wrong");
        if (wrong > 0 || checks == 0) {
            System.exit(1);
        }
    }
}
