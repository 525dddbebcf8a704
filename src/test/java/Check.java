import java.util.NoSuchElementException;

/** What the tests share: feeding texts, comparing answers, and the exit code. */
final class Check {
    interface Call {
        long answer();
    }

    static final long NO_SUCH = Long.MIN_VALUE;
    static final long ILLEGAL = Long.MIN_VALUE + 1;
    static final long STRANGE = Long.MIN_VALUE + 2;

    private int wrong = 0;
    private int asked = 0;

    /** The call's answer, or a number that stands for what it throws. */
    static long of(Call call) {
        try {
            return call.answer();
        } catch (NoSuchElementException e) {
            return e.getClass() == NoSuchElementException.class ? NO_SUCH : STRANGE;
        } catch (IllegalArgumentException e) {
            return e.getClass() == IllegalArgumentException.class ? ILLEGAL : STRANGE;
        } catch (RuntimeException e) {
            return STRANGE;
        }
    }

    static long of(Runnable call) {
        return of(() -> {
            call.run();
            return 0L;
        });
    }

    private static String name(long answer) {
        if (answer == NO_SUCH) {
            return "NoSuchElementException";
        }
        if (answer == ILLEGAL) {
            return "IllegalArgumentException";
        }
        return answer == STRANGE ? "another exception" : Long.toString(answer);
    }

    void due(String what, long want, Call call) {
        same(what, want, of(call));
    }

    void dueOf(String what, long want, Runnable call) {
        same(what, want, of(call));
    }

    void same(String what, long want, long got) {
        asked++;
        if (want != got) {
            wrong++;
            if (wrong <= 50) {
                System.out.println(what + ": answered " + name(got) + ", due is " + name(want));
            }
        }
    }

    int wrong() {
        return wrong;
    }

    void end() {
        System.out.println(wrong == 0 ? asked + " answers are as due" : wrong + " of " + asked + " answers are not as due");
        if (wrong != 0) {
            System.exit(1);
        }
    }

    static int[] numbers(String text) {
        int rows = (text.length() + 19) / 20;
        int[] numbers = new int[rows * 5];
        for (int i = 0; i < numbers.length * 4; i++) {
            int sign = i < text.length() ? text.charAt(i) & 255 : ' ';
            numbers[i / 4] = numbers[i / 4] << 8 | sign;
        }
        return numbers;
    }

    static int feed(MudWalls walls, String text) {
        int[] n = numbers(text);
        int last = walls.count(5);
        for (int i = 0; i < n.length; i += 5) {
            last = walls.feed(n[i], n[i + 1], n[i + 2], n[i + 3], n[i + 4]);
        }
        return last;
    }

    static int tell(MudWalls walls, String text) {
        feed(walls, text);
        return walls.yard(text.length());
    }

    static MudWalls yard(String text) {
        MudWalls walls = new MudWalls();
        int fault = tell(walls, text);
        if (fault != 0) {
            throw new IllegalStateException("fault " + fault + " at " + walls.fault() + " of " + text);
        }
        return walls;
    }
}
