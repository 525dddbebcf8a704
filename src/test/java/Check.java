import java.util.NoSuchElementException;

/** What the tests share: feeding texts, comparing answers, and the exit code. */
final class Check {
    interface Call {
        long answer();
    }

    /** Makes an object, the same one each time it is asked. */
    interface Scene {
        MudWalls make();
    }

    interface CallOn {
        long answer(MudWalls x);
    }

    static final long NO_SUCH = Long.MIN_VALUE;
    static final long ILLEGAL = Long.MIN_VALUE + 1;
    static final long STRANGE = Long.MIN_VALUE + 2;

    private int wrong = 0;
    private int asked = 0;

    /** The call's answer, or a number that stands for what it throws. */
    static long of(Call call) {
        try {
            return call.answer();
        } catch (NoSuchElementException e) {
            return e.getClass() == NoSuchElementException.class ? NO_SUCH : STRANGE;
        } catch (IllegalArgumentException e) {
            return e.getClass() == IllegalArgumentException.class ? ILLEGAL : STRANGE;
        } catch (RuntimeException e) {
            return STRANGE;
        }
    }

    static long of(Runnable call) {
        return of(() -> {
            call.run();
            return 0L;
        });
    }

    static String name(long answer) {
        if (answer == NO_SUCH) {
            return "NoSuchElementException";
        }
        if (answer == ILLEGAL) {
            return "IllegalArgumentException";
        }
        return answer == STRANGE ? "another exception" : Long.toString(answer);
    }

    void due(String what, long want, Call call) {
        same(what, want, of(call));
    }

    void dueOf(String what, long want, Runnable call) {
        same(what, want, of(call));
    }

    void same(String what, long want, long got) {
        asked++;
        if (want != got) {
            wrong++;
            if (wrong <= 50) {
                System.out.println(what + ": answered " + name(got) + ", due is " + name(want));
            }
        }
    }

    /** The call answers so, and an object is the same with it as without it. */
    void changesNothing(String what, Scene scene, long want, CallOn call) {
        MudWalls x = scene.make();
        same(what, want, of(() -> call.answer(x)));
        sameRows(what, Look.through(scene.make(), true), Look.through(x, true));
    }

    /** As changesNothing, but the call is counted in one number of STATUS. */
    void isCounted(String what, int status, Scene scene, long want, CallOn call) {
        MudWalls without = scene.make();
        MudWalls x = scene.make();
        same(what, want, of(() -> call.answer(x)));
        for (int k = 0; k < 4; k++) {
            same(what + ": STATUS " + k, without.count(8 + k) + (k == status ? 1 : 0), x.count(8 + k));
        }
        sameRows(what, Look.through(without, false), Look.through(x, false));
    }

    void sameRows(String what, java.util.List<String> want, java.util.List<String> got) {
        asked++;
        if (!want.equals(got)) {
            wrong++;
            int at = 0;
            while (at < want.size() && at < got.size() && want.get(at).equals(got.get(at))) {
                at++;
            }
            System.out.println(what + ": changed " + (at < want.size() ? want.get(at) : "nothing more")
                + " to " + (at < got.size() ? got.get(at) : "nothing more"));
        }
    }

    int wrong() {
        return wrong;
    }

    void end() {
        System.out.println(wrong == 0 ? asked + " answers are as due" : wrong + " of " + asked + " answers are not as due");
        if (wrong != 0) {
            System.exit(1);
        }
    }

    static int[] numbers(String text) {
        int rows = (text.length() + 19) / 20;
        int[] numbers = new int[rows * 5];
        for (int i = 0; i < numbers.length * 4; i++) {
            int sign = i < text.length() ? text.charAt(i) & 255 : ' ';
            numbers[i / 4] = numbers[i / 4] << 8 | sign;
        }
        return numbers;
    }

    static int feed(MudWalls walls, String text) {
        int[] n = numbers(text);
        int last = walls.count(5);
        for (int i = 0; i < n.length; i += 5) {
            last = walls.feed(n[i], n[i + 1], n[i + 2], n[i + 3], n[i + 4]);
        }
        return last;
    }

    static int tell(MudWalls walls, String text) {
        feed(walls, text);
        return walls.yard(text.length());
    }

    static MudWalls yard(String text) {
        MudWalls walls = new MudWalls();
        int fault = tell(walls, text);
        if (fault != 0) {
            throw new IllegalStateException("fault " + fault + " at " + walls.fault() + " of " + text);
        }
        return walls;
    }
}
