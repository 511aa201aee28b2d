import java.util.Arrays;
import java.util.LinkedHashMap;
import java.util.List;
import java.util.Map;
import java.util.function.Supplier;
import java.util.function.ToIntFunction;

/** Promises 2 to 7: which calls are refused at which moment, with every reader before and after. */
public final class RefusalTest {
    private static final int LEAST = Make.LEAST;
    private static final int GREATEST = Make.GREATEST;

    /** Calls whose arguments are right, at the edges; whether they are refused is a matter of the moment. */
    private static final Map<String, Map<String, ToIntFunction<ChoiceShrink>>> RIGHT = new LinkedHashMap<>();

    /** Calls whose arguments are wrong, and so refused at every moment. */
    private static final Map<String, ToIntFunction<ChoiceShrink>> WRONG = new LinkedHashMap<>();

    public static void main(String[] args) {
        nameRightCalls();
        nameWrongCalls();
        inIdle();
        inFound();
        inDone();
        wrongArgumentsAtEveryMoment();
        Check.end("RefusalTest");
    }

    private static void nameRightCalls() {
        Map<String, ToIntFunction<ChoiceShrink>> addGen = name("addGen");
        addGen.put("addGen(1, 0)", x -> x.addGen(1, 0));
        addGen.put("addGen(1, 255)", x -> x.addGen(1, 255));
        for (int bound : new int[] {LEAST, -1, 0, 255, 256, GREATEST}) {
            addGen.put("addGen(2, " + bound + ")", x -> x.addGen(2, bound));
            addGen.put("addGen(3, " + bound + ")", x -> x.addGen(3, bound));
        }
        Map<String, ToIntFunction<ChoiceShrink>> addOp = name("addOp");
        for (int op = 0; op <= 12; op++) {
            int named = op;
            addOp.put("addOp(" + op + ", least)", x -> x.addOp(named, LEAST));
            addOp.put("addOp(" + op + ", greatest)", x -> x.addOp(named, GREATEST));
        }
        for (int arg : new int[] {0, 32}) {
            addOp.put("addOp(13, " + arg + ")", x -> x.addOp(13, arg));
            addOp.put("addOp(14, " + arg + ")", x -> x.addOp(14, arg));
        }
        Map<String, ToIntFunction<ChoiceShrink>> pushChoice = name("pushChoice");
        pushChoice.put("pushChoice(0)", x -> x.pushChoice(0));
        pushChoice.put("pushChoice(255)", x -> x.pushChoice(255));
        name("replay").put("replay()", ChoiceShrink::replay);
        Map<String, ToIntFunction<ChoiceShrink>> run = name("run");
        for (int count : new int[] {LEAST, -1, 0, 1, 16, 17, GREATEST}) {
            run.put("run(" + count + ")", x -> x.run(count));
        }
        Map<String, ToIntFunction<ChoiceShrink>> shrink = name("shrink");
        for (int budget : new int[] {LEAST, -1, 0, 1, 64, 65, GREATEST}) {
            shrink.put("shrink(" + budget + ")", x -> x.shrink(budget));
        }
    }

    private static Map<String, ToIntFunction<ChoiceShrink>> name(String method) {
        RIGHT.put(method, new LinkedHashMap<>());
        return RIGHT.get(method);
    }

    private static void nameWrongCalls() {
        for (int kind : new int[] {LEAST, -1, 0, 4, GREATEST}) {
            for (int bound : new int[] {LEAST, 0, 255, GREATEST}) {
                WRONG.put("addGen(" + kind + ", " + bound + ")", x -> x.addGen(kind, bound));
            }
        }
        for (int bound : new int[] {LEAST, -1, 256, GREATEST}) {
            WRONG.put("addGen(1, " + bound + ")", x -> x.addGen(1, bound));
        }
        for (int op : new int[] {LEAST, -1, 15, GREATEST}) {
            for (int arg : new int[] {LEAST, 0, 32, GREATEST}) {
                WRONG.put("addOp(" + op + ", " + arg + ")", x -> x.addOp(op, arg));
            }
        }
        for (int arg : new int[] {LEAST, -1, 33, GREATEST}) {
            WRONG.put("addOp(13, " + arg + ")", x -> x.addOp(13, arg));
            WRONG.put("addOp(14, " + arg + ")", x -> x.addOp(14, arg));
        }
        for (int c : new int[] {LEAST, -1, 256, GREATEST}) {
            WRONG.put("pushChoice(" + c + ")", x -> x.pushChoice(c));
        }
    }

    private static void inIdle() {
        Check.says("Refused (-1, no change) if phase is not PH_IDLE, the generator is not complete, or the program is "
            + "empty.", "with all that the other methods refuse in PH_IDLE");
        Map<String, Supplier<ChoiceShrink>> idle = Moment.idle();
        refuses("new", idle, "replay", "run", "shrink");
        refuses("without a generator", idle, "replay", "run", "shrink");
        refuses("one node short", idle, "replay", "run", "shrink");
        refuses("sixteen nodes, not complete", idle, "addGen", "replay", "run", "shrink");
        refuses("sixteen nodes, complete", idle, "addGen", "shrink");
        refuses("without a program", idle, "addGen", "replay", "run", "shrink");
        refuses("thirty-two instructions", idle, "addGen", "addOp", "shrink");
        refuses("ready", idle, "addGen", "shrink");
        refuses("ready, with a full buffer", idle, "addGen", "pushChoice", "shrink");
        refuses("ready, with a full buffer used whole", idle, "addGen", "pushChoice", "shrink");
        refuses("discarded", idle, "addGen", "shrink");
        Check.due("moments in PH_IDLE", 11, idle.size());
    }

    private static void inFound() {
        Check.says("phase is not PH_IDLE", "addGen, addOp, replay, run");
        Map<String, Supplier<ChoiceShrink>> found = Moment.found();
        for (String moment : found.keySet()) {
            if (moment.equals("found, with a full buffer")) {
                refuses(moment, found, "addGen", "addOp", "pushChoice", "replay", "run");
            } else {
                refuses(moment, found, "addGen", "addOp", "replay", "run");
            }
        }
    }

    private static void inDone() {
        Check.says("Refused (-1, no change) if phase is not PH_FOUND.", "shrink; all but pushChoice for not PH_IDLE");
        Map<String, Supplier<ChoiceShrink>> done = Moment.done();
        refuses("done", done, "addGen", "addOp", "replay", "run", "shrink");
        refuses("done, with a full buffer", done, "addGen", "addOp", "pushChoice", "replay", "run", "shrink");
    }

    /** These methods are refused at this moment, and no other one is. */
    private static void refuses(String moment, Map<String, Supplier<ChoiceShrink>> made, String... methods) {
        for (String method : RIGHT.keySet()) {
            boolean refused = Arrays.asList(methods).contains(method);
            RIGHT.get(method).forEach((call, asked) -> {
                String told = moment + ": " + call;
                if (refused) {
                    Refused.due(told, made.get(moment), asked);
                } else {
                    Check.due(told + " is taken", 1, asked.applyAsInt(made.get(moment).get()) >= 0 ? 1 : 0);
                }
            });
        }
    }

    private static void wrongArgumentsAtEveryMoment() {
        Check.says("kind not in 1..3; kind is G_INT and bound not in 0..255",
            "with the wrong arguments of addOp and pushChoice");
        for (Map<String, Supplier<ChoiceShrink>> made : List.of(Moment.idle(), Moment.found(), Moment.done())) {
            made.forEach((moment, maker) ->
                WRONG.forEach((call, asked) -> Refused.due(moment + ": " + call, maker, asked)));
        }
    }
}
