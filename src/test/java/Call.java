import java.util.ArrayList;
import java.util.List;

/** One call of the face, written as its name and its arguments; a boolean is written 0 or 1. */
record Call(String name, List<Integer> arguments) {
    static Call read(String text) {
        String[] words = text.trim().split("\\s+");
        List<Integer> arguments = new ArrayList<>();
        for (int i = 1; i < words.length; i++) {
            arguments.add(Integer.valueOf(words[i]));
        }
        return new Call(words[0], arguments);
    }

    static Call of(String name, int... numbers) {
        List<Integer> arguments = new ArrayList<>();
        for (int number : numbers) {
            arguments.add(number);
        }
        return new Call(name, arguments);
    }

    /** The answer of the call: a number, true, false, ok, or bounds, argument or state for an exception. */
    String answerOf(Face face) {
        try {
            return answer(face);
        } catch (RuntimeException e) {
            return wasThrownByCode(e) ? nameOf(e) : "the machine threw " + e;
        }
    }

    static boolean isException(String answer) {
        return answer.equals("bounds") || answer.equals("argument") || answer.equals("state");
    }

    private String answer(Face face) {
        switch (name) {
            case "open": return String.valueOf(face.open(at(0), at(1)));
            case "close": return String.valueOf(face.close(at(0)));
            case "state": return String.valueOf(face.state(at(0)));
            case "version": return String.valueOf(face.version());
            case "upgrade": return String.valueOf(face.upgrade());
            case "makeStore": face.makeStore(at(0), at(1)); return "ok";
            case "deleteStore": return String.valueOf(face.deleteStore(at(0), at(1)));
            case "makeIndex": face.makeIndex(at(0), at(1), at(2), at(3) == 1); return "ok";
            case "begin": return String.valueOf(face.begin(at(0), at(1), at(2) == 1));
            case "standing": return String.valueOf(face.standing(at(0)));
            case "commit": return String.valueOf(face.commit(at(0)));
            case "abort": return String.valueOf(face.abort(at(0)));
            case "put": return String.valueOf(face.put(at(0), at(1), at(2), at(3), at(4), at(5)));
            case "remove": return String.valueOf(face.remove(at(0), at(1), at(2), at(3)));
            case "get": return String.valueOf(face.get(at(0), at(1), at(2)));
            case "count": return String.valueOf(face.count(at(0), at(1), at(2), at(3)));
            case "cursor": return String.valueOf(face.cursor(at(0), at(1), at(2), at(3)));
            case "step": return String.valueOf(face.step(at(0)));
            case "update": return String.valueOf(face.update(at(0), at(1)));
            default: throw new AssertionError("no such call: " + name);
        }
    }

    private int at(int place) {
        return arguments.get(place);
    }

    // An exception of the machine or of the library has its first frame outside the program, or none.
    private static boolean wasThrownByCode(RuntimeException e) {
        StackTraceElement[] frames = e.getStackTrace();
        if (frames.length == 0) {
            return false;
        }
        String thrower = frames[0].getClassName();
        return thrower.startsWith("TabStore") || thrower.startsWith("Model");
    }

    private static String nameOf(RuntimeException e) {
        if (e.getClass() == IndexOutOfBoundsException.class) {
            return "bounds";
        }
        if (e.getClass() == IllegalArgumentException.class) {
            return "argument";
        }
        if (e.getClass() == IllegalStateException.class) {
            return "state";
        }
        return "a wrong exception: " + e;
    }

    @Override
    public String toString() {
        StringBuilder text = new StringBuilder(name);
        for (int argument : arguments) {
            text.append(' ').append(argument);
        }
        return text.toString();
    }
}
