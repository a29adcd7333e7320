import java.lang.reflect.Method;

/** Makes calls that are written down in a text. */
final class Asked {
    private Asked() {
    }

    /** The answer of x to the method of this name with these arguments, which are numbers and truths. */
    static long answer(RetryChains x, String name, String arguments) throws ReflectiveOperationException {
        String[] texts = arguments.isEmpty() ? new String[0] : arguments.split(", ");
        Object[] values = new Object[texts.length];
        for (int i = 0; i < texts.length; i++) {
            boolean isTruth = texts[i].equals("true") || texts[i].equals("false");
            values[i] = isTruth ? (Object) Boolean.valueOf(texts[i]) : (Object) Integer.valueOf(texts[i]);
        }
        for (Method method : RetryChains.class.getMethods()) {
            if (method.getName().equals(name) && method.getParameterCount() == values.length) {
                return ((Number) method.invoke(x, values)).longValue();
            }
        }
        throw new NoSuchMethodException(name);
    }
}
