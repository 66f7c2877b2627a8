/** A call by its name, so that FieldTiles and the Model can be asked the same. */
final class Call {
    private Call() {
    }

    static long answer(Object asked, String name, Object... arguments) throws Exception {
        Class<?>[] types = new Class<?>[arguments.length];
        for (int i = 0; i < types.length; i++) {
            types[i] = arguments[i] instanceof Boolean ? boolean.class : int.class;
        }
        return ((Number) asked.getClass().getMethod(name, types).invoke(asked, arguments)).longValue();
    }
}
